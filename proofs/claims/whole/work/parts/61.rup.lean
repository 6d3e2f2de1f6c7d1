/-! the reference goes up the order -/
def belJ (f0 : Nat → Int64) (p : Nat) (K : List Nat) (f : Nat → Int64) : Prop := ∀ c, c < 61 → f c = if c = p then K.foldl (fun x c => x ||| (f0 c ||| bitL c)) 0 else f0 c
theorem belJ_step {l : List Nat} {f0 : Nat → Int64} {p i c : Nat} {f : Nat → Int64} (hc : l[i]? = some c) (hpl : p ∉ l) (hp : p < 61) (hc61 : c < 61) (h : belJ f0 p (l.take i) f) : belJ f0 p (l.take (i + 1)) (pu f p (f p ||| (f c ||| bitL c))) := by
  obtain ⟨hi, hci⟩ := List.getElem?_eq_some_iff.mp hc
  have hcp : c ≠ p := fun z => hpl (z ▸ List.mem_of_getElem? hc)
  intro x hx
  by_cases e : x = p
  · subst e
    rw [pu_at, h x hx, h c hc61, if_pos rfl, if_neg hcp, if_pos rfl, List.take_succ_eq_append_getElem hi, hci, List.foldl_append]
    rfl
  · rw [pu_ne _ _ _ e, h x hx, if_neg e, if_neg e]
theorem neg_nI (n : Nat) : nI n + (-1) = nI n - 1 := by rw [Int32.sub_eq_add_neg]
section RUP
variable {S : pS} {m : Nat} {T : Tr}
theorem r_kn195 (h : RR S m T) (hT : tOk T) {p : Nat} (hpp : tPres T p = true) (l1 : Int32) {w0 : Nat → Nat} {f0 : Nat → Int64} (h11 : UJ w0 p [] (cI (S.2 (m + 11)))) (h13 : belJ f0 p [] (cJ (S.2 (m + 13)))) :
    ∃ S', iter (F_X10_knows_195 m l1 (nI p)) fu ((0 : Int32), S) = some S' ∧ MR S S' m [11, 13] [] ∧ UJ w0 p (tKids T p) (cI (S'.2 (m + 11))) ∧ belJ f0 p (tKids T p) (cJ (S'.2 (m + 13))) := by
  have hp61 := tOk_lt hT hpp
  have l12 := (hT.2.2.2.1 p hpp).1
  have hpk : p ∉ tKids T p := fun z => absurd rfl (tOk_kid hT hpp z).2.2.1
  exact iter_fu (F := F_X10_knows_195 m l1 (nI p)) (s := ((0 : Int32), S)) (fun i s => s.1 = nI i ∧ MR S s.2 m [11, 13] [] ∧ UJ w0 p ((tKids T p).take i) (cI (s.2.2 (m + 11))) ∧ belJ f0 p ((tKids T p).take i) (cJ (s.2.2 (m + 13)))) (tKids T p).length (by omega) ⟨rfl, MR_refl h.1 _ _, by rw [List.take_zero]; exact h11, by rw [List.take_zero]; exact h13⟩
    (by
      rintro ⟨b, S1⟩ ⟨h1, h2, h3, h4⟩
      dsimp only at h1 h2 h3 h4
      subst h1
      have hR := MR_RR h2 (by decide) h
      unfold F_X10_knows_195
      rw [s10_g1 h2.1, Option.bind_some, li_916, nI_add, s10_r1 h2.1 (by omega), Option.bind_some, r_many hR hpp, if_pos (Int32.le_refl _)]
      rw [List.take_length] at h3 h4
      exact ⟨_, rfl, h2, h3, h4⟩)
    (by
      rintro i ⟨b, S1⟩ hi ⟨h1, h2, h3, h4⟩
      dsimp only at h1 h2 h3 h4
      subst h1
      have hR := MR_RR h2 (by decide) h
      have hc : (tKids T p)[i]? = some (tKids T p)[i] := List.getElem?_eq_getElem hi
      have hc61 := (tOk_kid hT hpp (List.getElem_mem hi)).2.2.2
      generalize (tKids T p)[i] = c at *
      unfold F_X10_knows_195
      rw [s10_g1 h2.1, Option.bind_some, li_916, nI_add, s10_r1 h2.1 (by omega), Option.bind_some, r_many hR hpp, if_neg (nI_ge hi (by omega)), r_child hR hp61 (by omega) hpp hc, Option.bind_some, s10_g17 h2.1, Option.bind_some, s10_r17 h2.1 hp61, Option.bind_some, Option.bind_some, s10_r17 h2.1 hc61, Option.bind_some, s10_w17 h2.1 hp61, Option.bind_some]
      have u5 := UJ_step hc hpk hp61 hc61 h3
      have hs2 := sh_wI h2.1 (m + 11) p (cI (S1.2 (m + 11)) p + ((1 : Int32) + cI (S1.2 (m + 11)) c))
      have h22 : MR S (wI S1 (m + 11) p (cI (S1.2 (m + 11)) p + ((1 : Int32) + cI (S1.2 (m + 11)) c))) m [11, 13] [] := MR_I h2 (by decide) (by decide) (by decide) _ _
      rw [← s10_v17 h2.1] at u5
      have v13 : (wI S1 (m + 11) p (cI (S1.2 (m + 11)) p + ((1 : Int32) + cI (S1.2 (m + 11)) c))).2 (m + 13) = S1.2 (m + 13) := wI_ne _ _ _ (by omega)
      generalize wI S1 (m + 11) p (cI (S1.2 (m + 11)) p + ((1 : Int32) + cI (S1.2 (m + 11)) c)) = S2 at *
      rw [← v13] at h4
      rw [s10_g19 hs2, Option.bind_some, s10_r19 hs2 hp61, Option.bind_some, Option.bind_some, s10_r19 hs2 hc61, Option.bind_some, s10_w19 hs2 hp61, Option.bind_some]
      refine ⟨_, rfl, nI_1 _, MR_J h22 (by decide) (by decide) (by decide) _ _, ?_, ?_⟩
      · dsimp only
        rw [wJ_ne _ _ _ (show m + 11 ≠ m + 13 by omega)]; exact u5
      · dsimp only
        rw [s10_v19 hs2]
        exact belJ_step hc hpk hp61 hc61 h4)
theorem r_kn182 (h : RR S m T) (hT : tOk T) (hn : fI (S.2 m) 20 = nI (ordT T).length) (ho : ∀ j c, (ordT T)[j]? = some c → cI (S.2 (m + 8)) j = nI c) (h0 : ∀ c, c < 61 → cI (S.2 (m + 11)) c = 0 ∧ cJ (S.2 (m + 13)) c = 0) :
    ∃ S', iter (F_X10_knows_182 m) fu (nI (ordT T).length - 1, S) = some S' ∧ MR S S' m [11, 13] [] ∧ ∀ c, c < 61 → cI (S'.2 (m + 11)) c = nI (wayT T c) ∧ cJ (S'.2 (m + 13)) c = belT T c := by
  have hl := ord_len hT
  refine iter_fu (F := F_X10_knows_182 m) (s := (nI (ordT T).length - 1, S)) (fun t s => s.1 = nI ((ordT T).length - t) - 1 ∧ MR S s.2 m [11, 13] [] ∧ ∀ c, c < 61 → cI (s.2.2 (m + 11)) c = nI (upf (wayg T) ((ordT T).drop ((ordT T).length - t)) (fun _ => 0) c) ∧ cJ (s.2.2 (m + 13)) c = upf (belg T) ((ordT T).drop ((ordT T).length - t)) (fun _ => 0) c) (ordT T).length (by omega) ⟨rfl, MR_refl h.1 _ _, fun c hc => ?_⟩ ?_ ?_
  · rw [Nat.sub_zero, List.drop_length]; exact h0 c hc
  · rintro ⟨b, S1⟩ ⟨h1, h2, h3⟩
    dsimp only at h1 h2 h3
    rw [Nat.sub_self] at h1 h3
    rw [List.drop_zero] at h3
    subst h1
    unfold F_X10_knows_182
    rw [if_pos (by show nI 0 - 1 < 0; decide)]
    exact ⟨_, rfl, h2, h3⟩
  · rintro t ⟨b, S1⟩ ht ⟨h1, h2, h3⟩
    dsimp only at h1 h2 h3
    obtain ⟨u, hu⟩ : ∃ u, (ordT T).length - t = u + 1 := ⟨(ordT T).length - t - 1, by omega⟩
    rw [hu] at h1 h3
    rw [nI_pred] at h1
    subst h1
    have hul : u < (ordT T).length := by omega
    have hp : (ordT T)[u]? = some (ordT T)[u] := List.getElem?_eq_getElem hul
    generalize (ordT T)[u] = p at *
    have hpp := (ord_mem hT p).mp (List.mem_of_getElem? hp)
    have hp61 := tOk_lt hT hpp
    have hnin := ord_nin hT hp
    have z1 : upf (wayg T) ((ordT T).drop (u + 1)) (fun _ => 0) p = 0 := upf_out _ _ hnin
    have z2 : upf (belg T) ((ordT T).drop (u + 1)) (fun _ => 0) p = 0 := upf_out _ _ hnin
    obtain ⟨S2, e, m2, j1, j2⟩ := r_kn195 (MR_RR h2 (by decide) h) hT hpp (nI u) (w0 := upf (wayg T) ((ordT T).drop (u + 1)) (fun _ => 0)) (f0 := upf (belg T) ((ordT T).drop (u + 1)) (fun _ => 0))
      (fun c hc => by
        rw [(h3 c hc).1]
        by_cases e : c = p
        · rw [if_pos e, e, z1]; rfl
        · rw [if_neg e])
      (fun c hc => by
        rw [(h3 c hc).2]
        by_cases e : c = p
        · rw [if_pos e, e, z2]; rfl
        · rw [if_neg e])
    unfold F_X10_knows_182
    rw [if_neg (nI_pos (by omega)), s10_g14 h2.1, Option.bind_some, s10_r14 h2.1 (by omega), Option.bind_some, h2.2.2.2.1 8 (by decide) (by decide), ho u p hp]
    dsimp only
    rw [e, Option.bind_some]
    have eu : (ordT T).length - (t + 1) = u := by omega
    refine ⟨_, rfl, ?_, MR_trans h2 m2, fun c hc => ?_⟩
    · show nI u + (-1) = nI ((ordT T).length - (t + 1)) - 1
      rw [eu, neg_nI]
    · rw [eu, upf_drop _ _ hp, upf_drop _ _ hp]
      dsimp only
      rw [j1 c hc, j2 c hc]
      by_cases ec : c = p
      · subst ec
        rw [if_pos rfl, if_pos rfl, pu_at, pu_at]
        exact ⟨rfl, rfl⟩
      · rw [if_neg ec, if_neg ec, pu_ne _ _ _ ec, pu_ne _ _ _ ec]
        exact ⟨rfl, rfl⟩
/-- what the reference knows -/
def RK (S : pS) (m : Nat) (T : Tr) : Prop := fI (S.2 m) 20 = nI (ordT T).length ∧ (∀ j c, (ordT T)[j]? = some c → cI (S.2 (m + 8)) j = nI c) ∧
  ∀ c, c < 61 → cI (S.2 (m + 10)) c = nI (plcT T c) ∧ cI (S.2 (m + 11)) c = nI (wayT T c) ∧ cI (S.2 (m + 12)) c = dpk T (rcd T) (ordT T).length c ∧ cJ (S.2 (m + 13)) c = belT T c
theorem r_knows (h : RR S m T) (hT : tOk T) : ∃ S', F_X10_knows S m = some S' ∧ MR S S' m [8, 9, 10, 11, 12, 13] [20] ∧ RK S' m T := by
  unfold F_X10_knows
  obtain ⟨S1, e1, m1, n1, o1⟩ := r_orders h hT
  rw [s10_oF h.1, e1, Option.bind_some]
  obtain ⟨S2, e2, m2, w2⟩ := r_kn6 m1.1
  rw [e2, Option.bind_some]
  have h1 := MR_RR m1 (by decide) h
  have h2 := MR_RR m2 (by decide) h1
  have n2 : fI (S2.2 m) 20 = nI (ordT T).length := by rw [m2.2.2.2.2 20 (by decide)]; exact n1
  have o2 : ∀ j c, (ordT T)[j]? = some c → cI (S2.2 (m + 8)) j = nI c := fun j c hc => by rw [m2.2.2.2.1 8 (by decide) (by decide)]; exact o1 j c hc
  obtain ⟨S3, e3, m3, w3⟩ := r_kn56 h2 hT n2 o2 (fun c hc => ⟨(w2 c hc).1, (w2 c hc).2.2.1⟩)
  rw [e3, Option.bind_some]
  have h3 := MR_RR m3 (by decide) h2
  have n3 : fI (S3.2 m) 20 = nI (ordT T).length := by rw [m3.2.2.2.2 20 (by decide)]; exact n2
  have o3 : ∀ j c, (ordT T)[j]? = some c → cI (S3.2 (m + 8)) j = nI c := fun j c hc => by rw [m3.2.2.2.1 8 (by decide) (by decide)]; exact o2 j c hc
  rw [s10_g20 m3.1, Option.bind_some, n3]
  obtain ⟨S4, e4, m4, w4⟩ := r_kn182 h3 hT n3 o3 (fun c hc => by
    rw [m3.2.2.2.1 11 (by decide) (by decide), m3.2.2.2.1 13 (by decide) (by decide)]
    exact ⟨(w2 c hc).2.1, (w2 c hc).2.2.2⟩)
  rw [e4, Option.bind_some]
  refine ⟨_, rfl, MR_trans (MR_sub m1 (by decide) (by decide)) (MR_trans (MR_sub m2 (by decide) (by decide)) (MR_trans (MR_sub m3 (by decide) (by decide)) (MR_sub m4 (by decide) (by decide)))), ?_, fun j c hc => ?_, fun c hc => ?_⟩
  · rw [m4.2.2.2.2 20 (by decide)]; exact n3
  · rw [m4.2.2.2.1 8 (by decide) (by decide)]; exact o3 j c hc
  · rw [m4.2.2.2.1 10 (by decide) (by decide), m4.2.2.2.1 12 (by decide) (by decide)]
    exact ⟨(w3 c hc).1, (w4 c hc).1, (w3 c hc).2, (w4 c hc).2⟩
end RUP
