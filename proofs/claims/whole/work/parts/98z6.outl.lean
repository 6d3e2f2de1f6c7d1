/-! outlines are read: the reference -/
section OLR
variable {S : pS} {tx : List Int32} {p m : Nat} {A : As}
theorem rowG_fr {S1 : pS} {j : Nat} {e : Ent} (h : rowG S m j e) (a : ∀ k, 33 ≤ k → k < 40 → S1.2 (m + k) = S.2 (m + k)) (a6 : S1.2 (m + 6) = S.2 (m + 6)) : rowG S1 m j e := by
  unfold rowG
  rw [a 33 (by decide) (by decide), a 34 (by decide) (by decide), a 35 (by decide) (by decide), a 36 (by decide) (by decide), a 37 (by decide) (by decide), a 38 (by decide) (by decide), a 39 (by decide) (by decide), a6]
  exact h
theorem RwsG_M {S1 : pS} {ks : List Nat} {L : List Ent} (h : RwsG S m L) (hM : MR S S1 m [] ks) : RwsG S1 m L := fun j e hj => rowG_fr (h j e hj) (fun k a b => hM.2.2.2.1 k (by simp) (by omega)) (hM.2.2.2.1 6 (by simp) (by decide))
theorem RwsG_snoc {S1 : pS} {L : List Ent} {e : Ent} (h : RwsG S m L) (f : Rg S S1 m L.length) (he : rowG S1 m L.length e) : RwsG S1 m (L ++ [e]) := by
  intro j e' hj
  have hj2 := (List.getElem?_eq_some_iff.mp hj).1
  rw [List.length_append, List.length_singleton] at hj2
  by_cases z : j = L.length
  · subst z
    rw [List.getElem?_append_right (Nat.le_refl _), Nat.sub_self] at hj
    have : e = e' := by simpa using hj
    subst this
    exact he
  · rw [List.getElem?_append_left (by omega)] at hj
    exact Rg_row f (by omega) (h j e' hj)
abbrev MG (S S' : pS) (m : Nat) : Prop := MR S S' m gAr [21, 23, 54]
def roE (S1 : pS) (m : Nat) (tx : List Int32) (r : Bool × Nat × List Ent) (k0 : Nat) : Prop := ∃ s' k S', k ≤ k0 ∧ Run (F_X10_readsOutline_13 m) S1 s' k ∧ F_X10_readsOutline_13 m s' = some (.inr S') ∧ MG S1 S' m ∧ RP S' m tx r.2.1 r.1 ∧ (r.1 = true → RwsG S' m r.2.2 ∧ fI (S'.2 m) 54 = nI r.2.2.length)
theorem ro_stop {p : Nat} (hs : Sh S m sp10) (h : RP S m tx p true) (ht : txOk tx) (hp : p < tx.length) (h5 : nxt tx p ≠ 59) (L : List Ent) (k0 : Nat) (hk : 1 ≤ k0) : roE S m tx (false, p, L) k0 := by
  have hl := ht.1
  obtain ⟨S1, e1, m1, r1⟩ := RP_g hs h false
  have e49 : F_X10_readsOutline_46 m S m (0 : Int32) = some (.inl S1) := by
    unfold F_X10_readsOutline_46
    rw [show oPZ S m 10 23 (0 : Int32) = some S1 from e1, Option.bind_some, s10_g23 m1.1, Option.bind_some, r1.2.2.1, ite0 rfl]
  have st : F_X10_readsOutline_13 m S = some (.inl S1) := by
    unfold F_X10_readsOutline_13
    rw [s10_g23 hs, Option.bind_some, h.2.2.1, ite1 rfl, s10_g21 hs, Option.bind_some, s10_g22 hs, Option.bind_some, h.1, h.2.1, if_neg (nI_ge hp (by omega)), r_here hs h ht (by omega), Option.bind_some, if_pos (show ¬ here tx p = 59 from fun w => h5 ((here_eq ht p (by decide)).mp w)), e49]
  have ex : F_X10_readsOutline_13 m S1 = some (.inr S1) := by
    unfold F_X10_readsOutline_13
    rw [s10_g23 m1.1, Option.bind_some, r1.2.2.1, ite0 rfl]
  exact ⟨S1, 1, S1, hk, Run_1 st, ex, MR_sub m1 (by simp) (by decide), r1, fun z => by cases z⟩
theorem ro_bad {p : Nat} (hs : Sh S m sp10) (h : RP S m tx p false) (L : List Ent) (k0 : Nat) : roE S m tx (false, p, L) k0 := by
  have ex : F_X10_readsOutline_13 m S = some (.inr S) := by
    unfold F_X10_readsOutline_13
    rw [s10_g23 hs, Option.bind_some, h.2.2.1, ite0 rfl]
  exact ⟨S, 0, S, Nat.zero_le _, Run_0, ex, MR_refl hs _ _, h, fun z => by cases z⟩
theorem ro_end (hs : Sh S m sp10) (ht : txOk tx) (h : RP S m tx tx.length true) {L : List Ent} (hr : RwsG S m L) (h54 : fI (S.2 m) 54 = nI L.length) (k0 : Nat) : roE S m tx (true, tx.length, L) k0 := by
  have hl := ht.1
  have ex : F_X10_readsOutline_13 m S = some (.inr S) := by
    unfold F_X10_readsOutline_13
    rw [s10_g23 hs, Option.bind_some, h.2.2.1, ite1 rfl, s10_g21 hs, Option.bind_some, s10_g22 hs, Option.bind_some, h.1, h.2.1, if_pos (Int32.le_refl _)]
  exact ⟨S, 0, S, Nat.zero_le _, Run_0, ex, MR_refl hs _ _, h, fun _ => ⟨hr, h54⟩⟩
theorem rdE_end (k most : Nat) : rdE tx k most tx.length = (false, tx.length, e0E 0) := by
  have hp : ptC tx most tx.length = 0 := by
    cases most with
    | zero => rfl
    | succ n =>
      show (if nxt tx tx.length = 46 then _ else 0) = 0
      rw [nxt_ge (Nat.le_refl _)]; rfl
  have hlt : ltC tx 10 tx.length = 0 := ltC_eq 0 10 _ (by omega) (fun i hi => absurd hi (Nat.not_lt_zero _)) (Or.inr (by rw [Nat.add_zero, nxt_ge (Nat.le_refl _)]; decide))
  unfold rdE rdE2
  rw [hp, Nat.add_zero, nxt_ge (Nat.le_refl _), if_neg (fun z => absurd z.2 (by decide)), if_neg (by omega)]
theorem r_rdO (ht : txOk tx) : ∀ (n p : Nat) (L : List Ent) (S : pS), L.length + n = 40 → 2 * L.length ≤ p → ELo L → p ≤ tx.length → Sh S m sp10 → RP S m tx p true → RwsG S m L → fI (S.2 m) 54 = nI L.length → ∃ S1, F_X10_readsEntry S m = some S1 ∧ MG S S1 m ∧ roE S1 m tx (rdO tx n p L) (n + 1) := by
  have hl80 := ht.1
  intro n
  induction n with
  | zero =>
    intro p L S hl h2p hL hp hs hx hr h54
    obtain ⟨S1, e1, f1, g, r1, b1, b2, b3⟩ := r_entry hs hx ht hp hr hL (by omega) h54
    refine ⟨S1, e1, f1.1, ?_⟩
    have hpe : p = tx.length := by omega
    subst hpe
    rw [rdE_end] at r1 b1
    rw [b1 rfl] at r1
    exact ro_bad f1.1.1 r1 _ _
  | succ n ih =>
    intro p L S hl h2p hL hp hs hx hr h54
    obtain ⟨S1, e1, f1, g, r1, b1, b2, b3⟩ := r_entry hs hx ht hp hr hL (by omega) h54
    obtain ⟨h1, h2⟩ := rdE_ok (k := L.length) (most := mostL L) ht hp
    refine ⟨S1, e1, f1.1, ?_⟩
    rw [rdO_s]
    have hlen : (L ++ [(rdE tx L.length (mostL L) p).2.2]).length = L.length + 1 := by rw [List.length_append]; rfl
    cases ok : (rdE tx L.length (mostL L) p).1
    · rw [b1 ok] at r1
      rw [if_neg (by decide)]
      exact ro_bad f1.1.1 r1 _ _
    · rw [if_pos rfl]
      obtain ⟨hlt, heok⟩ := h2 ok
      rcases b2 ok with z | ⟨z, w⟩
      · rw [z] at r1
        obtain ⟨b4, b5⟩ := b3 z
        by_cases a : nxt tx (rdE tx L.length (mostL L) p).2.1 = 59
        · have hin := nxt_in a (by decide)
          rw [if_pos a]
          obtain ⟨S2, e2, m2, r2⟩ := RP_g f1.1.1 r1 true
          obtain ⟨S3, e3, m3, r3⟩ := RP_p m2.1 r2 ((rdE tx L.length (mostL L) p).2.1 + 1)
          have m13 : MR S1 S3 m [] [21, 23] := MR_trans (MR_sub m2 (by simp) (by decide)) (MR_sub m3 (by simp) (by decide))
          obtain ⟨S4, e4, m4, s', k, S', k1, run, ex, mm, rr, rest⟩ := ih ((rdE tx L.length (mostL L) p).2.1 + 1) (L ++ [(rdE tx L.length (mostL L) p).2.2]) S3 (by omega) (by omega) (ELo_snoc hL heok) hin m3.1 r3 (RwsG_M (RwsG_snoc hr f1 b4) m13) (by rw [m13.2.2.2.2 54 (by decide), b5, hlen])
          have st : F_X10_readsOutline_13 m S1 = some (.inl S4) := by
            unfold F_X10_readsOutline_13
            rw [s10_g23 f1.1.1, Option.bind_some, r1.2.2.1, ite1 rfl, s10_g21 f1.1.1, Option.bind_some, s10_g22 f1.1.1, Option.bind_some, r1.1, r1.2.1, if_neg (nI_ge (show (rdE tx L.length (mostL L) p).2.1 < tx.length by omega) (by omega)), r_here f1.1.1 r1 ht (by omega), Option.bind_some, if_neg (show ¬ ¬ here tx (rdE tx L.length (mostL L) p).2.1 = 59 from fun w => w ((here_eq ht _ (by decide)).mpr a))]
            unfold F_X10_readsOutline_46
            rw [show oPZ S1 m 10 23 (1 : Int32) = some S2 from e2, Option.bind_some, s10_g23 m2.1, Option.bind_some, r2.2.2.1, ite1 rfl, s10_g21 m2.1, Option.bind_some, r2.1, nI_1, e3, Option.bind_some, e4, Option.bind_some]
          exact ⟨s', 1 + k, S', by omega, Run_t (Run_1 st) run, ex, MR_trans (MR_sub m13 (by simp) (by decide)) (MR_trans m4 mm), rr, rest⟩
        · rw [if_neg a]
          by_cases y : (rdE tx L.length (mostL L) p).2.1 = tx.length
          · rw [decide_eq_true y, y]
            rw [y] at r1
            exact ro_end f1.1.1 ht r1 (RwsG_snoc hr f1 b4) (by rw [b5, hlen]) _
          · rw [decide_eq_false y]
            exact ro_stop f1.1.1 r1 ht (by omega) a _ _ (by omega)
      · rw [z] at r1
        have y : ¬ (rdE tx L.length (mostL L) p).2.1 = tx.length := fun y => by rw [y, nxt_ge (Nat.le_refl _)] at w; exact absurd w (by decide)
        have a : ¬ nxt tx (rdE tx L.length (mostL L) p).2.1 = 59 := fun a => by rw [a] at w; exact absurd w (by decide)
        rw [if_neg a, decide_eq_false y]
        exact ro_bad f1.1.1 r1 _ _
theorem r_readsOutline (h : RS S m A) (hA : aOk A) : if (rdO (aTx A) 40 0 []).1 = true then ∃ S', F_X10_readsOutline S m = some (1, S') ∧ RS S' m (aSetTx A []) ∧ MR S S' m gAr [10, 11, 21, 22, 23, 54] ∧ RwsG S' m (rdO (aTx A) 40 0 []).2.2 ∧ fI (S'.2 m) 54 = nI (rdO (aTx A) 40 0 []).2.2.length
    else ∃ S', F_X10_readsOutline S m = some (0, S') ∧ RS S' m (aSetEr (aSetTx A []) (some (rdO (aTx A) 40 0 []).2.1)) ∧ MR S S' m gAr [10, 11, 21, 22, 23, 54] := by
  have ht := txOk_of hA
  have hl := ht.1
  unfold F_X10_readsOutline
  obtain ⟨S1, e1, h1, m1, r1⟩ := r_begins h
  rw [s10_oF h.1.1, e1, Option.bind_some, s10_p54 h1.1.1, Option.bind_some]
  have k2 := s10_k54 h1.1.1 h1.1.1 0
  have m2 := r_setF h1.1.1 0 k2
  have v2 := s10_v54 h1.1.1 0
  generalize wF S1 m 54 (.int 0) = S2 at *
  obtain ⟨S3, e3, m3, s', k, S4, k1', run, ex, m4, r4, rest⟩ := r_rdO (m := m) ht 40 0 [] S2 rfl (Nat.le_refl _) (fun j e he => by simp at he) (Nat.zero_le _) k2 (RP_fr r1 m2 (by simp) (by decide)) (fun j e he => by simp at he) v2
  have ei : iter (F_X10_readsOutline_13 m) fu S3 = some S4 := Run_end run (by omega) ex
  rw [e3, Option.bind_some, ei, Option.bind_some]
  have m24 : MR S1 S4 m gAr [10, 11, 21, 22, 23, 54] := MR_trans (MR_sub m2 (by simp) (by decide)) (MR_trans (MR_sub m3 (by decide) (by decide)) (MR_sub m4 (by decide) (by decide)))
  have m24' : MR S1 S4 m gAr [21, 23, 54] := MR_trans (MR_sub m2 (by simp) (by decide)) (MR_trans m3 m4)
  have h4 : RS S4 m (aSetTx A []) := RS_fr h1 m24' (by decide) (by decide) (by decide)
  have m14 : MR S S4 m gAr [10, 11, 21, 22, 23, 54] := MR_trans (MR_sub m1 (by simp) (by decide)) m24
  unfold F_X10_readsOutline_73 F_X10_readsOutline_92
  rw [s10_g23 h4.1.1, Option.bind_some, r4.2.2.1]
  cases ok : (rdO (aTx A) 40 0 []).1
  · rw [ok] at r4
    rw [if_neg (by decide), ite0 rfl, s10_g21 h4.1.1, Option.bind_some, r4.1, s10_p11 h4.1.1, Option.bind_some]
    have k5 := s10_k11 h4.1.1 h4.1.1 (nI (rdO (aTx A) 40 0 []).2.1)
    have v5 := s10_v11 h4.1.1 (nI (rdO (aTx A) 40 0 []).2.1)
    have m5 := r_setF h4.1.1 (nI (rdO (aTx A) 40 0 []).2.1) k5
    generalize wF S4 m 11 (.int (nI (rdO (aTx A) 40 0 []).2.1)) = S5 at *
    have f23 : fI (S5.2 m) 23 = 0 := by rw [m5.2.2.2.2 23 (by decide)]; exact r4.2.2.1
    have h5 : RS S5 m (aSetEr (aSetTx A []) (some (rdO (aTx A) 40 0 []).2.1)) := ⟨MR_RR m5 (by decide) h4.1, RX_er h4.2 m5 (by decide) v5⟩
    rw [s10_g23 k5, Option.bind_some, f23]
    exact ⟨S5, rfl, h5, MR_trans m14 (MR_sub m5 (by simp) (by decide))⟩
  · rw [ok] at r4
    obtain ⟨w1, w2⟩ := rest ok
    rw [if_pos rfl, ite1 rfl, s10_g11 h4.1.1, Option.bind_some, s10_p11 h4.1.1, Option.bind_some]
    have k5 := s10_k11 h4.1.1 h4.1.1 (fI (S4.2 m) 11)
    have v5 := s10_v11 h4.1.1 (fI (S4.2 m) 11)
    have m5 := r_setF h4.1.1 (fI (S4.2 m) 11) k5
    generalize wF S4 m 11 (.int (fI (S4.2 m) 11)) = S5 at *
    have hX : RX S5 m (aSetTx A []) := by
      have f : ∀ k, fI (S5.2 m) k = fI (S4.2 m) k := fun k => by
        by_cases c : k = 11
        · rw [c]; exact v5
        · exact m5.2.2.2.2 k (by simpa using c)
      have a : ∀ j, j ≠ 0 → S5.2 (m + j) = S4.2 (m + j) := fun j h0 => m5.2.2.2.1 j (by simp) h0
      unfold RX
      rw [f 5, f 6, f 8, f 10, f 11, f 13, f 30, a 2 (by decide), a 4 (by decide), a 5 (by decide), a 6 (by decide), a 7 (by decide), a 15 (by decide), a 16 (by decide), a 17 (by decide), a 18 (by decide), a 19 (by decide)]
      exact h4.2
    have f23 : fI (S5.2 m) 23 = 1 := by rw [m5.2.2.2.2 23 (by decide)]; exact r4.2.2.1
    rw [s10_g23 k5, Option.bind_some, f23]
    exact ⟨S5, rfl, ⟨MR_RR m5 (by decide) h4.1, hX⟩, MR_trans m14 (MR_sub m5 (by simp) (by decide)), RwsG_M w1 m5, by rw [m5.2.2.2.2 54 (by decide)]; exact w2⟩
end OLR
