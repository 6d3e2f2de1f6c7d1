/-! lines: the class finds them; the reference walks -/
section RWL
variable {S : pS} {b t m : Nat} {T : Tr} {sh op : Nat → Bool}
def rowsT (T : Tr) (sh op : Nat → Bool) (h : Nat) : List Rw := wlk T sh op 61 h 0 0 [(h, -1000000, 0, -1)]
theorem c_find {opn l3 : Int64} (hT : tOk T) (hs : Sh S b sp5) (ht : TR S t T) (hbt : t + 7 ≤ b ∨ b + 6 ≤ t) {h : Nat} (hp : tPres T h = true) (hw : wayT T h ≤ 300) (hsh : ∀ c, tPres T c = true → lb l3 c = sh c) (hop : ∀ c, tPres T c = true → lb opn c = op c) :
    ∃ S', F_X5_find S b t (nI h) l3 opn = some S' ∧ LR S' b (rowsT T sh op h) ∧ Bk S S' b 6 := by
  unfold F_X5_find
  have hp61 := tOk_lt hT hp
  rw [s5_oF hs, s5_p5 hs, Option.bind_some]
  have k1 := s5_k5 hs hs 0
  have v1 := s5_v5 hs 0
  have n1 : (wF S b 5 (.int 0)).1 = S.1 := rfl
  have o1 : ∀ q, q ≠ b → (wF S b 5 (.int 0)).2 q = S.2 q := fun q hq => wF_ne _ _ _ hq
  generalize wF S b 5 (.int 0) = S1 at *
  obtain ⟨S2, e2, L2, nx2, b2⟩ := c_putRow (acc := []) k1 v1 (fun j row hj => by simp at hj) (Nat.zero_lt_succ _) h 0 (-1000000) (-1)
  have e2' : F_X5_putRow S1 b (nI h) (-1000000 : Int32) (0 : Int32) (-1 : Int32) = some S2 := e2
  have t2 : TR S2 t T := TR_fr ht (by have := b2.1; omega) (fun q q1 q2 => (b2.2 q (by omega)).trans (o1 q (by omega)))
  rw [e2', Option.bind_some, with_1, Option.bind_some]
  have hq : lb (withL opn h true) h = true := by rw [lb_withL _ _ (by omega) (by omega), if_pos rfl]
  obtain ⟨S3, k, hk, run3, L3, t3, nx3, -, b3⟩ := c_wk (sh := sh) (op := op) (H := remT T h) hT hbt hsh (fun c hc hr => by
    have hc61 := tOk_lt hT hc
    rw [lb_withL _ _ (by omega) (by omega), if_neg (fun z => by rw [z] at hr; omega)]
    exact hop c hc) 61 h hp (rem_le hT h) (Nat.le_refl _) hq 0 (-1) (-1000000) 0 [(h, -1000000, 0, -1)] S2 0 L2 t2 rfl (by rw [nx2]; exact pu_at _ _ _) (by show 1 + wayT T h ≤ 301; omega) (by omega)
  have len3 := wlk_len hT sh op 61 h (-1 + 1) 0 [(h, -1000000, 0, -1)] hp
  have lv := c_leave (l3 := l3) (q7 := withL opn h true) (st := 0 + k) hT L3 t3 (pre_get len3.1 (r := 0) rfl) (by have := len3.2; rw [List.length_singleton] at this; omega) hp (by omega) (Or.inr nx3)
  have ex : F_X5_find_29 b t l3 (withL opn h true) ((-1000000 : Int32), nI (0 + k + 1), S3) = some (.inr S3) := by
    unfold F_X5_find_29
    dsimp only
    by_cases c : (602 : Int32) ≤ nI (0 + k + 1)
    · rw [if_pos c]
    · rw [if_neg c, if_pos (by decide)]
  have ei : iter (F_X5_find_29 b t l3 (withL opn h true)) fu ((0 : Int32), (0 : Int32), S2) = some S3 := Run_end (Run_t run3 (Run_1 lv)) (by omega) ex
  rw [ei, Option.bind_some]
  exact ⟨S3, rfl, L3, Bk_trans (Bk_trans (S1 := S1) ⟨n1, fun q hq => o1 q (by omega)⟩ b2) b3⟩
/-! the reference -/
def LM (S : pS) (m : Nat) (acc : List Rw) : Prop := fI (S.2 m) 41 = nI (acc.length - 1) ∧ ∀ (j : Nat) row, acc[j + 1]? = some row → cI (S.2 (m + 25)) j = nI row.1 ∧ cI (S.2 (m + 26)) j = row.2.2.2 ∧ cI (S.2 (m + 28)) j = nI row.2.2.1 ∧ ∃ r rw', row.2.1 = nI r ∧ r ≤ j ∧ acc[r]? = some rw' ∧ cI (S.2 (m + 27)) j = nI rw'.1
theorem r_161 {acc : List Rw} {r d p k c ix : Nat} {ab dr : Int32} (h : Sh S m sp10) (hL : LM S m acc) (hr : acc[r]? = some (p, ab, ix, dr)) (hl : acc.length ≤ 300) (l1 : Int64) : ∃ S1, MR S S1 m [25, 26, 27, 28] [41] ∧ LM S1 m (acc ++ [(c, nI r, k, nI d)]) ∧
    F_X10_lines_161 m l1 S (nI d) (nI p) (nI k) (nI c) = (oGI S1 m 10 30).bind fun x71 => if 0 < x71 then (F_X10_lines_231 m l1 S1 (nI d) (nI c)) else ((F_X10_has S1 m (nI c) (1 : Int32)).bind fun q81 => if ¬ q81 = 0 then (some (.inl (nI d, S1))) else (F_X10_lines_231 m l1 S1 (nI d) (nI c))) := by
  have hr2 := (List.getElem?_eq_some_iff.mp hr).1
  obtain ⟨N, hN⟩ : ∃ N, acc.length = N + 1 := ⟨acc.length - 1, by omega⟩
  have hn : fI (S.2 m) 41 = nI N := by rw [hL.1, hN]; rfl
  have hN4 : N < 400 := by omega
  unfold F_X10_lines_161
  rw [s10_g37 h, Option.bind_some, s10_g41 h, Option.bind_some, hn, s10_w37 h hN4, Option.bind_some]
  have m1 := MR_I (MR_refl h [25, 26, 27, 28] [41]) (j := 25) (by decide) (by decide) (by decide) N (nI c)
  have v1 := s10_v37 h N (nI c)
  have o1 : ∀ q, q ≠ m + 25 → (wI S (m + 25) N (nI c)).2 q = S.2 q := fun q hq => wI_ne _ _ _ hq
  generalize wI S (m + 25) N (nI c) = S1 at *
  rw [s10_g38 m1.1, Option.bind_some, s10_g41 m1.1, Option.bind_some, o1 m (by omega), hn, s10_w38 m1.1 hN4, Option.bind_some]
  have m2 := MR_I m1 (j := 26) (by decide) (by decide) (by decide) N (nI d)
  have v2 := s10_v38 m1.1 N (nI d)
  have o2 : ∀ q, q ≠ m + 26 → (wI S1 (m + 26) N (nI d)).2 q = S1.2 q := fun q hq => wI_ne _ _ _ hq
  generalize wI S1 (m + 26) N (nI d) = S2 at *
  rw [s10_g39 m2.1, Option.bind_some, s10_g41 m2.1, Option.bind_some, o2 m (by omega), o1 m (by omega), hn, s10_w39 m2.1 hN4, Option.bind_some]
  have m3 := MR_I m2 (j := 27) (by decide) (by decide) (by decide) N (nI p)
  have v3 := s10_v39 m2.1 N (nI p)
  have o3 : ∀ q, q ≠ m + 27 → (wI S2 (m + 27) N (nI p)).2 q = S2.2 q := fun q hq => wI_ne _ _ _ hq
  generalize wI S2 (m + 27) N (nI p) = S3 at *
  rw [s10_g40 m3.1, Option.bind_some, s10_g41 m3.1, Option.bind_some, o3 m (by omega), o2 m (by omega), o1 m (by omega), hn, s10_w40 m3.1 hN4, Option.bind_some]
  have m4 := MR_I m3 (j := 28) (by decide) (by decide) (by decide) N (nI k)
  have v4 := s10_v40 m3.1 N (nI k)
  have o4 : ∀ q, q ≠ m + 28 → (wI S3 (m + 28) N (nI k)).2 q = S3.2 q := fun q hq => wI_ne _ _ _ hq
  generalize wI S3 (m + 28) N (nI k) = S4 at *
  rw [s10_g41 m4.1, Option.bind_some, o4 m (by omega), o3 m (by omega), o2 m (by omega), o1 m (by omega), hn, nI_1, s10_p41 m4.1, Option.bind_some]
  have k5 := s10_k41 m4.1 m4.1 (nI (N + 1))
  have m5 := MR_F m4 (by decide) k5
  have v5 := s10_v41 m4.1 (nI (N + 1))
  have o5 : ∀ q, q ≠ m → (wF S4 m 41 (.int (nI (N + 1)))).2 q = S4.2 q := fun q hq => wF_ne _ _ _ hq
  generalize wF S4 m 41 (.int (nI (N + 1))) = S5 at *
  refine ⟨S5, m5, ⟨by rw [v5, List.length_append, hN]; rfl, fun j row hj => ?_⟩, rfl⟩
  have w1 : cI (S5.2 (m + 25)) = pu (cI (S.2 (m + 25))) N (nI c) := by rw [o5 _ (by omega), o4 _ (by omega), o3 _ (by omega), o2 _ (by omega), v1]
  have w2 : cI (S5.2 (m + 26)) = pu (cI (S.2 (m + 26))) N (nI d) := by rw [o5 _ (by omega), o4 _ (by omega), o3 _ (by omega), v2, o1 _ (by omega)]
  have w3 : cI (S5.2 (m + 27)) = pu (cI (S.2 (m + 27))) N (nI p) := by rw [o5 _ (by omega), o4 _ (by omega), v3, o2 _ (by omega), o1 _ (by omega)]
  have w4 : cI (S5.2 (m + 28)) = pu (cI (S.2 (m + 28))) N (nI k) := by rw [o5 _ (by omega), v4, o3 _ (by omega), o2 _ (by omega), o1 _ (by omega)]
  rw [w1, w2, w3, w4]
  by_cases e : j = N
  · subst e
    rw [List.getElem?_append_right (by omega), show j + 1 - acc.length = 0 by omega] at hj
    have : (c, nI r, k, nI d) = row := by simpa using hj
    subst this
    rw [pu_at, pu_at, pu_at, pu_at]
    exact ⟨rfl, rfl, rfl, r, _, rfl, by omega, by rw [List.getElem?_append_left hr2]; exact hr, rfl⟩
  · have hj2 := (List.getElem?_eq_some_iff.mp hj).1
    rw [List.length_append, List.length_singleton] at hj2
    rw [List.getElem?_append_left (by omega)] at hj
    obtain ⟨a1, a2, a3, r', rw', a4, a5, a6, a7⟩ := hL.2 j row hj
    rw [pu_ne _ _ _ e, pu_ne _ _ _ e, pu_ne _ _ _ e, pu_ne _ _ _ e]
    exact ⟨a1, a2, a3, r', rw', a4, a5, by rw [List.getElem?_append_left (by omega)]; exact a6, a7⟩
end RWL
