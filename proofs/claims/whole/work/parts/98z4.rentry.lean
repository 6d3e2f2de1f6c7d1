/-! one entry is read: the reference -/
section REN
variable {S : pS} {tx : List Int32} {p m n : Nat}
def srR (s : Option Nat) : Int32 := match s with
  | none => -1
  | some v => nI v
def rowG (S : pS) (m n : Nat) (e : Ent) : Prop := cI (S.2 (m + 33)) n = nI e.1 ∧ cI (S.2 (m + 39)) n = srR e.2.1 ∧ (e.2.1 = none → (∃ fr, cI (S.2 (m + 34)) n = nI fr ∧ cI (S.2 (m + 35)) n = nI (fr + e.2.2.1.length) ∧ fr + e.2.2.1.length ≤ 80 ∧ ∀ (k : Nat) x, e.2.2.1[k]? = some x → cI (S.2 (m + 6)) (fr + k) = x) ∧ cI (S.2 (m + 36)) n = e.2.2.2.1 ∧ cI (S.2 (m + 37)) n = e.2.2.2.2.1 ∧ cI (S.2 (m + 38)) n = (if e.2.2.2.2.2 = true then 1 else 0))
def gAr : List Nat := [33, 34, 35, 36, 37, 38, 39]
def Rg (S S' : pS) (m n : Nat) : Prop := MR S S' m gAr [21, 23, 54] ∧ ∀ k i, 33 ≤ k → k < 40 → i < n → cI (S'.2 (m + k)) i = cI (S.2 (m + k)) i
theorem Rg_refl (hs : Sh S m sp10) : Rg S S m n := ⟨MR_refl hs _ _, fun _ _ _ _ _ => rfl⟩
theorem Rg_trans {S1 S2 : pS} (h : Rg S S1 m n) (h2 : Rg S1 S2 m n) : Rg S S2 m n := ⟨MR_trans h.1 h2.1, fun k i a b c => (h2.2 k i a b c).trans (h.2 k i a b c)⟩
theorem Rg_M {S1 : pS} {ks : List Nat} (h : MR S S1 m [] ks) (hk : ∀ k, k ∈ ks → k ∈ [21, 23, 54]) : Rg S S1 m n := ⟨MR_sub h (by simp) hk, fun k i a _ _ => by rw [h.2.2.2.1 k (by simp) (by omega)]⟩
theorem Rg_row {S1 : pS} {j : Nat} {e : Ent} (h : Rg S S1 m n) (hj : j < n) (hr : rowG S m j e) : rowG S1 m j e := by
  obtain ⟨r1, r2, r3⟩ := hr
  refine ⟨by rw [h.2 33 j (by omega) (by omega) hj]; exact r1, by rw [h.2 39 j (by omega) (by omega) hj]; exact r2, fun z => ?_⟩
  obtain ⟨⟨fr, a1, a2, a3, a4⟩, r6, r7, r8⟩ := r3 z
  exact ⟨⟨fr, by rw [h.2 34 j (by omega) (by omega) hj]; exact a1, by rw [h.2 35 j (by omega) (by omega) hj]; exact a2, a3, fun k x hk => by rw [h.1.2.2.2.1 6 (by decide) (by decide)]; exact a4 k x hk⟩, by rw [h.2 36 j (by omega) (by omega) hj]; exact r6, by rw [h.2 37 j (by omega) (by omega) hj]; exact r7, by rw [h.2 38 j (by omega) (by omega) hj]; exact r8⟩
theorem g_mem {k : Nat} (h : 33 ≤ k ∧ k < 40) : k ∈ gAr := by
  unfold gAr
  simp
  omega
theorem g_wr {k : Nat} {v : Int32} (hs : Sh S m sp10) (hk : 33 ≤ k ∧ k < 40) (hv : cI ((wI S (m + k) n v).2 (m + k)) = pu (cI (S.2 (m + k))) n v) : Rg S (wI S (m + k) n v) m n ∧ MR S (wI S (m + k) n v) m [k] [] ∧ cI ((wI S (m + k) n v).2 (m + k)) n = v ∧ ∀ j, j ≠ k → (wI S (m + k) n v).2 (m + j) = S.2 (m + j) := by
  have mm : MR S (wI S (m + k) n v) m [k] [] := MR_I (MR_refl hs [k] []) (by simp) (by omega) (by omega) n v
  refine ⟨⟨MR_sub mm (fun j hj => by rw [List.mem_singleton] at hj; subst hj; exact g_mem hk) (by simp), fun k' i _ _ hi => ?_⟩, mm, by rw [hv, pu_at], fun j hj => wI_ne _ _ _ (by omega)⟩
  by_cases e : k' = k
  · subst e; rw [hv, pu_ne _ _ _ (by omega)]
  · rw [wI_ne _ _ _ (show m + k' ≠ m + k by omega)]
theorem RP_wr {S1 : pS} {g : Bool} {k : Nat} (h : RP S m tx p g) (hk : 33 ≤ k) (hM : MR S S1 m [k] []) : RP S1 m tx p g := RP_fr h hM (by rw [List.mem_singleton]; omega) (by simp)
/-! marks -/
theorem g_skF (hs : Sh S m sp10) (h : RP S m tx p false) (ht : txOk tx) (hp : p ≤ tx.length) (x : Int32) (hx : 32 ≤ x) : ∃ S', F_X10_skips S m x = some (0, S') ∧ MR S S' m [] [21] ∧ RP S' m tx p false := by
  obtain ⟨S1, e1, m1, r1⟩ := r_skips hs h ht hp x hx
  rw [if_neg (fun z => by cases z.1)] at e1 r1
  exact ⟨S1, e1, m1, r1⟩
theorem g_51F {any : Bool} (hs : Sh S m sp10) (h : RP S m tx p false) (ht : txOk tx) (hp : p ≤ tx.length) : ∃ S', F_X10_readsMarks_51 S m (if any = true then 1 else 0) = some S' ∧ MR S S' m [] [21] ∧ RP S' m tx p false := by
  unfold F_X10_readsMarks_51
  cases any with
  | false => rw [if_pos (by decide)]; exact ⟨S, rfl, MR_refl hs _ _, h⟩
  | true =>
    obtain ⟨S1, e1, m1, r1⟩ := g_skF hs h ht hp 120 (by decide)
    rw [if_neg (by decide), e1, Option.bind_some]
    exact ⟨S1, rfl, m1, r1⟩
theorem g_27F {any : Bool} (hs : Sh S m sp10) (h : RP S m tx p false) (ht : txOk tx) (hp : p ≤ tx.length) : ∃ S', F_X10_readsMarks_27 S m (if any = true then 1 else 0) = some S' ∧ MR S S' m [] [21] ∧ RP S' m tx p false := by
  unfold F_X10_readsMarks_27
  obtain ⟨S1, e1, m1, r1⟩ := g_skF hs h ht hp 61 (by decide)
  rw [e1, Option.bind_some, if_pos rfl]
  obtain ⟨S2, e2, m2, r2⟩ := g_51F (any := any) m1.1 r1 ht hp
  exact ⟨S2, e2, MR_trans m1 m2, r2⟩
theorem g_mkF (hs : Sh S m sp10) (h : RP S m tx p false) (ht : txOk tx) (hp : p ≤ tx.length) : ∃ S', F_X10_readsMarks S m = some S' ∧ MR S S' m [] [21] ∧ RP S' m tx p false := by
  unfold F_X10_readsMarks
  obtain ⟨S1, e1, m1, r1⟩ := g_skF hs h ht hp 64 (by decide)
  rw [s10_oF hs, e1, Option.bind_some, if_pos rfl]
  obtain ⟨S2, e2, m2, r2⟩ := g_27F (any := false) m1.1 r1 ht hp
  exact ⟨S2, e2, MR_trans m1 m2, r2⟩
theorem g_skT (hs : Sh S m sp10) (h : RP S m tx p true) (ht : txOk tx) (hp : p ≤ tx.length) (x : Int32) (hx : 32 ≤ x) : ∃ S', F_X10_skips S m x = some (if nxt tx p = x then 1 else 0, S') ∧ MR S S' m [] [21] ∧ RP S' m tx (if nxt tx p = x then p + 1 else p) true := by
  obtain ⟨S1, e1, m1, r1⟩ := r_skips hs h ht hp x hx
  refine ⟨S1, ?_, m1, ?_⟩
  · rw [e1]
    by_cases c : nxt tx p = x
    · rw [if_pos ⟨rfl, c⟩, if_pos c]
    · rw [if_neg (fun z => c z.2), if_neg c]
  · by_cases c : nxt tx p = x
    · rw [if_pos ⟨rfl, c⟩] at r1; rw [if_pos c]; exact r1
    · rw [if_neg (fun z => c z.2)] at r1; rw [if_neg c]; exact r1
/-- what the marks leave -/
def mkG (S S' : pS) (m n : Nat) (tx : List Int32) (r : Bool × Nat × Ent) : Prop := Rg S S' m n ∧ (∀ j, j ≠ 36 → j ≠ 37 → j ≠ 38 → j ≠ 0 → S'.2 (m + j) = S.2 (m + j)) ∧ fI (S'.2 m) 54 = fI (S.2 m) 54 ∧ RP S' m tx r.2.1 r.1 ∧ (r.1 = true → cI (S'.2 (m + 36)) n = r.2.2.2.2.2.1 ∧ cI (S'.2 (m + 37)) n = r.2.2.2.2.2.2.1 ∧ cI (S'.2 (m + 38)) n = (if r.2.2.2.2.2.2.2 = true then 1 else 0))
theorem mkG_M {S1 S' : pS} {ks : List Nat} {r : Bool × Nat × Ent} (h : MR S S1 m [] ks) (hk : ∀ k, k ∈ ks → k ∈ [21, 23]) (h2 : mkG S1 S' m n tx r) : mkG S S' m n tx r := ⟨Rg_trans (Rg_M h (fun k hk' => by have := hk k hk'; simp at this ⊢; omega)) h2.1, fun j a b c d => (h2.2.1 j a b c d).trans (h.2.2.2.1 j (by simp) d), by rw [h2.2.2.1, h.2.2.2.2 54 (fun z => by have := hk 54 z; simp at this)], h2.2.2.2⟩
theorem mkG_F {S1 S' : pS} {r : Bool × Nat × Ent} (f : Rg S S1 m n) (o : ∀ j, j ≠ 36 → j ≠ 37 → j ≠ 38 → j ≠ 0 → S1.2 (m + j) = S.2 (m + j)) (h54 : fI (S1.2 m) 54 = fI (S.2 m) 54) (h : MR S1 S' m [] [21]) (hr : RP S' m tx r.2.1 false) (h1 : r.1 = false) : mkG S S' m n tx r := ⟨Rg_trans f (Rg_M h (by decide)), fun j a b c d => (h.2.2.2.1 j (by simp) d).trans (o j a b c d), by rw [h.2.2.2.2 54 (by decide), h54], by rw [h1]; exact hr, fun z => by rw [h1] at z; cases z⟩
theorem g_51 {any : Bool} (hs : Sh S m sp10) (h : RP S m tx p true) (ht : txOk tx) (hp : p ≤ tx.length) (h54 : fI (S.2 m) 54 = nI n) (hn : n ≤ 40) (lv : Nat) (nm : List Int32) {dy vl : Int32} (h36 : cI (S.2 (m + 36)) n = dy) (h37 : cI (S.2 (m + 37)) n = vl) (h38 : cI (S.2 (m + 38)) n = 0) : ∃ S', F_X10_readsMarks_51 S m (if any = true then 1 else 0) = some S' ∧ mkG S S' m n tx (rdM3 tx lv nm dy vl any p) := by
  unfold F_X10_readsMarks_51 rdM3
  cases any with
  | false =>
    rw [if_pos (by decide), if_neg (fun z => by cases z.1)]
    exact ⟨S, rfl, Rg_refl hs, fun _ _ _ _ _ => rfl, rfl, h, fun _ => ⟨h36, h37, h38⟩⟩
  | true =>
    obtain ⟨S1, e1, m1, r1⟩ := g_skT hs h ht hp 120 (by decide)
    have a1 : ∀ j, j ≠ 0 → S1.2 (m + j) = S.2 (m + j) := fun j hj => m1.2.2.2.1 j (by simp) hj
    rw [if_neg (by decide), e1, Option.bind_some]
    dsimp only
    by_cases c : nxt tx p = 120
    · rw [if_pos c] at r1
      rw [itp1 c, if_pos ⟨rfl, c⟩, s10_g51 m1.1, Option.bind_some, s10_g54 m1.1, Option.bind_some, m1.2.2.2.2 54 (by decide), h54, s10_w51 m1.1 (by omega), Option.bind_some]
      obtain ⟨f2, m2, v2, o2⟩ := g_wr (k := 38) (n := n) (v := 1) m1.1 (by omega) (s10_v51 m1.1 n 1)
      exact ⟨_, rfl, Rg_trans (Rg_M m1 (by decide)) f2, fun j a b c d => (o2 j c).trans (a1 j d), by rw [wI_ne _ _ _ (show m ≠ m + 38 by omega), m1.2.2.2.2 54 (by decide)], RP_wr r1 (by omega) m2, fun _ => ⟨by rw [o2 36 (by decide), a1 36 (by decide)]; exact h36, by rw [o2 37 (by decide), a1 37 (by decide)]; exact h37, v2⟩⟩
    · rw [if_neg c] at r1
      rw [itp0 c, if_neg (fun z => c z.2)]
      exact ⟨S1, rfl, Rg_M m1 (by decide), fun j _ _ _ d => a1 j d, m1.2.2.2.2 54 (by decide), r1, fun _ => ⟨by rw [a1 36 (by decide)]; exact h36, by rw [a1 37 (by decide)]; exact h37, by rw [a1 38 (by decide)]; exact h38⟩⟩
theorem g_27 {any : Bool} (hs : Sh S m sp10) (h : RP S m tx p true) (ht : txOk tx) (hp : p ≤ tx.length) (h54 : fI (S.2 m) 54 = nI n) (hn : n ≤ 40) (lv : Nat) (nm : List Int32) {dy : Int32} (h36 : cI (S.2 (m + 36)) n = dy) (h37 : cI (S.2 (m + 37)) n = 0) (h38 : cI (S.2 (m + 38)) n = 0) : ∃ S', F_X10_readsMarks_27 S m (if any = true then 1 else 0) = some S' ∧ mkG S S' m n tx (rdM2 tx lv nm dy any p) := by
  unfold F_X10_readsMarks_27 rdM2
  obtain ⟨S1, e1, m1, r1⟩ := g_skT hs h ht hp 61 (by decide)
  have a1 : ∀ j, j ≠ 0 → S1.2 (m + j) = S.2 (m + j) := fun j hj => m1.2.2.2.1 j (by simp) hj
  have h54a : fI (S1.2 m) 54 = nI n := by rw [m1.2.2.2.2 54 (by decide)]; exact h54
  rw [e1, Option.bind_some]
  dsimp only
  by_cases c : nxt tx p = 61
  · have hp1 := nxt_in c (by decide)
    rw [if_pos c] at r1
    rw [itp1 c, if_pos c, s10_g50 m1.1, Option.bind_some, s10_g54 m1.1, Option.bind_some, h54a]
    obtain ⟨S2, v, e2, m2, r2, hv⟩ := r_value m1.1 r1 ht hp1
    rw [e2, Option.bind_some]
    dsimp only
    rw [s10_w50 m2.1 (by omega), Option.bind_some]
    obtain ⟨f3, m3, v3, o3⟩ := g_wr (k := 37) (n := n) (v := v) m2.1 (by omega) (s10_v50 m2.1 n v)
    have r3 := RP_wr r2 (by omega) m3
    have h54c : fI ((wI S2 (m + 37) n v).2 m) 54 = nI n := by rw [wI_ne _ _ _ (show m ≠ m + 37 by omega), m2.2.2.2.2 54 (by decide)]; exact h54a
    generalize wI S2 (m + 37) n v = S3 at *
    have f13 : Rg S S3 m n := Rg_trans (Rg_M m1 (by decide)) (Rg_trans (Rg_M m2 (by decide)) f3)
    have a3 : ∀ j, j ≠ 37 → j ≠ 0 → S3.2 (m + j) = S.2 (m + j) := fun j hj h0 => by rw [o3 j hj, m2.2.2.2.1 j (by simp) h0, a1 j h0]
    have hle := nuC_le (tx := tx) (d := 3) (vaP_le hp1)
    by_cases z : 0 < nuC tx 3 (vaP tx (p + 1))
    · rw [decide_eq_true z] at r3
      rw [if_pos z]
      obtain ⟨S4, e4, k4⟩ := g_51 (any := true) m3.1 r3 ht hle h54c hn lv nm (dy := dy) (vl := vaV tx (p + 1)) (by rw [a3 36 (by decide) (by decide)]; exact h36) (v3.trans (hv z)) (by rw [a3 38 (by decide) (by decide)]; exact h38)
      rw [show F_X10_readsMarks_51 S3 m (1 : Int32) = some S4 from e4]
      exact ⟨S4, rfl, Rg_trans f13 k4.1, fun j a b c d => (k4.2.1 j a b c d).trans (a3 j b d), by rw [k4.2.2.1, h54c, h54], k4.2.2.2⟩
    · rw [decide_eq_false z] at r3
      rw [if_neg z]
      obtain ⟨S4, e4, m4, r4⟩ := g_51F (any := true) m3.1 r3 ht hle
      rw [show F_X10_readsMarks_51 S3 m (1 : Int32) = some S4 from e4]
      exact ⟨S4, rfl, mkG_F f13 (fun j a b c d => a3 j b d) (by rw [h54c, h54]) m4 r4 rfl⟩
  · rw [if_neg c] at r1
    rw [itp0 c, if_neg c]
    obtain ⟨S4, e4, k4⟩ := g_51 (any := any) m1.1 r1 ht hp h54a hn lv nm (dy := dy) (vl := 0) (by rw [a1 36 (by decide)]; exact h36) (by rw [a1 37 (by decide)]; exact h37) (by rw [a1 38 (by decide)]; exact h38)
    exact ⟨S4, e4, mkG_M m1 (by decide) k4⟩
theorem g_marks (hs : Sh S m sp10) (h : RP S m tx p true) (ht : txOk tx) (hp : p ≤ tx.length) (h54 : fI (S.2 m) 54 = nI n) (hn : n ≤ 40) (lv : Nat) (nm : List Int32) (h36 : cI (S.2 (m + 36)) n = -1) (h37 : cI (S.2 (m + 37)) n = 0) (h38 : cI (S.2 (m + 38)) n = 0) : ∃ S', F_X10_readsMarks S m = some S' ∧ mkG S S' m n tx (rdM1 tx lv nm p) := by
  unfold F_X10_readsMarks rdM1
  obtain ⟨S1, e1, m1, r1⟩ := g_skT hs h ht hp 64 (by decide)
  have a1 : ∀ j, j ≠ 0 → S1.2 (m + j) = S.2 (m + j) := fun j hj => m1.2.2.2.1 j (by simp) hj
  have h54a : fI (S1.2 m) 54 = nI n := by rw [m1.2.2.2.2 54 (by decide)]; exact h54
  rw [s10_oF hs, e1, Option.bind_some]
  dsimp only
  by_cases c : nxt tx p = 64
  · have hp1 := nxt_in c (by decide)
    rw [if_pos c] at r1
    rw [itp1 c, if_pos c, s10_g49 m1.1, Option.bind_some, s10_g54 m1.1, Option.bind_some, h54a]
    obtain ⟨S2, v, e2, m2, r2, hv⟩ := r_number (d := 4) m1.1 r1 ht hp1 (by decide) (by decide)
    rw [if_pos rfl, Bool.true_and] at r2
    rw [show F_X10_number S1 m (4 : Int32) = some (v, S2) from e2, Option.bind_some]
    dsimp only
    rw [s10_w49 m2.1 (by omega), Option.bind_some]
    obtain ⟨f3, m3, v3, o3⟩ := g_wr (k := 36) (n := n) (v := v) m2.1 (by omega) (s10_v49 m2.1 n v)
    have r3 := RP_wr r2 (by omega) m3
    have h54c : fI ((wI S2 (m + 36) n v).2 m) 54 = nI n := by rw [wI_ne _ _ _ (show m ≠ m + 36 by omega), m2.2.2.2.2 54 (by decide)]; exact h54a
    generalize wI S2 (m + 36) n v = S3 at *
    have f13 : Rg S S3 m n := Rg_trans (Rg_M m1 (by decide)) (Rg_trans (Rg_M m2 (by decide)) f3)
    have a3 : ∀ j, j ≠ 36 → j ≠ 0 → S3.2 (m + j) = S.2 (m + j) := fun j hj h0 => by rw [o3 j hj, m2.2.2.2.1 j (by simp) h0, a1 j h0]
    have hle := nuC_le (tx := tx) (d := 4) hp1
    by_cases z : 0 < nuC tx 4 (p + 1)
    · rw [decide_eq_true z] at r3
      rw [if_pos z]
      obtain ⟨S4, e4, k4⟩ := g_27 (any := true) m3.1 r3 ht hle h54c hn lv nm (dy := nI (nuV tx 4 (p + 1))) (v3.trans (hv rfl z)) (by rw [a3 37 (by decide) (by decide)]; exact h37) (by rw [a3 38 (by decide) (by decide)]; exact h38)
      rw [show F_X10_readsMarks_27 S3 m (1 : Int32) = some S4 from e4]
      exact ⟨S4, rfl, Rg_trans f13 k4.1, fun j a b c d => (k4.2.1 j a b c d).trans (a3 j a d), by rw [k4.2.2.1, h54c, h54], k4.2.2.2⟩
    · rw [decide_eq_false z] at r3
      rw [if_neg z]
      obtain ⟨S4, e4, m4, r4⟩ := g_27F (any := true) m3.1 r3 ht hle
      rw [show F_X10_readsMarks_27 S3 m (1 : Int32) = some S4 from e4]
      exact ⟨S4, rfl, mkG_F f13 (fun j a b c d => a3 j a d) (by rw [h54c, h54]) m4 r4 rfl⟩
  · rw [if_neg c] at r1
    rw [itp0 c, if_neg c]
    obtain ⟨S4, e4, k4⟩ := g_27 (any := false) m1.1 r1 ht hp h54a hn lv nm (dy := -1) (by rw [a1 36 (by decide)]; exact h36) (by rw [a1 37 (by decide)]; exact h37) (by rw [a1 38 (by decide)]; exact h38)
    rw [show F_X10_readsMarks_27 S1 m (0 : Int32) = some S4 from e4]
    exact ⟨S4, rfl, mkG_M m1 (by decide) k4⟩
end REN
