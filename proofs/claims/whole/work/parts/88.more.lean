/-! depth, shares, means -/
section DEP
variable {S : pS} {R : Nat → Option Nat} {c1 c2 a b m : Nat} {T : Tr} {A : As}
def isMx (d : Nat → Int32) (l : List Nat) (r : Int32) : Prop := (∀ c, c ∈ l → d c ≤ r) ∧ 0 ≤ r ∧ (r = 0 ∨ ∃ c, c ∈ l ∧ r = d c)
theorem isMx_nil (d : Nat → Int32) : isMx d [] 0 := ⟨fun c hc => by simp at hc, Int32.le_refl _, Or.inl rfl⟩
theorem isMx_put {d : Nat → Int32} {l : List Nat} {r : Int32} (h : isMx d l r) (c : Nat) : isMx d (l ++ [c]) (if r < d c then d c else r) := by
  obtain ⟨h1, h2, h3⟩ := h
  by_cases z : r < d c
  · rw [if_pos z]
    have zl : r ≤ d c := Int32.le_of_lt z
    refine ⟨fun x hx => ?_, Int32.le_trans h2 zl, Or.inr ⟨c, by simp, rfl⟩⟩
    rcases List.mem_append.mp hx with w | w
    · exact Int32.le_trans (h1 x w) zl
    · rw [List.mem_singleton.mp w]; exact Int32.le_refl _
  · rw [if_neg z]
    refine ⟨fun x hx => ?_, h2, h3.imp id (fun ⟨y, y1, y2⟩ => ⟨y, List.mem_append_left _ y1, y2⟩)⟩
    rcases List.mem_append.mp hx with w | w
    · exact h1 x w
    · rw [List.mem_singleton.mp w]; exact Int32.not_lt.mp z
theorem isMx_eq {d d' : Nat → Int32} {l l' : List Nat} {r r' : Int32} (h : isMx d l r) (h' : isMx d' l' r') (e : ∀ c, c ∈ l ↔ c ∈ l') (ed : ∀ c, c ∈ l → d c = d' c) : r = r' := by
  obtain ⟨h1, h2, h3⟩ := h
  obtain ⟨k1, k2, k3⟩ := h'
  refine Int32.le_antisymm ?_ ?_
  · rcases h3 with z | ⟨c, hc, z⟩
    · rw [z]; exact k2
    · rw [z, ed c hc]; exact k1 c ((e c).mp hc)
  · rcases k3 with z | ⟨c, hc, z⟩
    · rw [z]; exact h2
    · rw [z, ← ed c ((e c).mpr hc)]; exact h1 c ((e c).mpr hc)
def depT (T : Tr) : Int32 := (ordT T).foldl (fun r c => if r < dpk T tru (ordT T).length c then dpk T tru (ordT T).length c else r) 0
theorem isMx_fold (d : Nat → Int32) : ∀ (l l0 : List Nat) (r : Int32), isMx d l0 r → isMx d (l0 ++ l) (l.foldl (fun r c => if r < d c then d c else r) r) := by
  intro l
  induction l with
  | nil => intro l0 r h; rw [List.append_nil]; exact h
  | cons c t ih =>
    intro l0 r h
    have := ih (l0 ++ [c]) _ (isMx_put h c)
    rw [List.append_assoc] at this
    exact this
theorem depT_mx (T : Tr) : isMx (dpk T tru (ordT T).length) (ordT T) (depT T) := isMx_fold _ (ordT T) [] 0 (isMx_nil _)
theorem c_depth (hk : SK S b T) (hT : tOk T) : F_X6_greatestDepth S b = some (depT T) := by
  unfold F_X6_greatestDepth
  have hl := ord_len hT
  obtain ⟨r, e, hr⟩ := iter_fu (F := F_X6_greatestDepth_4 b S) (s := ((0 : Int32), (0 : Int32))) (fun k s => s.2 = nI k ∧ isMx (dpk T tru (ordT T).length) ((ordT T).take k) s.1) (P := fun r => isMx (dpk T tru (ordT T).length) (ordT T) r) (ordT T).length (by omega) ⟨rfl, isMx_nil _⟩
    (by
      rintro ⟨x, y⟩ ⟨hy, hs⟩
      have hy' : y = nI (ordT T).length := hy
      subst hy'
      unfold F_X6_greatestDepth_4
      rw [s6_g3 hk.1, Option.bind_some, hk.2.1, if_pos (nI_le (Nat.le_refl _) (by omega))]
      rw [List.take_length] at hs
      exact ⟨_, rfl, hs⟩)
    (by
      rintro k ⟨x, y⟩ hk' ⟨hy, hs⟩
      have hy' : y = nI k := hy
      subst hy'
      have e1 : (ordT T)[k]? = some (ordT T)[k] := List.getElem?_eq_getElem hk'
      have hc := tOk_lt hT ((ord_mem hT _).mp (List.getElem_mem hk'))
      generalize (ordT T)[k] = c at *
      unfold F_X6_greatestDepth_4
      rw [s6_g3 hk.1, Option.bind_some, hk.2.1, if_neg (nI_ge hk' (by omega)), s6_g5 hk.1, Option.bind_some, s6_g2 hk.1, Option.bind_some, s6_r2 hk.1 (by omega), Option.bind_some, hk.2.2.1 k c e1, s6_r5 hk.1 hc, Option.bind_some, (hk.2.2.2.1 c hc).2.2]
      refine ⟨_, rfl, nI_1 k, ?_⟩
      have := isMx_put hs c
      rw [List.take_add_one, e1]
      exact this)
  rw [s6_oF hk.1, e, Option.bind_some]
  rw [isMx_eq hr (depT_mx T) (fun _ => Iff.rfl) (fun _ _ => rfl)]
theorem r_deepest (h : RR S m T) (hk : RK S m T) (hg : good T) : F_X10_deepest S m = some (depT T) := by
  unfold F_X10_deepest
  have hT := hg.1
  obtain ⟨r, e, hr⟩ := iter_fu (F := F_X10_deepest_4 m S) (s := ((0 : Int32), (0 : Int32))) (fun k s => s.2 = nI k ∧ isMx (dpk T (rcd T) (ordT T).length) ((List.range k).filter (tPres T)) s.1) (P := fun r => isMx (dpk T (rcd T) (ordT T).length) ((List.range 61).filter (tPres T)) r) 61 (by omega) ⟨rfl, isMx_nil _⟩
    (by
      rintro ⟨x, y⟩ ⟨hy, hs⟩
      have hy' : y = nI 61 := hy
      subst hy'
      unfold F_X10_deepest_4
      rw [if_pos le61]
      exact ⟨_, rfl, hs⟩)
    (by
      rintro k ⟨x, y⟩ hk' ⟨hy, hs⟩
      have hy' : y = nI k := hy
      subst hy'
      have hs' : isMx (dpk T (rcd T) (ordT T).length) ((List.range k).filter (tPres T)) x := hs
      unfold F_X10_deepest_4
      rw [if_neg (ge61 hk')]
      dsimp only
      rw [r_isItem_n h hk', Option.bind_some, List.range_succ, List.filter_append, List.filter_cons, List.filter_nil, nI_1]
      cases hp : tPres T k
      · rw [ite0 rfl]
        exact ⟨_, rfl, rfl, by rw [if_neg (by decide), List.append_nil]; exact hs'⟩
      · rw [ite1 rfl, s10_g18 h.1, Option.bind_some, s10_r18 h.1 hk', Option.bind_some, (hk.2.2 k hk').2.2.1]
        have hm := isMx_put hs' k
        by_cases c : dpk T (rcd T) (ordT T).length k ≤ x
        · rw [if_pos c]
          rw [if_neg (Int32.not_lt.mpr c)] at hm
          exact ⟨_, rfl, rfl, by rw [if_pos rfl]; exact hm⟩
        · rw [if_neg c, Option.bind_some, s10_r18 h.1 hk', Option.bind_some, (hk.2.2 k hk').2.2.1]
          rw [if_pos (Int32.not_le.mp c)] at hm
          exact ⟨_, rfl, rfl, by rw [if_pos rfl]; exact hm⟩)
  rw [s10_oF h.1, e, Option.bind_some]
  rw [isMx_eq hr (depT_mx T) (fun c => ?_) (fun c _ => by rw [dpk_eq hT hg.2.1 hg.2.2])]
  rw [ord_mem hT]
  constructor
  · intro z; exact (List.mem_filter.mp z).2
  · intro z; exact List.mem_filter.mpr ⟨List.mem_range.mpr (tOk_lt hT z), z⟩
end DEP
