/-! fields and arrays -/
theorem gCx_ts {X : pX} {M : pM} {l : Launch} {p : Program} {R : Room} {s : State} {m : MethodId} {args : Array Value} {meth : Method} {c : Code} (C : gCx X M l p R s m args meth c) : ∀ w ∈ gT, w.before args s = true := C.2.2.2.2.2.2.2.1
theorem gCx_own {X : pX} {M : pM} {l : Launch} {p : Program} {R : Room} {s : State} {m : MethodId} {args : Array Value} {meth : Method} {c : Code} (C : gCx X M l p R s m args meth c) : s.vm.findClass M.1.cls = some m.cls := C.2.2.2.2.2.2.1
theorem gCx_k {X : pX} {M : pM} {l : Launch} {p : Program} {R : Room} {s : State} {m : MethodId} {args : Array Value} {meth : Method} {c : Code} (C : gCx X M l p R s m args meth c) : pk X s := C.2.2.2.2.2.2.2.2.2.2.2.1
theorem gCx_K {X : pX} {M : pM} {l : Launch} {p : Program} {R : Room} {s : State} {m : MethodId} {args : Array Value} {meth : Method} {c : Code} (C : gCx X M l p R s m args meth c) {ty : FieldType} (ht : ty ∈ pTys) : va_K X.2.2.1 vwCl [(X.2.2.2.1 ty, ty)] s :=
  ⟨(gCx_k C).1.1, fun k q hk => by
    cases k with
    | zero => simp at hk; subst hk; exact (gCx_k C).2.1 ty ht
    | succ k => simp at hk⟩
section RULES
variable {X : pX} {M : pM} {pc : Nat} {ls : List (Option Value)} {st : List Value} {n : Nat} {h : pF} {Q : pO → Nat → pF → Prop} {mc ms : Nat}
theorem r_get {idx : Nat} (ci k : Nat) {a : Nat} {f : Nat → Value} (hd : decode M.2.1 pc = .ok (.getfield idx, 3)) (hf : gFL M.1.cls idx ci k) (ha : a < n) (hc : h a = .inr (ci, f)) (kk : gW X M (pc + 3) ls (f k :: st) n h Q mc ms) : gW X M pc ls (.ref a :: st) n h Q mc ms := by
  intro l p e R s m args below meth c H locs cells slots lsA QQ C hw hS hl h1 h2 kR kX kN
  obtain ⟨C0, T0, N0, g1, g2, g3, g4⟩ := hf
  have hp := hw.2 a ha
  rw [hc] at hp
  have hob : t_OB (X.1 + a) (X.2.2.1.1 ci) N0 (X.2.2.1.2 ci) H (fun k => pv X (f k)) := hp (C0, T0, N0) g1
  have hP : va_P X.2.2.1 vwCl [(X.1 + a, .inr (ci, (List.range N0).map (fun j => pv X (f j))))] H := by
    intro i q hq
    cases i with
    | zero =>
      simp at hq; subst hq
      exact ⟨_, g1, t_OB.to hob (fun j hj => by simp [vp_V, List.getD, hj])⟩
    | succ i => simp at hq
  exact va_get (ws := [(X.1 + a, .inr (ci, (List.range N0).map (fun j => pv X (f j))))]) C.1 C.2.1 (gCx_ts C) g3 (gCx_own C) (gCx_k C).1 hP 0 rfl g1 k g2 (gCx_ts C _ g4) (fun _ z => z) (v := pv X (f k)) (by simp [g2]) hd (kk l p e R s m args below meth c H locs cells slots lsA QQ C hw hS hl h1 h2 kR kX kN)
theorem r_put {idx : Nat} (ci k : Nat) (ty : FieldType) {a : Nat} {f : Nat → Value} {v : Value} (hd : decode M.2.1 pc = .ok (.putfield idx, 3)) (hf : gFP M.1.cls idx ci k ty false) (ha : a < n) (hc : h a = .inr (ci, f)) (hn : narrow ty (pv X v) = pv X v) (hfit : fits ty (pv X v) = true) (kk : gW X M (pc + 3) ls st n (pu h a (.inr (ci, pu f k v))) Q mc ms) : gW X M pc ls (v :: .ref a :: st) n h Q mc ms := by
  intro l p e R s m args below meth c H locs cells slots lsA QQ C hw hS hl h1 h2 kR kX kN
  obtain ⟨C0, T0, N0, ty0, g1, g2, g3, g4, g5, g6, g7, g8, -⟩ := hf
  have hp := hw.2 a ha
  rw [hc] at hp
  obtain ⟨cell, q1, q2, q3, q4⟩ : t_OB (X.1 + a) (X.2.2.1.1 ci) N0 (X.2.2.1.2 ci) H (fun k => pv X (f k)) := hp (C0, T0, N0) g1
  have hap := va_apart (own := M.1.cls) (gCx_ts C) g3 ty0 g4 g5 (gCx_k C).1 g1
  obtain ⟨hSl, hfc, kC, hkC, hkind⟩ := (gCx_k C).1.1 ci _ g1
  obtain ⟨cf, kf, fi, f9, hi, hsl⟩ := hSl k g2
  have hlay := gCx_ts C _ (g3 _ (u_in_lay g2))
  unfold u_lay at hlay
  rw [if_neg (by rw [g7]; decide)] at hlay
  have hst := (u_facts hfc hkC (u_lays (gCx_ts C) g3 g2) hi).1
  have h6 := u_store hfc hkC hkind hlay hi g8 hn hfit
  refine W.putK C.1 C.2.1 (f := f9) ⟨gCx_own C, gCx_ts C _ g6, ⟨_, _, _, hi⟩, hst⟩ (by rw [q2]; exact h6) q1 q3 (by rw [hsl]; exact k2_hasslot (q4 k g2)) rfl rfl hd fun H' e1 e2 e3 => ?_
  rw [hsl] at e1 ⊢
  refine kk l p e R s m args below meth c H' _ cells slots lsA QQ C (pw_set hw e2 ?_ e3) (hS.put e2 e3 (Nat.le_add_right _ _)) hl h1 h2 kR kX kN
  intro r hr
  cases g1.symm.trans hr
  refine t_OB.to (V := updV (fun k => pv X (f k)) k (pv X v)) ⟨_, e1, q2, q3, t_set q4 hap g2 _⟩ (fun j _ => ?_)
  by_cases e : j = k
  · subst e; simp [updV, pu]
  · simp [updV, pu, e]
theorem r_putF {idx : Nat} (ci k : Nat) (ty : FieldType) {a : Nat} {f : Nat → Value} {v : Value} (hd : decode M.2.1 pc = .ok (.putfield idx, 3)) (hf : gFP M.1.cls idx ci k ty true) (hin : M.1.name = "<init>") (ha : a < n) (hc : h a = .inr (ci, f)) (hn : narrow ty (pv X v) = pv X v) (hfit : fits ty (pv X v) = true) (kk : gW X M (pc + 3) ls st n (pu h a (.inr (ci, pu f k v))) Q mc ms) : gW X M pc ls (v :: .ref a :: st) n h Q mc ms := by
  intro l p e R s m args below meth c H locs cells slots lsA QQ C hw hS hl h1 h2 kR kX kN
  obtain ⟨C0, T0, N0, ty0, g1, g2, g3, g4, g5, g6, g7, g8, g9⟩ := hf
  have hp := hw.2 a ha
  rw [hc] at hp
  obtain ⟨cell, q1, q2, q3, q4⟩ : t_OB (X.1 + a) (X.2.2.1.1 ci) N0 (X.2.2.1.2 ci) H (fun k => pv X (f k)) := hp (C0, T0, N0) g1
  have hap := va_apart (own := M.1.cls) (gCx_ts C) g3 ty0 g4 g5 (gCx_k C).1 g1
  obtain ⟨hSl, hfc, kC, hkC, hkind⟩ := (gCx_k C).1.1 ci _ g1
  obtain ⟨cf, kf, fi, f9, hi, hsl⟩ := hSl k g2
  have hlay := gCx_ts C _ (g3 _ (u_in_lay g2))
  unfold u_lay at hlay
  rw [if_pos g7] at hlay
  have hst := (u_facts hfc hkC (u_lays (gCx_ts C) g3 g2) hi).1
  have hcf : m.cls = cf := by
    obtain ⟨_, _, c', _, _, _, -, -, hf', -, -, -, hown2, -⟩ := Cond.laysFinal_spec hlay
    have e1 : c' = cf := by have := hi.symm.trans hf'; simp at this; exact this.1.symm
    rw [g9 rfl] at hown2
    rw [← e1]; exact Option.some.inj ((gCx_own C).symm.trans hown2)
  have h6 := u_fits hfc hkC hkind (Or.inr hlay) hi g8 hn hfit
  have hin2 : meth.name = "<init>" := C.2.2.2.2.2.1.trans hin
  refine W.putFinK C.1 C.2.1 (gCx_own C) (gCx_ts C _ g6) hi hst hcf hin2 (by rw [q2]; exact h6) q1 q3 (by rw [hsl]; exact k2_hasslot (q4 k g2)) rfl rfl hd fun H' e1 e2 e3 => ?_
  rw [hsl] at e1 ⊢
  refine kk l p e R s m args below meth c H' _ cells slots lsA QQ C (pw_set hw e2 ?_ e3) (hS.put e2 e3 (Nat.le_add_right _ _)) hl h1 h2 kR kX kN
  intro r hr
  cases g1.symm.trans hr
  refine t_OB.to (V := updV (fun k => pv X (f k)) k (pv X v)) ⟨_, e1, q2, q3, t_set q4 hap g2 _⟩ (fun j _ => ?_)
  by_cases e : j = k
  · subst e; simp [updV, pu]
  · simp [updV, pu, e]
theorem r_iald {a N : Nat} {f : Nat → Int32} {i : Int32} (hd : decode M.2.1 pc = .ok (.iaload, 1)) (ha : a < n) (hc : h a = .inl (.int, N, .inl f)) (hin : vp_in i N) (k : gW X M (pc + 1) ls (.int (f i.toNatClampNeg) :: st) n h Q mc ms) : gW X M pc ls (.int i :: .ref a :: st) n h Q mc ms := by
  intro l p e R s m args below meth c H locs cells slots lsA QQ C hw hS hl h1 h2 kR kX kN
  have hp := hw.2 a ha
  rw [hc] at hp
  have hP : va_P X.2.2.1 vwCl [(X.1 + a, .inl (X.2.2.2.1 .int, N, .inl f))] H := by
    intro i q hq
    cases i with
    | zero => simp at hq; subst hq; exact hp
    | succ i => simp at hq
  exact va_iald (ws := [(X.1 + a, .inl (X.2.2.2.1 .int, N, .inl f))]) C.1 C.2.1 (gCx_K C (ty := .int) (by decide)) hP 0 0 rfl rfl hin hd (k l p e R s m args below meth c H locs cells slots lsA QQ C hw hS hl h1 h2 kR kX kN)
theorem r_cald {a N : Nat} {f : Nat → Int32} {i : Int32} (hd : decode M.2.1 pc = .ok (.caload, 1)) (ha : a < n) (hc : h a = .inl (.char, N, .inl f)) (hin : vp_in i N) (k : gW X M (pc + 1) ls (.int (f i.toNatClampNeg) :: st) n h Q mc ms) : gW X M pc ls (.int i :: .ref a :: st) n h Q mc ms := by
  intro l p e R s m args below meth c H locs cells slots lsA QQ C hw hS hl h1 h2 kR kX kN
  have hp := hw.2 a ha
  rw [hc] at hp
  have hP : va_P X.2.2.1 vwCl [(X.1 + a, .inl (X.2.2.2.1 .char, N, .inl f))] H := by
    intro i q hq
    cases i with
    | zero => simp at hq; subst hq; exact hp
    | succ i => simp at hq
  exact va_cald (ws := [(X.1 + a, .inl (X.2.2.2.1 .char, N, .inl f))]) C.1 C.2.1 (gCx_K C (ty := .char) (by decide)) hP 0 0 rfl rfl hin hd (k l p e R s m args below meth c H locs cells slots lsA QQ C hw hS hl h1 h2 kR kX kN)
theorem r_zald {a N : Nat} {f : Nat → Int32} {i : Int32} (hd : decode M.2.1 pc = .ok (.baload, 1)) (ha : a < n) (hc : h a = .inl (.boolean, N, .inl f)) (hin : vp_in i N) (k : gW X M (pc + 1) ls (.int (f i.toNatClampNeg) :: st) n h Q mc ms) : gW X M pc ls (.int i :: .ref a :: st) n h Q mc ms := by
  intro l p e R s m args below meth c H locs cells slots lsA QQ C hw hS hl h1 h2 kR kX kN
  have hp := hw.2 a ha
  rw [hc] at hp
  have hP : va_P X.2.2.1 vwCl [(X.1 + a, .inl (X.2.2.2.1 .boolean, N, .inl f))] H := by
    intro i q hq
    cases i with
    | zero => simp at hq; subst hq; exact hp
    | succ i => simp at hq
  exact va_zald (ws := [(X.1 + a, .inl (X.2.2.2.1 .boolean, N, .inl f))]) C.1 C.2.1 (gCx_K C (ty := .boolean) (by decide)) hP 0 0 rfl rfl hin hd (k l p e R s m args below meth c H locs cells slots lsA QQ C hw hS hl h1 h2 kR kX kN)
theorem r_lald {a N : Nat} {f : Nat → Int64} {i : Int32} (hd : decode M.2.1 pc = .ok (.laload, 1)) (ha : a < n) (hc : h a = .inl (.long, N, .inr (.inl f))) (hin : vp_in i N) (k : gW X M (pc + 1) ls (.long (f i.toNatClampNeg) :: st) n h Q mc ms) : gW X M pc ls (.int i :: .ref a :: st) n h Q mc ms := by
  intro l p e R s m args below meth c H locs cells slots lsA QQ C hw hS hl h1 h2 kR kX kN
  have hp := hw.2 a ha
  rw [hc] at hp
  have hP : va_P X.2.2.1 vwCl [(X.1 + a, .inl (X.2.2.2.1 .long, N, .inr (.inl f)))] H := by
    intro i q hq
    cases i with
    | zero => simp at hq; subst hq; exact hp
    | succ i => simp at hq
  exact va_lald (ws := [(X.1 + a, .inl (X.2.2.2.1 .long, N, .inr (.inl f)))]) C.1 C.2.1 (gCx_K C (ty := .long) (by decide)) hP 0 0 rfl rfl hin hd (k l p e R s m args below meth c H locs cells slots lsA QQ C hw hS hl h1 h2 kR kX kN)
theorem r_dald {a N : Nat} {f : Nat → UInt64} {i : Int32} (hd : decode M.2.1 pc = .ok (.daload, 1)) (ha : a < n) (hc : h a = .inl (.double, N, .inr (.inr (.inr (.inl f))))) (hin : vp_in i N) (k : gW X M (pc + 1) ls (.double (f i.toNatClampNeg) :: st) n h Q mc ms) : gW X M pc ls (.int i :: .ref a :: st) n h Q mc ms := by
  intro l p e R s m args below meth c H locs cells slots lsA QQ C hw hS hl h1 h2 kR kX kN
  have hp := hw.2 a ha
  rw [hc] at hp
  have hP : va_P X.2.2.1 vwCl [(X.1 + a, .inl (X.2.2.2.1 .double, N, .inr (.inr (.inr (.inl f)))))] H := by
    intro i q hq
    cases i with
    | zero => simp at hq; subst hq; exact hp
    | succ i => simp at hq
  exact va_dald (ws := [(X.1 + a, .inl (X.2.2.2.1 .double, N, .inr (.inr (.inr (.inl f)))))]) C.1 C.2.1 (gCx_K C (ty := .double) (by decide)) hP 0 0 rfl rfl hin hd (k l p e R s m args below meth c H locs cells slots lsA QQ C hw hS hl h1 h2 kR kX kN)
theorem r_iast {a N : Nat} {f : Nat → Int32} {i : Int32} {x : Int32} (hd : decode M.2.1 pc = .ok (.iastore, 1)) (ha : a < n) (hc : h a = .inl (.int, N, .inl (f))) (hin : vp_in i N) (k : gW X M (pc + 1) ls st n (pu h a (.inl (.int, N, .inl (pu f i.toNatClampNeg (x))))) Q mc ms) : gW X M pc ls (.int x :: .int i :: .ref a :: st) n h Q mc ms := by
  intro l p e R s m args below meth c H locs cells slots lsA QQ C hw hS hl h1 h2 kR kX kN
  have hp := hw.2 a ha
  rw [hc] at hp
  refine W.iast C.1 C.2.1 hp (((gCx_K C (ty := .int) (by decide)).2 0 _ rfl).1 N (fun j => .int (f j))) (fun q => by cases q) (by show ¬ (i < 0 ∨ (arrV _ _ _).slots.size ≤ _); rw [arrV_size]; exact hin) rfl rfl hd fun H1 e1 z oq => ?_
  refine k l p e R s m args below meth c H1 _ cells slots lsA QQ C (pw_set hw z ?_ oq) (hS.put z oq (Nat.le_add_right _ _)) hl h1 h2 kR kX kN
  show H1[X.1 + a]? = some (vp_cell _ _)
  rw [e1]
  simp only [pa]
  rw [vp_cell_i, vp_cell_i, arrV_store]
  congr 2
  funext q
  by_cases hq : q = i.toNatClampNeg
  · subst hq
    simp [updV, pu, vp_nar]
    try rfl
  · simp [updV, pu, hq]
theorem r_cast {a N : Nat} {f : Nat → Int32} {i : Int32} {x : Int32} (hd : decode M.2.1 pc = .ok (.castore, 1)) (ha : a < n) (hc : h a = .inl (.char, N, .inl (f))) (hin : vp_in i N) (k : gW X M (pc + 1) ls st n (pu h a (.inl (.char, N, .inl (pu f i.toNatClampNeg (vp_nar .char x))))) Q mc ms) : gW X M pc ls (.int x :: .int i :: .ref a :: st) n h Q mc ms := by
  intro l p e R s m args below meth c H locs cells slots lsA QQ C hw hS hl h1 h2 kR kX kN
  have hp := hw.2 a ha
  rw [hc] at hp
  refine W.cast C.1 C.2.1 hp (((gCx_K C (ty := .char) (by decide)).2 0 _ rfl).1 N (fun j => .int (f j))) (fun q => by cases q) (by show ¬ (i < 0 ∨ (arrV _ _ _).slots.size ≤ _); rw [arrV_size]; exact hin) rfl rfl hd fun H1 e1 z oq => ?_
  refine k l p e R s m args below meth c H1 _ cells slots lsA QQ C (pw_set hw z ?_ oq) (hS.put z oq (Nat.le_add_right _ _)) hl h1 h2 kR kX kN
  show H1[X.1 + a]? = some (vp_cell _ _)
  rw [e1]
  simp only [pa]
  rw [vp_cell_i, vp_cell_i, arrV_store]
  congr 2
  funext q
  by_cases hq : q = i.toNatClampNeg
  · subst hq
    simp [updV, pu, vp_nar]
    try rfl
  · simp [updV, pu, hq]
theorem r_zast {a N : Nat} {f : Nat → Int32} {i : Int32} {x : Int32} (hd : decode M.2.1 pc = .ok (.bastore, 1)) (ha : a < n) (hc : h a = .inl (.boolean, N, .inl (f))) (hin : vp_in i N) (k : gW X M (pc + 1) ls st n (pu h a (.inl (.boolean, N, .inl (pu f i.toNatClampNeg (vp_nar .boolean x))))) Q mc ms) : gW X M pc ls (.int x :: .int i :: .ref a :: st) n h Q mc ms := by
  intro l p e R s m args below meth c H locs cells slots lsA QQ C hw hS hl h1 h2 kR kX kN
  have hp := hw.2 a ha
  rw [hc] at hp
  refine W.zast C.1 C.2.1 hp (((gCx_K C (ty := .boolean) (by decide)).2 0 _ rfl).1 N (fun j => .int (f j))) (fun q => by cases q) (by show ¬ (i < 0 ∨ (arrV _ _ _).slots.size ≤ _); rw [arrV_size]; exact hin) rfl rfl hd fun H1 e1 z oq => ?_
  refine k l p e R s m args below meth c H1 _ cells slots lsA QQ C (pw_set hw z ?_ oq) (hS.put z oq (Nat.le_add_right _ _)) hl h1 h2 kR kX kN
  show H1[X.1 + a]? = some (vp_cell _ _)
  rw [e1]
  simp only [pa]
  rw [vp_cell_i, vp_cell_i, arrV_store]
  congr 2
  funext q
  by_cases hq : q = i.toNatClampNeg
  · subst hq
    simp [updV, pu, vp_nar]
    try rfl
  · simp [updV, pu, hq]
theorem r_last {a N : Nat} {f : Nat → Int64} {i : Int32} {x : Int64} (hd : decode M.2.1 pc = .ok (.lastore, 1)) (ha : a < n) (hc : h a = .inl (.long, N, .inr (.inl (f)))) (hin : vp_in i N) (k : gW X M (pc + 1) ls st n (pu h a (.inl (.long, N, .inr (.inl (pu f i.toNatClampNeg (x)))))) Q mc ms) : gW X M pc ls (.long x :: .int i :: .ref a :: st) n h Q mc ms := by
  intro l p e R s m args below meth c H locs cells slots lsA QQ C hw hS hl h1 h2 kR kX kN
  have hp := hw.2 a ha
  rw [hc] at hp
  refine W.last C.1 C.2.1 hp (((gCx_K C (ty := .long) (by decide)).2 0 _ rfl).1 N (fun j => .long (f j))) (fun q => by cases q) (by show ¬ (i < 0 ∨ (arrV _ _ _).slots.size ≤ _); rw [arrV_size]; exact hin) rfl rfl hd fun H1 e1 z oq => ?_
  refine k l p e R s m args below meth c H1 _ cells slots lsA QQ C (pw_set hw z ?_ oq) (hS.put z oq (Nat.le_add_right _ _)) hl h1 h2 kR kX kN
  show H1[X.1 + a]? = some (vp_cell _ _)
  rw [e1]
  simp only [pa]
  rw [vp_cell_l, vp_cell_l, arrV_store]
  congr 2
  funext q
  by_cases hq : q = i.toNatClampNeg
  · subst hq
    simp [updV, pu, vp_nar]
    try rfl
  · simp [updV, pu, hq]
theorem r_dast {a N : Nat} {f : Nat → UInt64} {i : Int32} {x : UInt64} (hd : decode M.2.1 pc = .ok (.dastore, 1)) (ha : a < n) (hc : h a = .inl (.double, N, .inr (.inr (.inr (.inl (f)))))) (hin : vp_in i N) (k : gW X M (pc + 1) ls st n (pu h a (.inl (.double, N, .inr (.inr (.inr (.inl (pu f i.toNatClampNeg (x)))))))) Q mc ms) : gW X M pc ls (.double x :: .int i :: .ref a :: st) n h Q mc ms := by
  intro l p e R s m args below meth c H locs cells slots lsA QQ C hw hS hl h1 h2 kR kX kN
  have hp := hw.2 a ha
  rw [hc] at hp
  refine W.dast C.1 C.2.1 hp (((gCx_K C (ty := .double) (by decide)).2 0 _ rfl).1 N (fun j => .double (f j))) (fun q => by cases q) (by show ¬ (i < 0 ∨ (arrV _ _ _).slots.size ≤ _); rw [arrV_size]; exact hin) rfl rfl hd fun H1 e1 z oq => ?_
  refine k l p e R s m args below meth c H1 _ cells slots lsA QQ C (pw_set hw z ?_ oq) (hS.put z oq (Nat.le_add_right _ _)) hl h1 h2 kR kX kN
  show H1[X.1 + a]? = some (vp_cell _ _)
  rw [e1]
  simp only [pa]
  rw [vp_cell_d, vp_cell_d, arrV_store]
  congr 2
  funext q
  by_cases hq : q = i.toNatClampNeg
  · subst hq
    simp [updV, pu, vp_nar]
    try rfl
  · simp [updV, pu, hq]
end RULES
