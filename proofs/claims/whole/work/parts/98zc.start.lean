/-! the start: what the constructors make -/
section STA
def h0 : pF := fun _ => .inr (99, fun _ => .null)
theorem opt_get {α : Type} {o : Option α} (d : α) (h : o.isSome = true) : o = some (o.getD d) := by
  cases o with
  | none => cases h
  | some x => rfl
def s9o : Option pS := F_X9_init (oNew (0, h0) (.inr (9, dfX9))) 0
def s9 : pS := s9o.getD (0, h0)
theorem s9_some : s9o = some s9 := opt_get _ (by decide +kernel)
theorem s9_n : s9.1 = 68 := by decide +kernel
def fOf (e : pE) : Nat → Value := match e with
  | .inr (_, f) => f
  | _ => fun _ => .null
def F_X10_init0 (S : pS) (a0 : Nat) : Option (pS) := (oPA (oNew S (.inl (.int, 1709, .inl (fun _ => 0)))) a0 10 1 S.1).bind fun S1 => (oPA (oNew S1 (.inl (.int, 1709, .inl (fun _ => 0)))) a0 10 2 S1.1).bind fun S3 => (oPA (oNew S3 (.inl (.int, 1709, .inl (fun _ => 0)))) a0 10 3 S3.1).bind fun S5 => (oPA (oNew S5 (.inl (.int, 13672, .inl (fun _ => 0)))) a0 10 4 S5.1).bind fun S7 => (oPA (oNew S7 (.inl (.int, 4, .inl (fun _ => 0)))) a0 10 7 S7.1).bind fun S9 => (oPA (oNew S9 (.inl (.int, 80, .inl (fun _ => 0)))) a0 10 9 S9.1).bind fun S11 => (oPI S11 a0 10 11 (-1 : Int32)).bind fun S13 => (oPA (oNew S13 (.inl (.int, 3, .inl (fun _ => 0)))) a0 10 12 S13.1).bind fun S15 => (oPA (oNew S15 (.inl (.int, 61, .inl (fun _ => 0)))) a0 10 14 S15.1).bind fun S17 => (oPA (oNew S17 (.inl (.int, 61, .inl (fun _ => 0)))) a0 10 15 S17.1).bind fun S19 => (oPA (oNew S19 (.inl (.int, 61, .inl (fun _ => 0)))) a0 10 16 S19.1).bind fun S21 => (oPA (oNew S21 (.inl (.int, 61, .inl (fun _ => 0)))) a0 10 17 S21.1).bind fun S23 => (oPA (oNew S23 (.inl (.int, 61, .inl (fun _ => 0)))) a0 10 18 S23.1).bind fun S25 => (oPA (oNew S25 (.inl (.long, 61, .inr (.inl (fun _ => 0))))) a0 10 19 S25.1).bind fun S27 => (oPA (oNew S27 (.inl (.int, 12, .inl (fun _ => 0)))) a0 10 24 S27.1).bind fun S29 => (oPA (oNew S29 (.inl (.int, 5, .inl (fun _ => 0)))) a0 10 25 S29.1).bind fun S31 => (oPA (oNew S31 (.inl (.int, 5, .inl (fun _ => 0)))) a0 10 26 S31.1).bind fun S33 => (oPA (oNew S33 (.inl (.int, 5, .inl (fun _ => 0)))) a0 10 27 S33.1).bind fun S35 => (oPA (oNew S35 (.inl (.int, 50, .inl (fun _ => 0)))) a0 10 28 S35.1).bind fun S37 => (oPA (oNew S37 (.inl (.boolean, 5, .inl (fun _ => 0)))) a0 10 29 S37.1).bind fun S39 => (oPA (oNew S39 (.inl (.int, 5, .inl (fun _ => 0)))) a0 10 31 S39.1).bind fun S41 => (oPA (oNew S41 (.inl (.int, 5, .inl (fun _ => 0)))) a0 10 32 S41.1).bind fun S43 => (oPA (oNew S43 (.inl (.int, 5, .inl (fun _ => 0)))) a0 10 33 S43.1).bind fun S45 => (oPA (oNew S45 (.inl (.int, 50, .inl (fun _ => 0)))) a0 10 34 S45.1).bind fun S47 => (oPA (oNew S47 (.inl (.boolean, 5, .inl (fun _ => 0)))) a0 10 35 S47.1).bind fun S49 => (oPA (oNew S49 (.inl (.int, 400, .inl (fun _ => 0)))) a0 10 37 S49.1).bind fun S51 => (oPA (oNew S51 (.inl (.int, 400, .inl (fun _ => 0)))) a0 10 38 S51.1).bind fun S53 => (oPA (oNew S53 (.inl (.int, 400, .inl (fun _ => 0)))) a0 10 39 S53.1).bind fun S55 => (oPA (oNew S55 (.inl (.int, 400, .inl (fun _ => 0)))) a0 10 40 S55.1).bind fun S57 => (oPA (oNew S57 (.inl (.int, 62, .inl (fun _ => 0)))) a0 10 42 S57.1).bind fun S59 => (oPA (oNew S59 (.inl (.int, 62, .inl (fun _ => 0)))) a0 10 43 S59.1).bind fun S61 => (oPA (oNew S61 (.inl (.int, 62, .inl (fun _ => 0)))) a0 10 44 S61.1).bind fun S63 => (oPA (oNew S63 (.inl (.int, 700, .inl (fun _ => 0)))) a0 10 45 S63.1).bind fun S65 => (oPA (oNew S65 (.inl (.int, 41, .inl (fun _ => 0)))) a0 10 46 S65.1).bind fun S67 => (oPA (oNew S67 (.inl (.int, 41, .inl (fun _ => 0)))) a0 10 47 S67.1).bind fun S69 => (oPA (oNew S69 (.inl (.int, 41, .inl (fun _ => 0)))) a0 10 48 S69.1).bind fun S71 => (oPA (oNew S71 (.inl (.int, 41, .inl (fun _ => 0)))) a0 10 49 S71.1).bind fun S73 => (oPA (oNew S73 (.inl (.int, 41, .inl (fun _ => 0)))) a0 10 50 S73.1).bind fun S75 => (oPA (oNew S75 (.inl (.int, 41, .inl (fun _ => 0)))) a0 10 51 S75.1).bind fun S77 => (oPA (oNew S77 (.inl (.int, 41, .inl (fun _ => 0)))) a0 10 52 S77.1).bind fun S79 => (oPA (oNew S79 (.inl (.int, 41, .inl (fun _ => 0)))) a0 10 53 S79.1).bind fun S81 => some S81
set_option maxRecDepth 100000 in
set_option maxHeartbeats 4000000 in
theorem init10_eq (S : pS) (a : Nat) : F_X10_init S a = (F_X10_init0 S a).bind fun s => (F_X10_empties s a).bind fun q => some q := by
  unfold F_X10_init F_X10_init0
  simp only [Option.bind_assoc, Option.bind_some]
def sBo : Option pS := F_X10_init0 (oNew s9 (.inr (10, dfX10))) s9.1
def sB : pS := sBo.getD (0, h0)
set_option maxRecDepth 100000 in
theorem sB_some : sBo = some sB := opt_get _ (by decide +kernel)
theorem sB_n : sB.1 = 109 := by decide +kernel
set_option maxRecDepth 100000 in
theorem inits_0 : True := trivial
set_option maxRecDepth 100000 in
set_option maxHeartbeats 4000000 in
theorem st_1 : Sh s9 1 sp8 := by
  refine ⟨by rw [s9_n]; decide, fun i x hx => ?_⟩
  match i, hx with
  | 0, hx =>
    cases hx
    refine ⟨fOf (s9.2 1), rfl, fun k y hy => ?_⟩
    match k, hy with
    | 0, hy => cases hy; exact (rfl : fOf (s9.2 1) 0 = Value.ref 2)
    | 1, hy => cases hy; exact (rfl : fOf (s9.2 1) 1 = Value.ref 3)
    | 2, hy => cases hy; exact (rfl : fOf (s9.2 1) 2 = Value.ref 4)
    | 3, hy => cases hy; exact (rfl : fOf (s9.2 1) 3 = Value.ref 5)
    | 4, hy => cases hy; exact (rfl : fOf (s9.2 1) 4 = Value.ref 6)
    | 5, hy => cases hy; exact (rfl : fOf (s9.2 1) 5 = Value.ref 7)
    | 6, hy => cases hy; exact ⟨_, rfl⟩
    | 7, hy => cases hy; exact ⟨_, rfl⟩
    | 8, hy => cases hy; exact ⟨_, rfl⟩
    | 9, hy => cases hy; exact ⟨_, rfl⟩
  | 1, hx => cases hx; exact ⟨_, rfl, fun _ => rfl⟩
  | 2, hx => cases hx; exact ⟨_, rfl, fun _ => rfl⟩
  | 3, hx => cases hx; exact ⟨_, rfl, fun _ => rfl⟩
  | 4, hx => cases hx; exact ⟨_, rfl, fun _ => rfl⟩
  | 5, hx => cases hx; exact ⟨_, rfl, fun _ => rfl⟩
  | 6, hx => cases hx; exact ⟨_, rfl, fun _ => rfl⟩
set_option maxRecDepth 100000 in
set_option maxHeartbeats 4000000 in
theorem st_8 : Sh s9 8 sp8 := by
  refine ⟨by rw [s9_n]; decide, fun i x hx => ?_⟩
  match i, hx with
  | 0, hx =>
    cases hx
    refine ⟨fOf (s9.2 8), rfl, fun k y hy => ?_⟩
    match k, hy with
    | 0, hy => cases hy; exact (rfl : fOf (s9.2 8) 0 = Value.ref 9)
    | 1, hy => cases hy; exact (rfl : fOf (s9.2 8) 1 = Value.ref 10)
    | 2, hy => cases hy; exact (rfl : fOf (s9.2 8) 2 = Value.ref 11)
    | 3, hy => cases hy; exact (rfl : fOf (s9.2 8) 3 = Value.ref 12)
    | 4, hy => cases hy; exact (rfl : fOf (s9.2 8) 4 = Value.ref 13)
    | 5, hy => cases hy; exact (rfl : fOf (s9.2 8) 5 = Value.ref 14)
    | 6, hy => cases hy; exact ⟨_, rfl⟩
    | 7, hy => cases hy; exact ⟨_, rfl⟩
    | 8, hy => cases hy; exact ⟨_, rfl⟩
    | 9, hy => cases hy; exact ⟨_, rfl⟩
  | 1, hx => cases hx; exact ⟨_, rfl, fun _ => rfl⟩
  | 2, hx => cases hx; exact ⟨_, rfl, fun _ => rfl⟩
  | 3, hx => cases hx; exact ⟨_, rfl, fun _ => rfl⟩
  | 4, hx => cases hx; exact ⟨_, rfl, fun _ => rfl⟩
  | 5, hx => cases hx; exact ⟨_, rfl, fun _ => rfl⟩
  | 6, hx => cases hx; exact ⟨_, rfl, fun _ => rfl⟩
set_option maxRecDepth 100000 in
set_option maxHeartbeats 4000000 in
theorem st_15 : Sh s9 15 sp6 := by
  refine ⟨by rw [s9_n]; decide, fun i x hx => ?_⟩
  match i, hx with
  | 0, hx =>
    cases hx
    refine ⟨fOf (s9.2 15), rfl, fun k y hy => ?_⟩
    match k, hy with
    | 0, hy => cases hy; exact (rfl : fOf (s9.2 15) 0 = Value.ref 16)
    | 1, hy => cases hy; exact (rfl : fOf (s9.2 15) 1 = Value.ref 17)
    | 2, hy => cases hy; exact (rfl : fOf (s9.2 15) 2 = Value.ref 18)
    | 3, hy => cases hy; exact ⟨_, rfl⟩
    | 4, hy => cases hy; exact (rfl : fOf (s9.2 15) 4 = Value.ref 19)
    | 5, hy => cases hy; exact (rfl : fOf (s9.2 15) 5 = Value.ref 20)
    | 6, hy => cases hy; exact (rfl : fOf (s9.2 15) 6 = Value.ref 21)
    | 7, hy => cases hy; exact (rfl : fOf (s9.2 15) 7 = Value.ref 22)
  | 1, hx => cases hx; exact ⟨_, rfl, fun _ => rfl⟩
  | 2, hx => cases hx; exact ⟨_, rfl, fun _ => rfl⟩
  | 3, hx => cases hx; exact ⟨_, rfl, fun _ => rfl⟩
  | 4, hx => cases hx; exact ⟨_, rfl, fun _ => rfl⟩
  | 5, hx => cases hx; exact ⟨_, rfl, fun _ => rfl⟩
  | 6, hx => cases hx; exact ⟨_, rfl, fun _ => rfl⟩
  | 7, hx => cases hx; exact ⟨_, rfl⟩
set_option maxRecDepth 100000 in
set_option maxHeartbeats 4000000 in
theorem st_23 : Sh s9 23 sp6 := by
  refine ⟨by rw [s9_n]; decide, fun i x hx => ?_⟩
  match i, hx with
  | 0, hx =>
    cases hx
    refine ⟨fOf (s9.2 23), rfl, fun k y hy => ?_⟩
    match k, hy with
    | 0, hy => cases hy; exact (rfl : fOf (s9.2 23) 0 = Value.ref 24)
    | 1, hy => cases hy; exact (rfl : fOf (s9.2 23) 1 = Value.ref 25)
    | 2, hy => cases hy; exact (rfl : fOf (s9.2 23) 2 = Value.ref 26)
    | 3, hy => cases hy; exact ⟨_, rfl⟩
    | 4, hy => cases hy; exact (rfl : fOf (s9.2 23) 4 = Value.ref 27)
    | 5, hy => cases hy; exact (rfl : fOf (s9.2 23) 5 = Value.ref 28)
    | 6, hy => cases hy; exact (rfl : fOf (s9.2 23) 6 = Value.ref 29)
    | 7, hy => cases hy; exact (rfl : fOf (s9.2 23) 7 = Value.ref 30)
  | 1, hx => cases hx; exact ⟨_, rfl, fun _ => rfl⟩
  | 2, hx => cases hx; exact ⟨_, rfl, fun _ => rfl⟩
  | 3, hx => cases hx; exact ⟨_, rfl, fun _ => rfl⟩
  | 4, hx => cases hx; exact ⟨_, rfl, fun _ => rfl⟩
  | 5, hx => cases hx; exact ⟨_, rfl, fun _ => rfl⟩
  | 6, hx => cases hx; exact ⟨_, rfl, fun _ => rfl⟩
  | 7, hx => cases hx; exact ⟨_, rfl⟩
set_option maxRecDepth 100000 in
set_option maxHeartbeats 4000000 in
theorem st_33 : Sh s9 33 sp4 := by
  refine ⟨by rw [s9_n]; decide, fun i x hx => ?_⟩
  match i, hx with
  | 0, hx =>
    cases hx
    refine ⟨fOf (s9.2 33), rfl, fun k y hy => ?_⟩
    match k, hy with
    | 0, hy => cases hy; exact (rfl : fOf (s9.2 33) 0 = Value.ref 34)
    | 1, hy => cases hy; exact ⟨_, rfl⟩
  | 1, hx => cases hx; exact ⟨_, rfl, fun _ => rfl⟩
set_option maxRecDepth 100000 in
set_option maxHeartbeats 4000000 in
theorem st_35 : Sh s9 35 sp1 := by
  refine ⟨by rw [s9_n]; decide, fun i x hx => ?_⟩
  match i, hx with
  | 0, hx =>
    cases hx
    refine ⟨fOf (s9.2 35), rfl, fun k y hy => ?_⟩
    match k, hy with
    | 0, hy => cases hy; exact (rfl : fOf (s9.2 35) 0 = Value.ref 36)
    | 1, hy => cases hy; exact (rfl : fOf (s9.2 35) 1 = Value.ref 37)
    | 2, hy => cases hy; exact (rfl : fOf (s9.2 35) 2 = Value.ref 38)
    | 3, hy => cases hy; exact (rfl : fOf (s9.2 35) 3 = Value.ref 39)
    | 4, hy => cases hy; exact (rfl : fOf (s9.2 35) 4 = Value.ref 40)
    | 5, hy => cases hy; exact ⟨_, rfl⟩
  | 1, hx => cases hx; exact ⟨_, rfl, fun _ => rfl⟩
  | 2, hx => cases hx; exact ⟨_, rfl, fun _ => rfl⟩
  | 3, hx => cases hx; exact ⟨_, rfl, fun _ => rfl⟩
  | 4, hx => cases hx; exact ⟨_, rfl, fun _ => rfl⟩
  | 5, hx => cases hx; exact ⟨_, rfl, fun _ => rfl⟩
set_option maxRecDepth 100000 in
set_option maxHeartbeats 4000000 in
theorem st_41 : Sh s9 41 sp1 := by
  refine ⟨by rw [s9_n]; decide, fun i x hx => ?_⟩
  match i, hx with
  | 0, hx =>
    cases hx
    refine ⟨fOf (s9.2 41), rfl, fun k y hy => ?_⟩
    match k, hy with
    | 0, hy => cases hy; exact (rfl : fOf (s9.2 41) 0 = Value.ref 42)
    | 1, hy => cases hy; exact (rfl : fOf (s9.2 41) 1 = Value.ref 43)
    | 2, hy => cases hy; exact (rfl : fOf (s9.2 41) 2 = Value.ref 44)
    | 3, hy => cases hy; exact (rfl : fOf (s9.2 41) 3 = Value.ref 45)
    | 4, hy => cases hy; exact (rfl : fOf (s9.2 41) 4 = Value.ref 46)
    | 5, hy => cases hy; exact ⟨_, rfl⟩
  | 1, hx => cases hx; exact ⟨_, rfl, fun _ => rfl⟩
  | 2, hx => cases hx; exact ⟨_, rfl, fun _ => rfl⟩
  | 3, hx => cases hx; exact ⟨_, rfl, fun _ => rfl⟩
  | 4, hx => cases hx; exact ⟨_, rfl, fun _ => rfl⟩
  | 5, hx => cases hx; exact ⟨_, rfl, fun _ => rfl⟩
set_option maxRecDepth 100000 in
set_option maxHeartbeats 4000000 in
theorem st_47 : Sh s9 47 sp5 := by
  refine ⟨by rw [s9_n]; decide, fun i x hx => ?_⟩
  match i, hx with
  | 0, hx =>
    cases hx
    refine ⟨fOf (s9.2 47), rfl, fun k y hy => ?_⟩
    match k, hy with
    | 0, hy => cases hy; exact (rfl : fOf (s9.2 47) 0 = Value.ref 48)
    | 1, hy => cases hy; exact (rfl : fOf (s9.2 47) 1 = Value.ref 49)
    | 2, hy => cases hy; exact (rfl : fOf (s9.2 47) 2 = Value.ref 50)
    | 3, hy => cases hy; exact (rfl : fOf (s9.2 47) 3 = Value.ref 51)
    | 4, hy => cases hy; exact (rfl : fOf (s9.2 47) 4 = Value.ref 52)
    | 5, hy => cases hy; exact ⟨_, rfl⟩
  | 1, hx => cases hx; exact ⟨_, rfl, fun _ => rfl⟩
  | 2, hx => cases hx; exact ⟨_, rfl, fun _ => rfl⟩
  | 3, hx => cases hx; exact ⟨_, rfl, fun _ => rfl⟩
  | 4, hx => cases hx; exact ⟨_, rfl, fun _ => rfl⟩
  | 5, hx => cases hx; exact ⟨_, rfl, fun _ => rfl⟩
set_option maxRecDepth 100000 in
set_option maxHeartbeats 4000000 in
theorem st_53 : Sh s9 53 sp7 := by
  refine ⟨by rw [s9_n]; decide, fun i x hx => ?_⟩
  match i, hx with
  | 0, hx =>
    cases hx
    refine ⟨fOf (s9.2 53), rfl, fun k y hy => ?_⟩
    match k, hy with
    | 0, hy => cases hy; exact (rfl : fOf (s9.2 53) 0 = Value.ref 54)
    | 1, hy => cases hy; exact ⟨_, rfl⟩
    | 2, hy => cases hy; exact ⟨_, rfl⟩
  | 1, hx => cases hx; exact ⟨_, rfl, fun _ => rfl⟩
set_option maxRecDepth 100000 in
set_option maxHeartbeats 4000000 in
theorem st_55 : Sh s9 55 sp2 := by
  refine ⟨by rw [s9_n]; decide, fun i x hx => ?_⟩
  match i, hx with
  | 0, hx =>
    cases hx
    refine ⟨fOf (s9.2 55), rfl, fun k y hy => ?_⟩
    match k, hy with
    | 0, hy => cases hy; exact (rfl : fOf (s9.2 55) 0 = Value.ref 56)
    | 1, hy => cases hy; exact (rfl : fOf (s9.2 55) 1 = Value.ref 57)
    | 2, hy => cases hy; exact (rfl : fOf (s9.2 55) 2 = Value.ref 58)
    | 3, hy => cases hy; exact (rfl : fOf (s9.2 55) 3 = Value.ref 59)
    | 4, hy => cases hy; exact (rfl : fOf (s9.2 55) 4 = Value.ref 60)
    | 5, hy => cases hy; exact (rfl : fOf (s9.2 55) 5 = Value.ref 61)
    | 6, hy => cases hy; exact (rfl : fOf (s9.2 55) 6 = Value.ref 62)
    | 7, hy => cases hy; exact (rfl : fOf (s9.2 55) 7 = Value.ref 63)
    | 8, hy => cases hy; exact ⟨_, rfl⟩
  | 1, hx => cases hx; exact ⟨_, rfl, fun _ => rfl⟩
  | 2, hx => cases hx; exact ⟨_, rfl, fun _ => rfl⟩
  | 3, hx => cases hx; exact ⟨_, rfl, fun _ => rfl⟩
  | 4, hx => cases hx; exact ⟨_, rfl, fun _ => rfl⟩
  | 5, hx => cases hx; exact ⟨_, rfl, fun _ => rfl⟩
  | 6, hx => cases hx; exact ⟨_, rfl, fun _ => rfl⟩
  | 7, hx => cases hx; exact ⟨_, rfl, fun _ => rfl⟩
  | 8, hx => cases hx; exact ⟨_, rfl, fun _ => rfl⟩
set_option maxRecDepth 100000 in
set_option maxHeartbeats 4000000 in
theorem st_64 : Sh s9 64 sp0 := by
  refine ⟨by rw [s9_n]; decide, fun i x hx => ?_⟩
  match i, hx with
  | 0, hx =>
    cases hx
    refine ⟨fOf (s9.2 64), rfl, fun k y hy => ?_⟩
    match k, hy with
    | 0, hy => cases hy; exact (rfl : fOf (s9.2 64) 0 = Value.ref 65)
    | 1, hy => cases hy; exact ⟨_, rfl⟩
  | 1, hx => cases hx; exact ⟨_, rfl, fun _ => rfl⟩
set_option maxRecDepth 100000 in
set_option maxHeartbeats 4000000 in
theorem st_68 : Sh sB 68 sp10 := by
  refine ⟨by rw [sB_n]; decide, fun i x hx => ?_⟩
  match i, hx with
  | 0, hx =>
    cases hx
    refine ⟨fOf (sB.2 68), rfl, fun k y hy => ?_⟩
    match k, hy with
    | 0, hy => cases hy; exact ⟨_, rfl⟩
    | 1, hy => cases hy; exact (rfl : fOf (sB.2 68) 1 = Value.ref 69)
    | 2, hy => cases hy; exact (rfl : fOf (sB.2 68) 2 = Value.ref 70)
    | 3, hy => cases hy; exact (rfl : fOf (sB.2 68) 3 = Value.ref 71)
    | 4, hy => cases hy; exact (rfl : fOf (sB.2 68) 4 = Value.ref 72)
    | 5, hy => cases hy; exact ⟨_, rfl⟩
    | 6, hy => cases hy; exact ⟨_, rfl⟩
    | 7, hy => cases hy; exact (rfl : fOf (sB.2 68) 7 = Value.ref 73)
    | 8, hy => cases hy; exact ⟨_, rfl⟩
    | 9, hy => cases hy; exact (rfl : fOf (sB.2 68) 9 = Value.ref 74)
    | 10, hy => cases hy; exact ⟨_, rfl⟩
    | 11, hy => cases hy; exact ⟨_, rfl⟩
    | 12, hy => cases hy; exact (rfl : fOf (sB.2 68) 12 = Value.ref 75)
    | 13, hy => cases hy; exact ⟨_, rfl⟩
    | 14, hy => cases hy; exact (rfl : fOf (sB.2 68) 14 = Value.ref 76)
    | 15, hy => cases hy; exact (rfl : fOf (sB.2 68) 15 = Value.ref 77)
    | 16, hy => cases hy; exact (rfl : fOf (sB.2 68) 16 = Value.ref 78)
    | 17, hy => cases hy; exact (rfl : fOf (sB.2 68) 17 = Value.ref 79)
    | 18, hy => cases hy; exact (rfl : fOf (sB.2 68) 18 = Value.ref 80)
    | 19, hy => cases hy; exact (rfl : fOf (sB.2 68) 19 = Value.ref 81)
    | 20, hy => cases hy; exact ⟨_, rfl⟩
    | 21, hy => cases hy; exact ⟨_, rfl⟩
    | 22, hy => cases hy; exact ⟨_, rfl⟩
    | 23, hy => cases hy; exact ⟨_, rfl⟩
    | 24, hy => cases hy; exact (rfl : fOf (sB.2 68) 24 = Value.ref 82)
    | 25, hy => cases hy; exact (rfl : fOf (sB.2 68) 25 = Value.ref 83)
    | 26, hy => cases hy; exact (rfl : fOf (sB.2 68) 26 = Value.ref 84)
    | 27, hy => cases hy; exact (rfl : fOf (sB.2 68) 27 = Value.ref 85)
    | 28, hy => cases hy; exact (rfl : fOf (sB.2 68) 28 = Value.ref 86)
    | 29, hy => cases hy; exact (rfl : fOf (sB.2 68) 29 = Value.ref 87)
    | 30, hy => cases hy; exact ⟨_, rfl⟩
    | 31, hy => cases hy; exact (rfl : fOf (sB.2 68) 31 = Value.ref 88)
    | 32, hy => cases hy; exact (rfl : fOf (sB.2 68) 32 = Value.ref 89)
    | 33, hy => cases hy; exact (rfl : fOf (sB.2 68) 33 = Value.ref 90)
    | 34, hy => cases hy; exact (rfl : fOf (sB.2 68) 34 = Value.ref 91)
    | 35, hy => cases hy; exact (rfl : fOf (sB.2 68) 35 = Value.ref 92)
    | 36, hy => cases hy; exact ⟨_, rfl⟩
    | 37, hy => cases hy; exact (rfl : fOf (sB.2 68) 37 = Value.ref 93)
    | 38, hy => cases hy; exact (rfl : fOf (sB.2 68) 38 = Value.ref 94)
    | 39, hy => cases hy; exact (rfl : fOf (sB.2 68) 39 = Value.ref 95)
    | 40, hy => cases hy; exact (rfl : fOf (sB.2 68) 40 = Value.ref 96)
    | 41, hy => cases hy; exact ⟨_, rfl⟩
    | 42, hy => cases hy; exact (rfl : fOf (sB.2 68) 42 = Value.ref 97)
    | 43, hy => cases hy; exact (rfl : fOf (sB.2 68) 43 = Value.ref 98)
    | 44, hy => cases hy; exact (rfl : fOf (sB.2 68) 44 = Value.ref 99)
    | 45, hy => cases hy; exact (rfl : fOf (sB.2 68) 45 = Value.ref 100)
    | 46, hy => cases hy; exact (rfl : fOf (sB.2 68) 46 = Value.ref 101)
    | 47, hy => cases hy; exact (rfl : fOf (sB.2 68) 47 = Value.ref 102)
    | 48, hy => cases hy; exact (rfl : fOf (sB.2 68) 48 = Value.ref 103)
    | 49, hy => cases hy; exact (rfl : fOf (sB.2 68) 49 = Value.ref 104)
    | 50, hy => cases hy; exact (rfl : fOf (sB.2 68) 50 = Value.ref 105)
    | 51, hy => cases hy; exact (rfl : fOf (sB.2 68) 51 = Value.ref 106)
    | 52, hy => cases hy; exact (rfl : fOf (sB.2 68) 52 = Value.ref 107)
    | 53, hy => cases hy; exact (rfl : fOf (sB.2 68) 53 = Value.ref 108)
    | 54, hy => cases hy; exact ⟨_, rfl⟩
  | 1, hx => cases hx; exact ⟨_, rfl, fun _ => rfl⟩
  | 2, hx => cases hx; exact ⟨_, rfl, fun _ => rfl⟩
  | 3, hx => cases hx; exact ⟨_, rfl, fun _ => rfl⟩
  | 4, hx => cases hx; exact ⟨_, rfl, fun _ => rfl⟩
  | 5, hx => cases hx; exact ⟨_, rfl, fun _ => rfl⟩
  | 6, hx => cases hx; exact ⟨_, rfl, fun _ => rfl⟩
  | 7, hx => cases hx; exact ⟨_, rfl, fun _ => rfl⟩
  | 8, hx => cases hx; exact ⟨_, rfl, fun _ => rfl⟩
  | 9, hx => cases hx; exact ⟨_, rfl, fun _ => rfl⟩
  | 10, hx => cases hx; exact ⟨_, rfl, fun _ => rfl⟩
  | 11, hx => cases hx; exact ⟨_, rfl, fun _ => rfl⟩
  | 12, hx => cases hx; exact ⟨_, rfl, fun _ => rfl⟩
  | 13, hx => cases hx; exact ⟨_, rfl⟩
  | 14, hx => cases hx; exact ⟨_, rfl, fun _ => rfl⟩
  | 15, hx => cases hx; exact ⟨_, rfl, fun _ => rfl⟩
  | 16, hx => cases hx; exact ⟨_, rfl, fun _ => rfl⟩
  | 17, hx => cases hx; exact ⟨_, rfl, fun _ => rfl⟩
  | 18, hx => cases hx; exact ⟨_, rfl, fun _ => rfl⟩
  | 19, hx => cases hx; exact ⟨_, rfl, fun _ => rfl⟩
  | 20, hx => cases hx; exact ⟨_, rfl, fun _ => rfl⟩
  | 21, hx => cases hx; exact ⟨_, rfl, fun _ => rfl⟩
  | 22, hx => cases hx; exact ⟨_, rfl, fun _ => rfl⟩
  | 23, hx => cases hx; exact ⟨_, rfl, fun _ => rfl⟩
  | 24, hx => cases hx; exact ⟨_, rfl, fun _ => rfl⟩
  | 25, hx => cases hx; exact ⟨_, rfl, fun _ => rfl⟩
  | 26, hx => cases hx; exact ⟨_, rfl, fun _ => rfl⟩
  | 27, hx => cases hx; exact ⟨_, rfl, fun _ => rfl⟩
  | 28, hx => cases hx; exact ⟨_, rfl, fun _ => rfl⟩
  | 29, hx => cases hx; exact ⟨_, rfl, fun _ => rfl⟩
  | 30, hx => cases hx; exact ⟨_, rfl, fun _ => rfl⟩
  | 31, hx => cases hx; exact ⟨_, rfl, fun _ => rfl⟩
  | 32, hx => cases hx; exact ⟨_, rfl, fun _ => rfl⟩
  | 33, hx => cases hx; exact ⟨_, rfl, fun _ => rfl⟩
  | 34, hx => cases hx; exact ⟨_, rfl, fun _ => rfl⟩
  | 35, hx => cases hx; exact ⟨_, rfl, fun _ => rfl⟩
  | 36, hx => cases hx; exact ⟨_, rfl, fun _ => rfl⟩
  | 37, hx => cases hx; exact ⟨_, rfl, fun _ => rfl⟩
  | 38, hx => cases hx; exact ⟨_, rfl, fun _ => rfl⟩
  | 39, hx => cases hx; exact ⟨_, rfl, fun _ => rfl⟩
  | 40, hx => cases hx; exact ⟨_, rfl, fun _ => rfl⟩
end STA
