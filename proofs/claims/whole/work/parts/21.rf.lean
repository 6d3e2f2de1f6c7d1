theorem gkill_rf (x : Option Nat) : gkill (some (va_rf x)) = some (va_rf x) := by cases x <;> rfl
