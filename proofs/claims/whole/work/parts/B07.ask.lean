/-! THE CLASS: what bodies answer -/
section
variable {nl : Bool} {Ln : Nat} {xs : Nat → Int32}
theorem sr_rv {j k : Nat} (hj : j < 8) : am_rv (am_tz (TT nl Ln xs)) (500 + j) k = (dd_sr.getD j []).getD k 0 := by
  have : j = 0 ∨ j = 1 ∨ j = 2 ∨ j = 3 ∨ j = 4 ∨ j = 5 ∨ j = 6 ∨ j = 7 := by omega
  rcases this with h | h | h | h | h | h | h | h <;> subst h <;> rfl
theorem sr_rl {j : Nat} (hj : j < 8) : am_rl (am_tz (TT nl Ln xs)) (500 + j) = (dd_sr.getD j []).length := by
  have : j = 0 ∨ j = 1 ∨ j = 2 ∨ j = 3 ∨ j = 4 ∨ j = 5 ∨ j = 6 ∨ j = 7 := by omega
  rcases this with h | h | h | h | h | h | h | h <;> subst h <;> rfl
end
def LowK (σ : am_S) : Prop := ∀ n, n < 1000 → (am_kd σ n).1 = 0
