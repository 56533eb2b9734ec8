/-- the cells after both constructors -/
def zL0 : List zK := [.inr 8, .inr 2, .inl (.int, 6), .inl (.object "PostsFilled$Person", 7), .inl (.object "PostsFilled$Text", 6), .inl (.int, 6), .inr 1, .inl (.int, 6), .inl (.int, 64), .inr 4, .inl (.int, 42), .inl (.int, 896), .inl (.int, 6), .inr 0, .inl (.int, 42), .inl (.int, 42), .inl (.long, 42), .inl (.object "PostsFilled$Sheet", 4), .inr 3, .inl (.int, 6), .inl (.int, 6), .inr 3, .inl (.int, 6), .inl (.int, 6), .inr 3, .inl (.int, 6), .inl (.int, 6), .inr 3, .inl (.int, 6), .inl (.int, 6), .inr 3, .inl (.int, 6), .inl (.int, 6), .inr 3, .inl (.int, 6), .inl (.int, 6), .inr 3, .inl (.int, 6), .inl (.int, 6), .inr 7, .inl (.int, 160), .inl (.int, 3), .inl (.int, 40), .inr 7, .inl (.int, 160), .inl (.int, 3), .inl (.int, 40), .inr 7, .inl (.int, 160), .inl (.int, 3), .inl (.int, 40), .inr 7, .inl (.int, 160), .inl (.int, 3), .inl (.int, 40), .inr 7, .inl (.int, 160), .inl (.int, 3), .inl (.int, 40), .inr 7, .inl (.int, 160), .inl (.int, 3), .inl (.int, 40), .inr 6, .inl (.int, 40), .inr 6, .inl (.int, 40), .inr 6, .inl (.int, 40), .inr 6, .inl (.int, 40), .inr 5, .inl (.int, 160), .inr 9, .inl (.boolean, 6), .inl (.int, 6), .inl (.int, 7), .inl (.int, 7), .inl (.int, 7), .inl (.int, 7), .inl (.int, 7), .inl (.int, 42), .inl (.boolean, 42), .inl (.boolean, 42), .inl (.int, 160), .inl (.int, 3570), .inl (.int, 21), .inl (.int, 21), .inl (.char, 60), .inl (.int, 170), .inl (.int, 6), .inl (.int, 7), .inl (.int, 42), .inl (.int, 6), .inl (.int, 6), .inl (.int, 42), .inl (.boolean, 42), .inl (.boolean, 42), .inl (.int, 7), .inl (.int, 4), .inl (.int, 4), .inl (.int, 160), .inl (.int, 40), .inl (.int, 17)]
/-- what the references hold -/
def zR0 (a k : Nat) : Option Nat := match a with
  | 0 => [some 1, some 3, none, some 71, some 4, none, none, some 5, some 6, some 9, some 13, some 17, none, none, none, none].getD k none
  | 1 => [none, none, some 2, none].getD k none
  | 3 => if k < 7 then some (18 + 3 * k) else none
  | 4 => if k < 6 then some (39 + 4 * k) else none
  | 6 => [none, some 7, some 8].getD k none
  | 9 => [none, none, some 10, some 11, some 12].getD k none
  | 13 => [none, some 14, some 15, some 16, none, none, none].getD k none
  | 17 => if k < 4 then some (63 + 2 * k) else none
  | 71 => if k = 1 then some 72 else none
  | 73 => [none, none, some 74, some 75, none, some 76, some 77, some 78, some 79, some 80, none, some 81, some 82, some 83, some 84, none, none, none, some 85, some 86, some 87, none, none, none, none, none, none, none, none, some 88, some 89, some 90, some 91, some 92, some 93, some 94, none, none, none, none, none, none, none, none, none, some 95, some 96, some 97, some 98, some 99, some 100, some 101, some 102].getD k none
  | a => if 18 ≤ a ∧ a < 39 ∧ (a - 18) % 3 = 0 then (if k = 5 then some (a + 1) else if k = 8 then some (a + 2) else none) else if 39 ≤ a ∧ a < 63 ∧ (a - 39) % 4 = 0 then (if k = 0 then some (a + 1) else if k = 2 then some (a + 2) else if k = 3 then some (a + 3) else none) else if 63 ≤ a ∧ a < 71 ∧ (a - 63) % 2 = 0 then (if k = 2 then some (a + 1) else none) else none
def zFr (μ : zS) : Prop := μ.1 = zL0 ∧ ∀ a, a < 104 → ∀ k, k < 60 → ¬ (a = 71 ∧ k = 2) → μ.2.2.2 a k = zR0 a k
/-- both constructors, as the law calls them -/
def zStart (u0 : zS) : Option zS := (znw u0 (.inr 8)).bind <| zk fun a1 u2 => (F_X_init u2 a1).bind fun u3 => (znw u3 (.inr 9)).bind <| zk fun a4 u5 => (F_M_init u5 a4).bind fun u6 => some u6
