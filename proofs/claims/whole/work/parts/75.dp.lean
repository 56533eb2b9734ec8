-- ===== the best filling, as a function =====
/-- what one at a post comes to with the rest: -1: it can't be -/
def ywc (F : Nat → Bool) (C : Nat → Nat → Bool) (g : Nat → Nat → Nat) (q : Nat) (D : (Nat → Bool) → Int) (w : Nat) : Int := if F w = true ∧ C w q = true then (if D (yrm F w) < 0 then -1 else (g w q : Int) + D (yrm F w)) else -1
/-- the most of nobody and the first so many people -/
def yDj (F : Nat → Bool) (C : Nat → Nat → Bool) (g : Nat → Nat → Nat) (mu : Nat → Bool) (q : Nat) (D : (Nat → Bool) → Int) : Nat → Int
  | 0 => if mu q = true then -1 else D F
  | j + 1 => if yDj F C g mu q D j < ywc F C g q D j then ywc F C g q D j else yDj F C g mu q D j
/-- the first of them who comes to the most (0: nobody, w + 1: one) -/
def yFj (F : Nat → Bool) (C : Nat → Nat → Bool) (g : Nat → Nat → Nat) (mu : Nat → Bool) (q : Nat) (D : (Nat → Bool) → Int) : Nat → Nat
  | 0 => 0
  | j + 1 => if yDj F C g mu q D j < ywc F C g q D j then j + 1 else yFj F C g mu q D j
/-- the most that the last k posts come to with these free -/
def yD (C : Nat → Nat → Bool) (g : Nat → Nat → Nat) (n p : Nat) (mu : Nat → Bool) : Nat → (Nat → Bool) → Int
  | 0, _ => 0
  | k + 1, F => yDj F C g mu (n - (k + 1)) (yD C g n p mu k) p
def yF (C : Nat → Nat → Bool) (g : Nat → Nat → Nat) (n p : Nat) (mu : Nat → Bool) (k : Nat) (F : Nat → Bool) : Nat := yFj F C g mu (n - (k + 1)) (yD C g n p mu k) p
def ynx (F : Nat → Bool) (f : Nat) : Nat → Bool := if f = 0 then F else yrm F (f - 1)
/-- who is at each of the last k posts -/
def yL (C : Nat → Nat → Bool) (g : Nat → Nat → Nat) (n p : Nat) (mu : Nat → Bool) : Nat → (Nat → Bool) → Nat → Int32
  | 0, _, _ => -1
  | k + 1, F, q => if q = n - (k + 1) then nI (yF C g n p mu k F) - 1 else yL C g n p mu k (ynx F (yF C g n p mu k F)) q
section H
variable {C : Nat → Nat → Bool} {g : Nat → Nat → Nat} {n p : Nat} {mu : Nat → Bool} {F : Nat → Bool} {q : Nat} {D : (Nat → Bool) → Int}
theorem ywc_ge {w : Nat} (hD : ∀ F, -1 ≤ D F) : -1 ≤ ywc F C g q D w := by
  unfold ywc
  split
  · split
    · exact Int.le_refl _
    · have := hD (yrm F w); omega
  · exact Int.le_refl _
theorem yDj_ge (hD : ∀ F, -1 ≤ D F) : ∀ j, -1 ≤ yDj F C g mu q D j
  | 0 => by
    unfold yDj
    split
    · exact Int.le_refl _
    · exact hD F
  | j + 1 => by
    have h1 := yDj_ge hD j
    unfold yDj
    split
    · exact ywc_ge hD
    · exact h1
theorem yD_ge : ∀ (k : Nat) (F : Nat → Bool), -1 ≤ yD C g n p mu k F
  | 0, _ => by unfold yD; omega
  | k + 1, F => yDj_ge (yD_ge k) p
theorem yDj_le {m : Int} (hD : ∀ F, D F ≤ m) (hm : 0 ≤ m) (hg : ∀ w, g w q ≤ 9801) : ∀ j, yDj F C g mu q D j ≤ m + 9801
  | 0 => by
    unfold yDj
    have := hD F
    split <;> omega
  | j + 1 => by
    have h1 := yDj_le hD hm hg j
    have h2 : ywc F C g q D j ≤ m + 9801 := by
      unfold ywc
      have := hD (yrm F j)
      have := hg j
      split
      · split <;> omega
      · omega
    unfold yDj
    split <;> omega
theorem yD_le (hg : ∀ w q, g w q ≤ 9801) : ∀ (k : Nat) (F : Nat → Bool), yD C g n p mu k F ≤ 9801 * k
  | 0, _ => by unfold yD; omega
  | k + 1, F => by
    have := yDj_le (F := F) (C := C) (g := g) (mu := mu) (q := n - (k + 1)) (m := 9801 * k) (yD_le hg k) (by omega) (fun w => hg w _) p
    unfold yD
    omega
theorem yDj_mo : ∀ {i j : Nat}, i ≤ j → yDj F C g mu q D i ≤ yDj F C g mu q D j := by
  intro i j
  induction j with
  | zero => intro h; rw [show i = 0 by omega]; exact Int.le_refl _
  | succ j ih =>
    intro h
    by_cases hij : i = j + 1
    · rw [hij]; exact Int.le_refl _
    · have h1 := ih (by omega)
      refine Int.le_trans h1 ?_
      show _ ≤ (if yDj F C g mu q D j < ywc F C g q D j then ywc F C g q D j else yDj F C g mu q D j)
      split <;> omega
theorem ywc_le {w j : Nat} (h : w < j) : ywc F C g q D w ≤ yDj F C g mu q D j := by
  refine Int.le_trans ?_ (yDj_mo (show w + 1 ≤ j by omega))
  show _ ≤ (if yDj F C g mu q D w < ywc F C g q D w then ywc F C g q D w else yDj F C g mu q D w)
  split <;> omega
/-- the first that comes to the most: none ahead of it does -/
theorem yFj_ok : ∀ j, (yFj F C g mu q D j = 0 ∧ yDj F C g mu q D 0 = yDj F C g mu q D j) ∨ (∃ w, w < j ∧ yFj F C g mu q D j = w + 1 ∧ ywc F C g q D w = yDj F C g mu q D j ∧ yDj F C g mu q D 0 < yDj F C g mu q D j ∧ ∀ i, i < w → ywc F C g q D i < yDj F C g mu q D j)
  | 0 => Or.inl ⟨rfl, rfl⟩
  | j + 1 => by
    have ih := yFj_ok j
    have e1 : yFj F C g mu q D (j + 1) = if yDj F C g mu q D j < ywc F C g q D j then j + 1 else yFj F C g mu q D j := rfl
    have e2 : yDj F C g mu q D (j + 1) = if yDj F C g mu q D j < ywc F C g q D j then ywc F C g q D j else yDj F C g mu q D j := rfl
    by_cases h : yDj F C g mu q D j < ywc F C g q D j
    · rw [if_pos h] at e1 e2
      rw [e1, e2]
      refine Or.inr ⟨j, Nat.lt_succ_self j, rfl, rfl, ?_, fun i hi => ?_⟩
      · have := yDj_mo (F := F) (C := C) (g := g) (mu := mu) (q := q) (D := D) (Nat.zero_le j); omega
      · have := ywc_le (F := F) (C := C) (g := g) (mu := mu) (q := q) (D := D) hi; omega
    · rw [if_neg h] at e1 e2
      rw [e1, e2]
      rcases ih with z | ⟨w, z1, z2⟩
      · exact Or.inl z
      · exact Or.inr ⟨w, by omega, z2⟩
theorem yFj_le (j : Nat) : yFj F C g mu q D j ≤ j := by
  rcases yFj_ok j (F := F) (C := C) (g := g) (mu := mu) (q := q) (D := D) with z | ⟨w, z1, z2, -⟩ <;> omega
/-- there is a filling just where the most is not -1 -/
theorem yfl_D : ∀ (k : Nat) (F : Nat → Bool), (yfl C n p mu k F = true ↔ 0 ≤ yD C g n p mu k F)
  | 0, F => ⟨fun _ => by unfold yD; omega, fun _ => rfl⟩
  | k + 1, F => by
    have ih := yfl_D k
    show ((!mu (n - (k + 1)) && yfl C n p mu k F) || yex (fun w => F w && C w (n - (k + 1)) && yfl C n p mu k (yrm F w)) p) = true ↔ 0 ≤ yDj F C g mu (n - (k + 1)) (yD C g n p mu k) p
    rw [Bool.or_eq_true, Bool.and_eq_true, yex_i]
    constructor
    · rintro (⟨h1, h2⟩ | ⟨w, h1, h2⟩)
      · refine Int.le_trans ?_ (yDj_mo (Nat.zero_le p))
        show 0 ≤ (if mu (n - (k + 1)) = true then -1 else yD C g n p mu k F)
        rw [if_neg (fun z => by rw [z] at h1; cases h1)]
        exact (ih F).mp h2
      · rw [Bool.and_eq_true, Bool.and_eq_true] at h2
        refine Int.le_trans ?_ (ywc_le h1)
        unfold ywc
        have h3 := (ih _).mp h2.2
        rw [if_pos h2.1, if_neg (by omega)]
        omega
    · intro h
      rcases yFj_ok p (F := F) (C := C) (g := g) (mu := mu) (q := n - (k + 1)) (D := yD C g n p mu k) with ⟨z1, z2⟩ | ⟨w, z1, z2, z3, z4, z5⟩
      · rw [← z2] at h
        unfold yDj at h
        by_cases hm : mu (n - (k + 1)) = true
        · rw [if_pos hm] at h; omega
        · rw [if_neg hm] at h
          refine Or.inl ⟨?_, (ih F).mpr h⟩
          cases hmm : mu (n - (k + 1)) with
          | false => rfl
          | true => exact absurd hmm hm
      · rw [← z3] at h
        unfold ywc at h
        refine Or.inr ⟨w, z1, ?_⟩
        by_cases h1 : F w = true ∧ C w (n - (k + 1)) = true
        · rw [if_pos h1] at h
          by_cases h2 : yD C g n p mu k (yrm F w) < 0
          · rw [if_pos h2] at h; omega
          · rw [Bool.and_eq_true, Bool.and_eq_true]
            exact ⟨h1, (ih _).mpr (by omega)⟩
        · rw [if_neg h1] at h; omega
end H
