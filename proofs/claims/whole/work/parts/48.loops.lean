-- ===== loops, by what they go through =====
theorem fix1_t {α : Type} {T0 : Type} {b : (T0 → Option α) → T0 → Option α} {out : Option α} (m : Nat) (g0 : Nat → T0) (hs : ∀ r i, i < m → b r (g0 i) = r (g0 (i + 1))) (hx : ∀ r, b r (g0 m) = out) {N : Nat} (hN : m < N) : zfix1 b N (g0 0) = out := by
  have key : ∀ (d i N : Nat), i + d = m → d < N → zfix1 b N (g0 i) = out := by
    intro d
    induction d with
    | zero =>
      intro i N hi hN
      obtain ⟨N, rfl⟩ : ∃ k, N = k + 1 := ⟨N - 1, by omega⟩
      have : i = m := by omega
      subst this
      exact hx _
    | succ d ih =>
      intro i N hi hN
      obtain ⟨N, rfl⟩ : ∃ k, N = k + 1 := ⟨N - 1, by omega⟩
      show b (zfix1 b N) (g0 i) = out
      rw [hs _ i (by omega)]
      exact ih (i + 1) N (by omega) (by omega)
  exact key m 0 N (by omega) hN
theorem fix2_t {α : Type} {T0 : Type} {T1 : Type} {b : (T0 → T1 → Option α) → T0 → T1 → Option α} {out : Option α} (m : Nat) (g0 : Nat → T0) (g1 : Nat → T1) (hs : ∀ r i, i < m → b r (g0 i) (g1 i) = r (g0 (i + 1)) (g1 (i + 1))) (hx : ∀ r, b r (g0 m) (g1 m) = out) {N : Nat} (hN : m < N) : zfix2 b N (g0 0) (g1 0) = out := by
  have key : ∀ (d i N : Nat), i + d = m → d < N → zfix2 b N (g0 i) (g1 i) = out := by
    intro d
    induction d with
    | zero =>
      intro i N hi hN
      obtain ⟨N, rfl⟩ : ∃ k, N = k + 1 := ⟨N - 1, by omega⟩
      have : i = m := by omega
      subst this
      exact hx _
    | succ d ih =>
      intro i N hi hN
      obtain ⟨N, rfl⟩ : ∃ k, N = k + 1 := ⟨N - 1, by omega⟩
      show b (zfix2 b N) (g0 i) (g1 i) = out
      rw [hs _ i (by omega)]
      exact ih (i + 1) N (by omega) (by omega)
  exact key m 0 N (by omega) hN
theorem fix3_t {α : Type} {T0 : Type} {T1 : Type} {T2 : Type} {b : (T0 → T1 → T2 → Option α) → T0 → T1 → T2 → Option α} {out : Option α} (m : Nat) (g0 : Nat → T0) (g1 : Nat → T1) (g2 : Nat → T2) (hs : ∀ r i, i < m → b r (g0 i) (g1 i) (g2 i) = r (g0 (i + 1)) (g1 (i + 1)) (g2 (i + 1))) (hx : ∀ r, b r (g0 m) (g1 m) (g2 m) = out) {N : Nat} (hN : m < N) : zfix3 b N (g0 0) (g1 0) (g2 0) = out := by
  have key : ∀ (d i N : Nat), i + d = m → d < N → zfix3 b N (g0 i) (g1 i) (g2 i) = out := by
    intro d
    induction d with
    | zero =>
      intro i N hi hN
      obtain ⟨N, rfl⟩ : ∃ k, N = k + 1 := ⟨N - 1, by omega⟩
      have : i = m := by omega
      subst this
      exact hx _
    | succ d ih =>
      intro i N hi hN
      obtain ⟨N, rfl⟩ : ∃ k, N = k + 1 := ⟨N - 1, by omega⟩
      show b (zfix3 b N) (g0 i) (g1 i) (g2 i) = out
      rw [hs _ i (by omega)]
      exact ih (i + 1) N (by omega) (by omega)
  exact key m 0 N (by omega) hN
theorem fix4_t {α : Type} {T0 : Type} {T1 : Type} {T2 : Type} {T3 : Type} {b : (T0 → T1 → T2 → T3 → Option α) → T0 → T1 → T2 → T3 → Option α} {out : Option α} (m : Nat) (g0 : Nat → T0) (g1 : Nat → T1) (g2 : Nat → T2) (g3 : Nat → T3) (hs : ∀ r i, i < m → b r (g0 i) (g1 i) (g2 i) (g3 i) = r (g0 (i + 1)) (g1 (i + 1)) (g2 (i + 1)) (g3 (i + 1))) (hx : ∀ r, b r (g0 m) (g1 m) (g2 m) (g3 m) = out) {N : Nat} (hN : m < N) : zfix4 b N (g0 0) (g1 0) (g2 0) (g3 0) = out := by
  have key : ∀ (d i N : Nat), i + d = m → d < N → zfix4 b N (g0 i) (g1 i) (g2 i) (g3 i) = out := by
    intro d
    induction d with
    | zero =>
      intro i N hi hN
      obtain ⟨N, rfl⟩ : ∃ k, N = k + 1 := ⟨N - 1, by omega⟩
      have : i = m := by omega
      subst this
      exact hx _
    | succ d ih =>
      intro i N hi hN
      obtain ⟨N, rfl⟩ : ∃ k, N = k + 1 := ⟨N - 1, by omega⟩
      show b (zfix4 b N) (g0 i) (g1 i) (g2 i) (g3 i) = out
      rw [hs _ i (by omega)]
      exact ih (i + 1) N (by omega) (by omega)
  exact key m 0 N (by omega) hN
theorem fix5_t {α : Type} {T0 : Type} {T1 : Type} {T2 : Type} {T3 : Type} {T4 : Type} {b : (T0 → T1 → T2 → T3 → T4 → Option α) → T0 → T1 → T2 → T3 → T4 → Option α} {out : Option α} (m : Nat) (g0 : Nat → T0) (g1 : Nat → T1) (g2 : Nat → T2) (g3 : Nat → T3) (g4 : Nat → T4) (hs : ∀ r i, i < m → b r (g0 i) (g1 i) (g2 i) (g3 i) (g4 i) = r (g0 (i + 1)) (g1 (i + 1)) (g2 (i + 1)) (g3 (i + 1)) (g4 (i + 1))) (hx : ∀ r, b r (g0 m) (g1 m) (g2 m) (g3 m) (g4 m) = out) {N : Nat} (hN : m < N) : zfix5 b N (g0 0) (g1 0) (g2 0) (g3 0) (g4 0) = out := by
  have key : ∀ (d i N : Nat), i + d = m → d < N → zfix5 b N (g0 i) (g1 i) (g2 i) (g3 i) (g4 i) = out := by
    intro d
    induction d with
    | zero =>
      intro i N hi hN
      obtain ⟨N, rfl⟩ : ∃ k, N = k + 1 := ⟨N - 1, by omega⟩
      have : i = m := by omega
      subst this
      exact hx _
    | succ d ih =>
      intro i N hi hN
      obtain ⟨N, rfl⟩ : ∃ k, N = k + 1 := ⟨N - 1, by omega⟩
      show b (zfix5 b N) (g0 i) (g1 i) (g2 i) (g3 i) (g4 i) = out
      rw [hs _ i (by omega)]
      exact ih (i + 1) N (by omega) (by omega)
  exact key m 0 N (by omega) hN
theorem fix6_t {α : Type} {T0 : Type} {T1 : Type} {T2 : Type} {T3 : Type} {T4 : Type} {T5 : Type} {b : (T0 → T1 → T2 → T3 → T4 → T5 → Option α) → T0 → T1 → T2 → T3 → T4 → T5 → Option α} {out : Option α} (m : Nat) (g0 : Nat → T0) (g1 : Nat → T1) (g2 : Nat → T2) (g3 : Nat → T3) (g4 : Nat → T4) (g5 : Nat → T5) (hs : ∀ r i, i < m → b r (g0 i) (g1 i) (g2 i) (g3 i) (g4 i) (g5 i) = r (g0 (i + 1)) (g1 (i + 1)) (g2 (i + 1)) (g3 (i + 1)) (g4 (i + 1)) (g5 (i + 1))) (hx : ∀ r, b r (g0 m) (g1 m) (g2 m) (g3 m) (g4 m) (g5 m) = out) {N : Nat} (hN : m < N) : zfix6 b N (g0 0) (g1 0) (g2 0) (g3 0) (g4 0) (g5 0) = out := by
  have key : ∀ (d i N : Nat), i + d = m → d < N → zfix6 b N (g0 i) (g1 i) (g2 i) (g3 i) (g4 i) (g5 i) = out := by
    intro d
    induction d with
    | zero =>
      intro i N hi hN
      obtain ⟨N, rfl⟩ : ∃ k, N = k + 1 := ⟨N - 1, by omega⟩
      have : i = m := by omega
      subst this
      exact hx _
    | succ d ih =>
      intro i N hi hN
      obtain ⟨N, rfl⟩ : ∃ k, N = k + 1 := ⟨N - 1, by omega⟩
      show b (zfix6 b N) (g0 i) (g1 i) (g2 i) (g3 i) (g4 i) (g5 i) = out
      rw [hs _ i (by omega)]
      exact ih (i + 1) N (by omega) (by omega)
  exact key m 0 N (by omega) hN
theorem fix7_t {α : Type} {T0 : Type} {T1 : Type} {T2 : Type} {T3 : Type} {T4 : Type} {T5 : Type} {T6 : Type} {b : (T0 → T1 → T2 → T3 → T4 → T5 → T6 → Option α) → T0 → T1 → T2 → T3 → T4 → T5 → T6 → Option α} {out : Option α} (m : Nat) (g0 : Nat → T0) (g1 : Nat → T1) (g2 : Nat → T2) (g3 : Nat → T3) (g4 : Nat → T4) (g5 : Nat → T5) (g6 : Nat → T6) (hs : ∀ r i, i < m → b r (g0 i) (g1 i) (g2 i) (g3 i) (g4 i) (g5 i) (g6 i) = r (g0 (i + 1)) (g1 (i + 1)) (g2 (i + 1)) (g3 (i + 1)) (g4 (i + 1)) (g5 (i + 1)) (g6 (i + 1))) (hx : ∀ r, b r (g0 m) (g1 m) (g2 m) (g3 m) (g4 m) (g5 m) (g6 m) = out) {N : Nat} (hN : m < N) : zfix7 b N (g0 0) (g1 0) (g2 0) (g3 0) (g4 0) (g5 0) (g6 0) = out := by
  have key : ∀ (d i N : Nat), i + d = m → d < N → zfix7 b N (g0 i) (g1 i) (g2 i) (g3 i) (g4 i) (g5 i) (g6 i) = out := by
    intro d
    induction d with
    | zero =>
      intro i N hi hN
      obtain ⟨N, rfl⟩ : ∃ k, N = k + 1 := ⟨N - 1, by omega⟩
      have : i = m := by omega
      subst this
      exact hx _
    | succ d ih =>
      intro i N hi hN
      obtain ⟨N, rfl⟩ : ∃ k, N = k + 1 := ⟨N - 1, by omega⟩
      show b (zfix7 b N) (g0 i) (g1 i) (g2 i) (g3 i) (g4 i) (g5 i) (g6 i) = out
      rw [hs _ i (by omega)]
      exact ih (i + 1) N (by omega) (by omega)
  exact key m 0 N (by omega) hN
/-- how many below n -/
def zct (P : Nat → Bool) : Nat → Nat
  | 0 => 0
  | n + 1 => zct P n + if P n then 1 else 0
theorem zct_le (P : Nat → Bool) : ∀ n, zct P n ≤ n
  | 0 => Nat.le_refl 0
  | n + 1 => by have := zct_le P n; unfold zct; split <;> omega
theorem zct_cg {P Q : Nat → Bool} : ∀ {n : Nat}, (∀ i, i < n → P i = Q i) → zct P n = zct Q n
  | 0, _ => rfl
  | n + 1, h => by unfold zct; rw [zct_cg (fun i hi => h i (by omega)), h n (by omega)]
theorem zct_z {P : Nat → Bool} {m : Nat} : ∀ {n : Nat}, m ≤ n → (∀ i, m ≤ i → i < n → P i = false) → zct P n = zct P m
  | 0, h, _ => by rw [show m = 0 by omega]
  | n + 1, h, hz => by
    by_cases hm : m = n + 1
    · rw [hm]
    · show zct P n + (if P n then 1 else 0) = zct P m
      rw [zct_z (n := n) (by omega) (fun i h1 h2 => hz i h1 (by omega)), hz n (by omega) (by omega)]
      simp
theorem zFU_lt {n : Nat} (h : n < 100000) : n < zFU := h
