-- ===== loops, by what holds in them =====
theorem fix1_p {α : Type} {T0 : Type} {b : (T0 → Option α) → T0 → Option α} (m : Nat) (P : Nat → T0 → Prop) (Q : Option α → Prop) (hs : ∀ r i x0, i < m → P i x0 → (∃ y0, P (i + 1) y0 ∧ b r x0 = r y0) ∨ Q (b r x0)) (hx : ∀ r x0, P m x0 → Q (b r x0)) {N : Nat} (hN : m < N) {x0 : T0} (h0 : P 0 x0) : Q (zfix1 b N x0) := by
  have key : ∀ (d i N : Nat), i + d = m → d < N → ∀ x0, P i x0 → Q (zfix1 b N x0) := by
    intro d
    induction d with
    | zero =>
      intro i N hi hN x0 hP
      obtain ⟨N, rfl⟩ : ∃ k, N = k + 1 := ⟨N - 1, by omega⟩
      have : i = m := by omega
      subst this
      exact hx _ x0 hP
    | succ d ih =>
      intro i N hi hN x0 hP
      obtain ⟨N, rfl⟩ : ∃ k, N = k + 1 := ⟨N - 1, by omega⟩
      show Q (b (zfix1 b N) x0)
      rcases hs (zfix1 b N) i x0 (by omega) hP with ⟨y0, h1, h2⟩ | h1
      · rw [h2]
        exact ih (i + 1) N (by omega) (by omega) y0 h1
      · exact h1
  exact key m 0 N (by omega) hN x0 h0
theorem fix2_p {α : Type} {T0 : Type} {T1 : Type} {b : (T0 → T1 → Option α) → T0 → T1 → Option α} (m : Nat) (P : Nat → T0 → T1 → Prop) (Q : Option α → Prop) (hs : ∀ r i x0 x1, i < m → P i x0 x1 → (∃ y0 y1, P (i + 1) y0 y1 ∧ b r x0 x1 = r y0 y1) ∨ Q (b r x0 x1)) (hx : ∀ r x0 x1, P m x0 x1 → Q (b r x0 x1)) {N : Nat} (hN : m < N) {x0 : T0} {x1 : T1} (h0 : P 0 x0 x1) : Q (zfix2 b N x0 x1) := by
  have key : ∀ (d i N : Nat), i + d = m → d < N → ∀ x0 x1, P i x0 x1 → Q (zfix2 b N x0 x1) := by
    intro d
    induction d with
    | zero =>
      intro i N hi hN x0 x1 hP
      obtain ⟨N, rfl⟩ : ∃ k, N = k + 1 := ⟨N - 1, by omega⟩
      have : i = m := by omega
      subst this
      exact hx _ x0 x1 hP
    | succ d ih =>
      intro i N hi hN x0 x1 hP
      obtain ⟨N, rfl⟩ : ∃ k, N = k + 1 := ⟨N - 1, by omega⟩
      show Q (b (zfix2 b N) x0 x1)
      rcases hs (zfix2 b N) i x0 x1 (by omega) hP with ⟨y0, y1, h1, h2⟩ | h1
      · rw [h2]
        exact ih (i + 1) N (by omega) (by omega) y0 y1 h1
      · exact h1
  exact key m 0 N (by omega) hN x0 x1 h0
theorem fix3_p {α : Type} {T0 : Type} {T1 : Type} {T2 : Type} {b : (T0 → T1 → T2 → Option α) → T0 → T1 → T2 → Option α} (m : Nat) (P : Nat → T0 → T1 → T2 → Prop) (Q : Option α → Prop) (hs : ∀ r i x0 x1 x2, i < m → P i x0 x1 x2 → (∃ y0 y1 y2, P (i + 1) y0 y1 y2 ∧ b r x0 x1 x2 = r y0 y1 y2) ∨ Q (b r x0 x1 x2)) (hx : ∀ r x0 x1 x2, P m x0 x1 x2 → Q (b r x0 x1 x2)) {N : Nat} (hN : m < N) {x0 : T0} {x1 : T1} {x2 : T2} (h0 : P 0 x0 x1 x2) : Q (zfix3 b N x0 x1 x2) := by
  have key : ∀ (d i N : Nat), i + d = m → d < N → ∀ x0 x1 x2, P i x0 x1 x2 → Q (zfix3 b N x0 x1 x2) := by
    intro d
    induction d with
    | zero =>
      intro i N hi hN x0 x1 x2 hP
      obtain ⟨N, rfl⟩ : ∃ k, N = k + 1 := ⟨N - 1, by omega⟩
      have : i = m := by omega
      subst this
      exact hx _ x0 x1 x2 hP
    | succ d ih =>
      intro i N hi hN x0 x1 x2 hP
      obtain ⟨N, rfl⟩ : ∃ k, N = k + 1 := ⟨N - 1, by omega⟩
      show Q (b (zfix3 b N) x0 x1 x2)
      rcases hs (zfix3 b N) i x0 x1 x2 (by omega) hP with ⟨y0, y1, y2, h1, h2⟩ | h1
      · rw [h2]
        exact ih (i + 1) N (by omega) (by omega) y0 y1 y2 h1
      · exact h1
  exact key m 0 N (by omega) hN x0 x1 x2 h0
theorem fix4_p {α : Type} {T0 : Type} {T1 : Type} {T2 : Type} {T3 : Type} {b : (T0 → T1 → T2 → T3 → Option α) → T0 → T1 → T2 → T3 → Option α} (m : Nat) (P : Nat → T0 → T1 → T2 → T3 → Prop) (Q : Option α → Prop) (hs : ∀ r i x0 x1 x2 x3, i < m → P i x0 x1 x2 x3 → (∃ y0 y1 y2 y3, P (i + 1) y0 y1 y2 y3 ∧ b r x0 x1 x2 x3 = r y0 y1 y2 y3) ∨ Q (b r x0 x1 x2 x3)) (hx : ∀ r x0 x1 x2 x3, P m x0 x1 x2 x3 → Q (b r x0 x1 x2 x3)) {N : Nat} (hN : m < N) {x0 : T0} {x1 : T1} {x2 : T2} {x3 : T3} (h0 : P 0 x0 x1 x2 x3) : Q (zfix4 b N x0 x1 x2 x3) := by
  have key : ∀ (d i N : Nat), i + d = m → d < N → ∀ x0 x1 x2 x3, P i x0 x1 x2 x3 → Q (zfix4 b N x0 x1 x2 x3) := by
    intro d
    induction d with
    | zero =>
      intro i N hi hN x0 x1 x2 x3 hP
      obtain ⟨N, rfl⟩ : ∃ k, N = k + 1 := ⟨N - 1, by omega⟩
      have : i = m := by omega
      subst this
      exact hx _ x0 x1 x2 x3 hP
    | succ d ih =>
      intro i N hi hN x0 x1 x2 x3 hP
      obtain ⟨N, rfl⟩ : ∃ k, N = k + 1 := ⟨N - 1, by omega⟩
      show Q (b (zfix4 b N) x0 x1 x2 x3)
      rcases hs (zfix4 b N) i x0 x1 x2 x3 (by omega) hP with ⟨y0, y1, y2, y3, h1, h2⟩ | h1
      · rw [h2]
        exact ih (i + 1) N (by omega) (by omega) y0 y1 y2 y3 h1
      · exact h1
  exact key m 0 N (by omega) hN x0 x1 x2 x3 h0
theorem fix5_p {α : Type} {T0 : Type} {T1 : Type} {T2 : Type} {T3 : Type} {T4 : Type} {b : (T0 → T1 → T2 → T3 → T4 → Option α) → T0 → T1 → T2 → T3 → T4 → Option α} (m : Nat) (P : Nat → T0 → T1 → T2 → T3 → T4 → Prop) (Q : Option α → Prop) (hs : ∀ r i x0 x1 x2 x3 x4, i < m → P i x0 x1 x2 x3 x4 → (∃ y0 y1 y2 y3 y4, P (i + 1) y0 y1 y2 y3 y4 ∧ b r x0 x1 x2 x3 x4 = r y0 y1 y2 y3 y4) ∨ Q (b r x0 x1 x2 x3 x4)) (hx : ∀ r x0 x1 x2 x3 x4, P m x0 x1 x2 x3 x4 → Q (b r x0 x1 x2 x3 x4)) {N : Nat} (hN : m < N) {x0 : T0} {x1 : T1} {x2 : T2} {x3 : T3} {x4 : T4} (h0 : P 0 x0 x1 x2 x3 x4) : Q (zfix5 b N x0 x1 x2 x3 x4) := by
  have key : ∀ (d i N : Nat), i + d = m → d < N → ∀ x0 x1 x2 x3 x4, P i x0 x1 x2 x3 x4 → Q (zfix5 b N x0 x1 x2 x3 x4) := by
    intro d
    induction d with
    | zero =>
      intro i N hi hN x0 x1 x2 x3 x4 hP
      obtain ⟨N, rfl⟩ : ∃ k, N = k + 1 := ⟨N - 1, by omega⟩
      have : i = m := by omega
      subst this
      exact hx _ x0 x1 x2 x3 x4 hP
    | succ d ih =>
      intro i N hi hN x0 x1 x2 x3 x4 hP
      obtain ⟨N, rfl⟩ : ∃ k, N = k + 1 := ⟨N - 1, by omega⟩
      show Q (b (zfix5 b N) x0 x1 x2 x3 x4)
      rcases hs (zfix5 b N) i x0 x1 x2 x3 x4 (by omega) hP with ⟨y0, y1, y2, y3, y4, h1, h2⟩ | h1
      · rw [h2]
        exact ih (i + 1) N (by omega) (by omega) y0 y1 y2 y3 y4 h1
      · exact h1
  exact key m 0 N (by omega) hN x0 x1 x2 x3 x4 h0
theorem fix6_p {α : Type} {T0 : Type} {T1 : Type} {T2 : Type} {T3 : Type} {T4 : Type} {T5 : Type} {b : (T0 → T1 → T2 → T3 → T4 → T5 → Option α) → T0 → T1 → T2 → T3 → T4 → T5 → Option α} (m : Nat) (P : Nat → T0 → T1 → T2 → T3 → T4 → T5 → Prop) (Q : Option α → Prop) (hs : ∀ r i x0 x1 x2 x3 x4 x5, i < m → P i x0 x1 x2 x3 x4 x5 → (∃ y0 y1 y2 y3 y4 y5, P (i + 1) y0 y1 y2 y3 y4 y5 ∧ b r x0 x1 x2 x3 x4 x5 = r y0 y1 y2 y3 y4 y5) ∨ Q (b r x0 x1 x2 x3 x4 x5)) (hx : ∀ r x0 x1 x2 x3 x4 x5, P m x0 x1 x2 x3 x4 x5 → Q (b r x0 x1 x2 x3 x4 x5)) {N : Nat} (hN : m < N) {x0 : T0} {x1 : T1} {x2 : T2} {x3 : T3} {x4 : T4} {x5 : T5} (h0 : P 0 x0 x1 x2 x3 x4 x5) : Q (zfix6 b N x0 x1 x2 x3 x4 x5) := by
  have key : ∀ (d i N : Nat), i + d = m → d < N → ∀ x0 x1 x2 x3 x4 x5, P i x0 x1 x2 x3 x4 x5 → Q (zfix6 b N x0 x1 x2 x3 x4 x5) := by
    intro d
    induction d with
    | zero =>
      intro i N hi hN x0 x1 x2 x3 x4 x5 hP
      obtain ⟨N, rfl⟩ : ∃ k, N = k + 1 := ⟨N - 1, by omega⟩
      have : i = m := by omega
      subst this
      exact hx _ x0 x1 x2 x3 x4 x5 hP
    | succ d ih =>
      intro i N hi hN x0 x1 x2 x3 x4 x5 hP
      obtain ⟨N, rfl⟩ : ∃ k, N = k + 1 := ⟨N - 1, by omega⟩
      show Q (b (zfix6 b N) x0 x1 x2 x3 x4 x5)
      rcases hs (zfix6 b N) i x0 x1 x2 x3 x4 x5 (by omega) hP with ⟨y0, y1, y2, y3, y4, y5, h1, h2⟩ | h1
      · rw [h2]
        exact ih (i + 1) N (by omega) (by omega) y0 y1 y2 y3 y4 y5 h1
      · exact h1
  exact key m 0 N (by omega) hN x0 x1 x2 x3 x4 x5 h0
theorem fix7_p {α : Type} {T0 : Type} {T1 : Type} {T2 : Type} {T3 : Type} {T4 : Type} {T5 : Type} {T6 : Type} {b : (T0 → T1 → T2 → T3 → T4 → T5 → T6 → Option α) → T0 → T1 → T2 → T3 → T4 → T5 → T6 → Option α} (m : Nat) (P : Nat → T0 → T1 → T2 → T3 → T4 → T5 → T6 → Prop) (Q : Option α → Prop) (hs : ∀ r i x0 x1 x2 x3 x4 x5 x6, i < m → P i x0 x1 x2 x3 x4 x5 x6 → (∃ y0 y1 y2 y3 y4 y5 y6, P (i + 1) y0 y1 y2 y3 y4 y5 y6 ∧ b r x0 x1 x2 x3 x4 x5 x6 = r y0 y1 y2 y3 y4 y5 y6) ∨ Q (b r x0 x1 x2 x3 x4 x5 x6)) (hx : ∀ r x0 x1 x2 x3 x4 x5 x6, P m x0 x1 x2 x3 x4 x5 x6 → Q (b r x0 x1 x2 x3 x4 x5 x6)) {N : Nat} (hN : m < N) {x0 : T0} {x1 : T1} {x2 : T2} {x3 : T3} {x4 : T4} {x5 : T5} {x6 : T6} (h0 : P 0 x0 x1 x2 x3 x4 x5 x6) : Q (zfix7 b N x0 x1 x2 x3 x4 x5 x6) := by
  have key : ∀ (d i N : Nat), i + d = m → d < N → ∀ x0 x1 x2 x3 x4 x5 x6, P i x0 x1 x2 x3 x4 x5 x6 → Q (zfix7 b N x0 x1 x2 x3 x4 x5 x6) := by
    intro d
    induction d with
    | zero =>
      intro i N hi hN x0 x1 x2 x3 x4 x5 x6 hP
      obtain ⟨N, rfl⟩ : ∃ k, N = k + 1 := ⟨N - 1, by omega⟩
      have : i = m := by omega
      subst this
      exact hx _ x0 x1 x2 x3 x4 x5 x6 hP
    | succ d ih =>
      intro i N hi hN x0 x1 x2 x3 x4 x5 x6 hP
      obtain ⟨N, rfl⟩ : ∃ k, N = k + 1 := ⟨N - 1, by omega⟩
      show Q (b (zfix7 b N) x0 x1 x2 x3 x4 x5 x6)
      rcases hs (zfix7 b N) i x0 x1 x2 x3 x4 x5 x6 (by omega) hP with ⟨y0, y1, y2, y3, y4, y5, y6, h1, h2⟩ | h1
      · rw [h2]
        exact ih (i + 1) N (by omega) (by omega) y0 y1 y2 y3 y4 y5 y6 h1
      · exact h1
  exact key m 0 N (by omega) hN x0 x1 x2 x3 x4 x5 x6 h0
