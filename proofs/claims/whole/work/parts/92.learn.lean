-- ===== lessons: what they bring =====
/-- as who could do what with a lesson -/
def yC1 (C : Nat → Nat → Bool) (k w q : Nat) : Bool := C w q || (decide (w = k / 10) && decide (q = k % 10))
/-- a lesson brings a set of posts one more -/
def yhb (C : Nat → Nat → Bool) (n k S : Nat) : Bool := S.testBit (k % 10) && !yrb C n S (k / 10)
def yad1 (C : Nat → Nat → Bool) (n k S : Nat) : Nat := if yhb C n k S = true then 1 else 0
def yad2 (C : Nat → Nat → Bool) (n k j S : Nat) : Nat := if k / 10 = j / 10 then (if (yhb C n k S || yhb C n j S) = true then 1 else 0) else yad1 C n k S + yad1 C n j S
section H
variable {C : Nat → Nat → Bool} {mu : Nat → Bool} {n p many mb : Nat}
theorem yrb_1c {k S w : Nat} (hq : k % 10 < n) : yrb (yC1 C k) n S w = (yrb C n S w || (decide (w = k / 10) && S.testBit (k % 10))) := by
  rw [Bool.eq_iff_iff, Bool.or_eq_true, Bool.and_eq_true, decide_eq_true_iff]
  constructor
  · intro h
    obtain ⟨q, h1, h2⟩ := yex_i.mp h
    unfold yC1 at h2
    rw [Bool.and_eq_true, Bool.or_eq_true, Bool.and_eq_true, decide_eq_true_iff, decide_eq_true_iff] at h2
    rcases h2.2 with z | ⟨z1, z2⟩
    · exact Or.inl (yex_i.mpr ⟨q, h1, by rw [Bool.and_eq_true]; exact ⟨h2.1, z⟩⟩)
    · subst z2; exact Or.inr ⟨z1, h2.1⟩
  · rintro (h | ⟨h1, h2⟩)
    · obtain ⟨q, h1, h2⟩ := yex_i.mp h
      rw [Bool.and_eq_true] at h2
      refine yex_i.mpr ⟨q, h1, ?_⟩
      unfold yC1
      rw [h2.1, h2.2]; rfl
    · refine yex_i.mpr ⟨k % 10, hq, ?_⟩
      unfold yC1
      rw [h2, decide_eq_true h1, decide_eq_true rfl]; simp
theorem yrc_1 {k S : Nat} (hw : k / 10 < p) (hq : k % 10 < n) : zct (yrb (yC1 C k) n S) p = zct (yrb C n S) p + yad1 C n k S := by
  unfold yad1
  cases hb : yhb C n k S
  · rw [if_neg (by decide), Nat.add_zero]
    refine zct_cg (fun w _ => ?_)
    rw [yrb_1c hq]
    unfold yhb at hb
    by_cases z : w = k / 10
    · subst z
      rw [decide_eq_true rfl, Bool.true_and]
      cases h1 : S.testBit (k % 10)
      · rw [Bool.or_false]
      · rw [h1, Bool.true_and] at hb
        cases h2 : yrb C n S (k / 10)
        · rw [h2] at hb; cases hb
        · rfl
    · rw [decide_eq_false z, Bool.false_and, Bool.or_false]
  · rw [if_pos rfl]
    unfold yhb at hb
    rw [Bool.and_eq_true] at hb
    have h2 : yrb C n S (k / 10) = false := by
      cases z : yrb C n S (k / 10) with
      | false => rfl
      | true => rw [z] at hb; cases hb.2
    refine zct_a1 hw (fun w _ => ?_) h2
    rw [yrb_1c hq, hb.1, Bool.and_true]
    congr 1
theorem yrc_2 {k j S : Nat} (hw : k / 10 < p) (hq : k % 10 < n) (hw2 : j / 10 < p) (hq2 : j % 10 < n) : zct (yrb (yC1 (yC1 C k) j) n S) p = zct (yrb C n S) p + yad2 C n k j S := by
  rw [yrc_1 hw2 hq2, yrc_1 hw hq, Nat.add_assoc]
  congr 1
  unfold yad2 yad1 yhb
  rw [yrb_1c hq]
  by_cases z : k / 10 = j / 10
  · rw [if_pos z, z, decide_eq_true rfl, Bool.true_and]
    cases S.testBit (k % 10) <;> cases S.testBit (j % 10) <;> cases yrb C n S (j / 10) <;> rfl
  · rw [if_neg z, decide_eq_false (fun y => z y.symm), Bool.false_and, Bool.or_false]
theorem yok {C' : Nat → Nat → Bool} {add : Nat → Nat} (hn : n ≤ 6) (hp : p ≤ 7) (hmb : mb < 2 ^ n) (hmu : ∀ q, q < n → mb.testBit q = mu q) (hmany : many ≤ p) (h : ∀ S, zct (yrb C' n S) p = zct (yrb C n S) p + add S) : yfi (yPw C' mu n p many) (2 ^ p) = none ↔ ∀ S, S < 64 → yLk C n p mb many (add S + 1) S = false := by
  have h64 := p2_6 hn
  rw [ybear hn hp]
  constructor
  · intro hb S hS
    have hb' := hb.resolve_left (by omega)
    unfold yLk
    by_cases z1 : 1 ≤ S
    · by_cases z2 : zmi S mb = 0
      · have h3 := (yms_i hn hmb hmu (by omega)).mpr z2
        have h4 := hb' S h3 (by omega)
        rw [h S] at h4
        rw [decide_eq_false (show ¬ zct (yrb C n S) p + (add S + 1) ≤ ypc S + many by rw [ypc_z h3.1 (by omega)]; omega), Bool.and_false]
      · rw [decide_eq_false z2, Bool.and_false, Bool.false_and]
    · rw [decide_eq_false z1, Bool.false_and, Bool.false_and]
  · intro hb
    refine Or.inr (fun S hS h0 => ?_)
    have h1 := hb S (by have := hS.1; omega)
    have h2 := (yms_i hn hmb hmu (by have := hS.1; omega)).mp hS
    unfold yLk at h1
    rw [decide_eq_true (show 1 ≤ S by omega), decide_eq_true h2, Bool.true_and, Bool.true_and, ypc_z hS.1 (by omega)] at h1
    have := of_decide_eq_false h1
    rw [h S]
    omega
theorem yLk_mo {l l' S : Nat} (h : l ≤ l') (hl : yLk C n p mb many l' S = true) : yLk C n p mb many l S = true := by
  unfold yLk at hl ⊢
  rw [Bool.and_eq_true, Bool.and_eq_true, decide_eq_true_iff, decide_eq_true_iff, decide_eq_true_iff] at hl ⊢
  exact ⟨hl.1, by omega⟩
theorem ytf {b : Bool} : b = false ↔ ¬ b = true := by cases b <;> simp
theorem yok1 {k : Nat} (hn : n ≤ 6) (hp : p ≤ 7) (hmb : mb < 2 ^ n) (hmu : ∀ q, q < n → mb.testBit q = mu q) (hmany : many ≤ p) (hw : k / 10 < p) (hq : k % 10 < n) : yfi (yPw (yC1 C k) mu n p many) (2 ^ p) = none ↔ (∀ S, S < 64 → yLk C n p mb many 2 S = false) ∧ ∀ S, S < 64 → yLk C n p mb many 1 S = true → yhb C n k S = true := by
  rw [yok (C := C) (add := yad1 C n k) hn hp hmb hmu hmany (fun S => yrc_1 hw hq)]
  constructor
  · intro h
    refine ⟨fun S hS => ?_, fun S hS z => ?_⟩
    · rw [ytf]
      intro z
      have h1 := h S hS
      have : yLk C n p mb many (yad1 C n k S + 1) S = true := yLk_mo (by unfold yad1; split <;> omega) z
      rw [this] at h1; cases h1
    · have h1 := h S hS
      cases hb : yhb C n k S with
      | true => rfl
      | false =>
        unfold yad1 at h1
        rw [hb, if_neg (by decide), z] at h1
        cases h1
  · rintro ⟨h1, h2⟩ S hS
    unfold yad1
    cases hb : yhb C n k S with
    | true => rw [if_pos rfl]; exact h1 S hS
    | false =>
      rw [if_neg (by decide), ytf]
      intro z
      rw [h2 S hS z] at hb; cases hb
theorem yok2 {k j : Nat} (hn : n ≤ 6) (hp : p ≤ 7) (hmb : mb < 2 ^ n) (hmu : ∀ q, q < n → mb.testBit q = mu q) (hmany : many ≤ p) (hw : k / 10 < p) (hq : k % 10 < n) (hw2 : j / 10 < p) (hq2 : j % 10 < n) : yfi (yPw (yC1 (yC1 C k) j) mu n p many) (2 ^ p) = none ↔ (∀ S, S < 64 → yLk C n p mb many 3 S = false) ∧ (∀ S, S < 64 → yLk C n p mb many 1 S = true → (yhb C n k S || yhb C n j S) = true) ∧ ∀ S, S < 64 → yLk C n p mb many 2 S = true → (!decide (k / 10 = j / 10) && (yhb C n k S && yhb C n j S)) = true := by
  rw [yok (C := C) (add := yad2 C n k j) hn hp hmb hmu hmany (fun S => yrc_2 hw hq hw2 hq2)]
  have hle : ∀ S, yad2 C n k j S ≤ 2 := by
    intro S
    unfold yad2 yad1
    split
    · split <;> omega
    · split <;> split <;> omega
  have h0 : ∀ S, (yhb C n k S || yhb C n j S) = false → yad2 C n k j S = 0 := by
    intro S h
    unfold yad2 yad1
    rw [Bool.or_eq_false_iff] at h
    rw [h.1, h.2]
    split <;> rfl
  have h1 : ∀ S, (!decide (k / 10 = j / 10) && (yhb C n k S && yhb C n j S)) = false → yad2 C n k j S ≤ 1 := by
    intro S h
    unfold yad2 yad1
    by_cases z : k / 10 = j / 10
    · rw [if_pos z]; split <;> omega
    · rw [if_neg z]
      rw [decide_eq_false z] at h
      cases h2 : yhb C n k S <;> cases h3 : yhb C n j S <;> rw [h2, h3] at h <;> first | decide | cases h
  have h2 : ∀ S, (!decide (k / 10 = j / 10) && (yhb C n k S && yhb C n j S)) = true → yad2 C n k j S = 2 := by
    intro S h
    rw [Bool.and_eq_true, Bool.and_eq_true] at h
    unfold yad2 yad1
    rw [if_neg (fun z => by rw [decide_eq_true z] at h; cases h.1), h.2.1, h.2.2]
    rfl
  have h3 : ∀ S, (yhb C n k S || yhb C n j S) = true → 1 ≤ yad2 C n k j S := by
    intro S h
    unfold yad2 yad1
    by_cases z : k / 10 = j / 10
    · rw [if_pos z, if_pos h]; exact Nat.le_refl _
    · rw [if_neg z]
      cases h2 : yhb C n k S <;> cases h3 : yhb C n j S <;> rw [h2, h3] at h <;> first | decide | cases h
  constructor
  · intro h
    refine ⟨fun S hS => ?_, fun S hS z => ?_, fun S hS z => ?_⟩
    · rw [ytf]
      intro z
      have := yLk_mo (show yad2 C n k j S + 1 ≤ 3 by have := hle S; omega) z
      rw [h S hS] at this; cases this
    · cases y : (yhb C n k S || yhb C n j S) with
      | true => rfl
      | false =>
        have := h S hS
        rw [h0 S y, z] at this; cases this
    · cases y : (!decide (k / 10 = j / 10) && (yhb C n k S && yhb C n j S)) with
      | true => rfl
      | false =>
        have := yLk_mo (show yad2 C n k j S + 1 ≤ 2 by have := h1 S y; omega) z
        rw [h S hS] at this; cases this
  · rintro ⟨g3, g1, g2⟩ S hS
    rw [ytf]
    intro z
    have hge : 1 ≤ yad2 C n k j S := h3 S (g1 S hS (yLk_mo (by omega) z))
    have h22 := h2 S (g2 S hS (yLk_mo (by omega) z))
    rw [h22, g3 S hS] at z
    cases z
end H
/-- whether a number is a lesson's -/
def yIs (e : Nat → Nat → Int32) (n p k : Nat) : Bool := decide (k / 10 < p) && decide (k % 10 < n) && !zCan e (k / 10) (k % 10) && !decide (e 83 (6 * (k / 10) + k % 10) = 1)
/-- the lessons ahead of a number -/
def yCt (e : Nat → Nat → Int32) (n p k : Nat) : Nat := zct (yIs e n p) k
theorem yIs_e {e : Nat → Nat → Int32} {n p k : Nat} (h : yIs e n p k = true) : k / 10 < p ∧ k % 10 < n ∧ zCan e (k / 10) (k % 10) = false ∧ ¬ e 83 (6 * (k / 10) + k % 10) = 1 := by
  unfold yIs at h
  rw [Bool.and_eq_true, Bool.and_eq_true, Bool.and_eq_true, decide_eq_true_iff, decide_eq_true_iff] at h
  refine ⟨h.1.1.1, h.1.1.2, ?_, ?_⟩
  · cases z : zCan e (k / 10) (k % 10) with
    | false => rfl
    | true => rw [z] at h; cases h.1.2
  · intro z
    rw [decide_eq_true z] at h; cases h.2
theorem zct_k {P : Nat → Bool} (a : Nat) : ∀ b, zct P (a + b) ≤ zct P a + b
  | 0 => Nat.le_refl _
  | b + 1 => by
    have := zct_k (P := P) a b
    show zct P (a + b + 1) ≤ _
    rw [zct_s]
    split <;> omega
theorem yCt_10 {e : Nat → Nat → Int32} {n p : Nat} (hn : n ≤ 6) : ∀ i, yCt e n p (10 * i) ≤ 6 * i
  | 0 => Nat.le_refl _
  | i + 1 => by
    have ih := yCt_10 (e := e) (p := p) hn i
    have h1 := zct_k (P := yIs e n p) (10 * i) 6
    have h2 : zct (yIs e n p) (10 * (i + 1)) = zct (yIs e n p) (10 * i + 6) := zct_z (by omega) (fun k h3 h4 => by
      unfold yIs
      rw [decide_eq_false (show ¬ k % 10 < n by omega)]; simp)
    unfold yCt at *
    omega
theorem zct_mn {P : Nat → Bool} {a b : Nat} (h : a ≤ b) : zct P a ≤ zct P b := by
  induction b with
  | zero => rw [show a = 0 by omega]; exact Nat.le_refl _
  | succ b ih =>
    by_cases hb : a = b + 1
    · rw [hb]; exact Nat.le_refl _
    · have := ih (by omega)
      rw [zct_s]
      split <;> omega
theorem zct_nx {P : Nat → Bool} {k N : Nat} (hk : k ≤ N) (h : zct P k < zct P N) : ∃ k', k ≤ k' ∧ k' < N ∧ P k' = true ∧ (∀ j, k ≤ j → j < k' → P j = false) ∧ zct P k' = zct P k := by
  obtain ⟨m, h1, h2, h3⟩ := zstop (fun i => P (k + i) = true) (N - k)
  have h2' : ∀ j, k ≤ j → j < k + m → P j = false := fun j a b => by
    have := h2 (j - k) (by omega)
    rw [show k + (j - k) = j by omega] at this
    exact ytf.mpr this
  have h4 : zct P (k + m) = zct P k := zct_z (by omega) h2'
  by_cases hm : m = N - k
  · rw [show k + m = N by omega] at h4; omega
  · exact ⟨k + m, by omega, by omega, h3.resolve_left hm, h2', h4⟩
