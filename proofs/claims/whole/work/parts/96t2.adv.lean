-- ===== the next token: both =====
def yB36 (a k : Nat) : Prop := a = 71 ∧ 3 ≤ k ∧ k ≤ 6
/-- the class's reader has read the token that follows a place -/
def yAX (B : Nat → Nat) (T x : Nat) (e : Nat → Nat → Int32) : Prop := e 71 3 = nI (yen B T (yst0 B T x)) ∧ e 71 4 = nI (ykd B T (yst0 B T x)) ∧ e 71 5 = nI (yst0 B T x) ∧ (ykd B T (yst0 B T x) = 12 → e 71 6 = nI (yvl B (yst0 B T x) (yen B T (yst0 B T x) - yst0 B T x)))
section S
variable {B : Nat → Nat} {T : Nat} {v : zS}
theorem yTb_c {A : Nat} {e e' : Nat → Nat → Int32} (h : yTb B T A e) (he : ∀ j, e' A j = e A j) : yTb B T A e' := ⟨h.1, h.2.1, fun j hj => (he j).trans (h.2.2 j hj)⟩
theorem yvl_lt {s : Nat} (h : ∀ j, ydg (B (s + j)) = true ∨ True) (hB : ∀ j, B j < 256) : ∀ i, yvl B s i ≤ 208 * 1111 := by
  intro i
  have key : ∀ i, i ≤ 4 → yvl B s i ≤ 208 * (if i = 0 then 0 else if i = 1 then 1 else if i = 2 then 11 else if i = 3 then 111 else 1111) := by
    intro i hi
    have a0 := hB s
    have a1 := hB (s + 1)
    have a2 := hB (s + 2)
    have a3 := hB (s + 3)
    rcases (show i = 0 ∨ i = 1 ∨ i = 2 ∨ i = 3 ∨ i = 4 by omega) with rfl | rfl | rfl | rfl | rfl
    · exact Nat.zero_le _
    · simp [yvl]; omega
    · simp [yvl]; omega
    · simp [yvl]; omega
    · simp [yvl]; omega
  induction i with
  | zero => exact Nat.zero_le _
  | succ i ih =>
    by_cases h4 : i < 4
    · have := key (i + 1) (by omega)
      refine Nat.le_trans this ?_
      repeat (first | omega | split)
    · show (if i < 4 then _ else _) ≤ _
      rw [if_neg h4]; exact ih
theorem X_takeWord {y : Nat} (hf : zFr v) (hT : v.2.1 71 0 = nI T) (hB : yTb B T 72 v.2.1) (h3 : v.2.1 71 3 = nI y) (h5 : v.2.1 71 5 = nI y) (hy : y < T) : ∃ v', F_Reader_takeWord v 71 = some v' ∧ yNs yB36 v v' ∧ v'.2.1 71 3 = nI (yR (fun i => ylt (B i)) T y) ∧ v'.2.1 71 4 = nI (ywd B y (yR (fun i => ylt (B i)) T y)) ∧ v'.2.1 71 5 = nI y := by
  have hT160 := hB.1
  obtain ⟨r1, r2, r3, r4⟩ := yR_ok (P := fun i => ylt (B i)) (T := T) (x := y) (by omega)
  generalize yR (fun i => ylt (B i)) T y = z at *
  unfold F_Reader_takeWord
  refine fix1_p (z - y) (fun i u => yNs (fun a k => a = 71 ∧ k = 3) v u ∧ u.2.1 71 3 = nI (y + i)) (fun o => ∃ v', o = some v' ∧ yNs yB36 v v' ∧ v'.2.1 71 3 = nI z ∧ v'.2.1 71 4 = nI (ywd B y z) ∧ v'.2.1 71 5 = nI y) ?_ ?_ (zFU_lt (by omega)) ⟨yNs_rf hf, h3⟩
  · rintro r i u hi ⟨hu, hu3⟩
    have uT : u.2.1 71 0 = nI T := (hu.2.2.2 _ _ (by omega)).trans hT
    have uB : u.2.1 72 (y + i) = nI (B (y + i)) := (hu.2.2.2 _ _ (by omega)).trans (hB.2.2 _ (by omega))
    have hl := r3 (y + i) (by omega) (by omega)
    left
    refine ⟨zuI u 71 3 (nI (y + (i + 1))), ⟨yNs_w hu ⟨rfl, rfl⟩, by rw [uI_at, if_pos ⟨rfl, rfl⟩]⟩, ?_⟩
    rw [gI_71 hu.1, zb_some, gI_71 hu.1, zb_some, uT, hu3, if_neg (show ¬ nI T ≤ nI (y + i) by rw [nI_leI (by omega) (by omega)]; omega), gR_71_1 hu.1, zb_some, zb_some, aI_72 hu.1 (by omega), zb_some, uB, X_let (hB.2.1 _), zb_some, hl, if_neg (show ¬ b2 true = 0 by decide), zb_some, show nI (y + i) + 1 = nI (y + (i + 1)) from nI_add (y + i) 1, pI_71 hu.1, zb_some]
  · rintro r u ⟨hu, hu3⟩
    rw [show y + (z - y) = z by omega] at hu3
    have uT : u.2.1 71 0 = nI T := (hu.2.2.2 _ _ (by omega)).trans hT
    have u5 : u.2.1 71 5 = nI y := (hu.2.2.2 _ _ (by omega)).trans h5
    have uB : yTb B T 72 u.2.1 := yTb_c hB (fun j => hu.2.2.2 _ _ (by omega))
    have hw := X_word hu.1 uT uB r1 r2
    refine ⟨zuI u 71 4 (nI (ywd B y z)), ?_, yNs_w (yNs_mo hu (fun a k x => ⟨x.1, by omega, by omega⟩)) ⟨rfl, by decide, by decide⟩, by rw [uI_at, if_neg (by omega)]; exact hu3, by rw [uI_at, if_pos ⟨rfl, rfl⟩], by rw [uI_at, if_neg (by omega)]; exact u5⟩
    rw [gI_71 hu.1, zb_some, gI_71 hu.1, zb_some, uT, hu3]
    by_cases hz : z = T
    · rw [if_pos (show nI T ≤ nI z by rw [hz]; exact Int32.le_refl _), gI_71 hu.1, zb_some, u5, zb_some, fo_71 hu.1, zb_some, hw, zb_some, pI_71 hu.1, zb_some]
    · have hl := r4.resolve_left hz
      rw [if_neg (show ¬ nI T ≤ nI z by rw [nI_leI (by omega) (by omega)]; omega), gR_71_1 hu.1, zb_some, zb_some, aI_72 hu.1 (by omega), zb_some, uB.2.2 z (by omega), X_let (hB.2.1 _), zb_some, hl, if_pos (show b2 false = 0 from rfl), gI_71 hu.1, zb_some, u5, zb_some, fo_71 hu.1, zb_some, hw, zb_some, pI_71 hu.1, zb_some]
theorem ydg_i {b : Nat} (h : ydg b = true) : 48 ≤ b ∧ b ≤ 57 := by
  unfold ydg at h
  rw [Bool.and_eq_true, decide_eq_true_iff, decide_eq_true_iff] at h
  exact h
theorem X_takeNum {y : Nat} (hf : zFr v) (hT : v.2.1 71 0 = nI T) (hB : yTb B T 72 v.2.1) (h3 : v.2.1 71 3 = nI y) (h5 : v.2.1 71 5 = nI y) (hy : y < T) : ∃ v', F_Reader_takeNumber v 71 = some v' ∧ yNs yB36 v v' ∧ v'.2.1 71 3 = nI (yR (fun i => ydg (B i)) T y) ∧ v'.2.1 71 4 = nI (if yR (fun i => ydg (B i)) T y - y ≤ 4 then 12 else 14) ∧ v'.2.1 71 5 = nI y ∧ v'.2.1 71 6 = nI (yvl B y (yR (fun i => ydg (B i)) T y - y)) := by
  have hT160 := hB.1
  obtain ⟨r1, r2, r3, r4⟩ := yR_ok (P := fun i => ydg (B i)) (T := T) (x := y) (by omega)
  generalize yR (fun i => ydg (B i)) T y = z at *
  have hvl := yvl_lt (B := B) (s := y) (fun _ => Or.inr trivial) hB.2.1
  unfold F_Reader_takeNumber
  rw [pI_71 hf, zb_some]
  refine fix1_p (z - y) (fun i u => yNs (fun a k => a = 71 ∧ (k = 3 ∨ k = 6)) v u ∧ u.2.1 71 3 = nI (y + i) ∧ u.2.1 71 6 = nI (yvl B y i)) (fun o => ∃ v', o = some v' ∧ yNs yB36 v v' ∧ v'.2.1 71 3 = nI z ∧ v'.2.1 71 4 = nI (if z - y ≤ 4 then 12 else 14) ∧ v'.2.1 71 5 = nI y ∧ v'.2.1 71 6 = nI (yvl B y (z - y))) ?_ ?_ (zFU_lt (by omega)) ⟨yNs_w (yNs_rf hf) ⟨rfl, Or.inr rfl⟩, by rw [uI_at, if_neg (by omega)]; exact h3, by rw [uI_at, if_pos ⟨rfl, rfl⟩]; rfl⟩
  · rintro r i u hi ⟨hu, hu3, hu6⟩
    have uT : u.2.1 71 0 = nI T := (hu.2.2.2 _ _ (by omega)).trans hT
    have u5 : u.2.1 71 5 = nI y := (hu.2.2.2 _ _ (by omega)).trans h5
    have uB : u.2.1 72 (y + i) = nI (B (y + i)) := (hu.2.2.2 _ _ (by omega)).trans (hB.2.2 _ (by omega))
    have hl := r3 (y + i) (by omega) (by omega)
    have hb := hB.2.1 (y + i)
    have hv := hvl i
    obtain ⟨d1, d2⟩ := ydg_i hl
    left
    rw [gI_71 hu.1, zb_some, gI_71 hu.1, zb_some, uT, hu3, if_neg (show ¬ nI T ≤ nI (y + i) by rw [nI_leI (by omega) (by omega)]; omega), gR_71_1 hu.1, zb_some, zb_some, aI_72 hu.1 (by omega), zb_some, uB, X_dig hb, zb_some, hl, if_neg (show ¬ b2 true = 0 by decide), zb_some, gI_71 hu.1, zb_some, u5, pk_sub (by omega), show y + i - y = i by omega, zb_some]
    have e1 : yvl B y (i + 1) = if i < 4 then yvl B y i * 10 + (B (y + i) - 48) else yvl B y i := rfl
    by_cases h4 : i < 4
    · rw [if_pos h4] at e1
      have f2 : zFr (zuI u 71 6 (nI (yvl B y (i + 1)))) := fr_uI hu.1
      refine ⟨zuI (zuI u 71 6 (nI (yvl B y (i + 1)))) 71 3 (nI (y + (i + 1))), ⟨yNs_w (yNs_w hu ⟨rfl, Or.inr rfl⟩) ⟨rfl, Or.inl rfl⟩, by rw [uI_at, if_pos ⟨rfl, rfl⟩], by rw [uI_at, if_neg (by omega), uI_at, if_pos ⟨rfl, rfl⟩]⟩, ?_⟩
      have g3 : (zuI u 71 6 (nI (yvl B y (i + 1)))).2.1 71 3 = nI (y + i) := by rw [uI_at, if_neg (by omega)]; exact hu3
      rw [if_neg (show ¬ (4 : Int32) ≤ nI i by rw [show (4 : Int32) = nI 4 from rfl, nI_leI (by omega) (by omega)]; omega), gI_71 hu.1, zb_some, hu6, zb_some, zb_some, aI_72 hu.1 (by omega), zb_some, uB, show (10 : Int32) = nI 10 from rfl, show (48 : Int32) = nI 48 from rfl, pk_mul, pk_sub d1, nI_add, ← e1, pI_71 hu.1, zb_some, gI_71 f2, zb_some, g3, show nI (y + i) + 1 = nI (y + (i + 1)) from nI_add (y + i) 1, pI_71 f2, zb_some]
    · rw [if_neg h4] at e1
      refine ⟨zuI u 71 3 (nI (y + (i + 1))), ⟨yNs_w hu ⟨rfl, Or.inl rfl⟩, by rw [uI_at, if_pos ⟨rfl, rfl⟩], by rw [uI_at, if_neg (by omega), e1]; exact hu6⟩, ?_⟩
      rw [if_pos (show (4 : Int32) ≤ nI i by rw [show (4 : Int32) = nI 4 from rfl, nI_leI (by omega) (by omega)]; omega), show nI (y + i) + 1 = nI (y + (i + 1)) from nI_add (y + i) 1, pI_71 hu.1, zb_some]
  · rintro r u ⟨hu, hu3, hu6⟩
    rw [show y + (z - y) = z by omega] at hu3
    have uT : u.2.1 71 0 = nI T := (hu.2.2.2 _ _ (by omega)).trans hT
    have u5 : u.2.1 71 5 = nI y := (hu.2.2.2 _ _ (by omega)).trans h5
    have uB : yTb B T 72 u.2.1 := yTb_c hB (fun j => hu.2.2.2 _ _ (by omega))
    have fin : ∀ m, (∃ v', (if nI (z - y) ≤ 4 then (zpI u 5 (some 71) 4 12).bind fun u8 => some u8 else (zpI u 5 (some 71) 4 14).bind fun u9 => some u9) = some v' ∧ yNs yB36 v v' ∧ v'.2.1 71 3 = nI z ∧ v'.2.1 71 4 = nI m ∧ v'.2.1 71 5 = nI y ∧ v'.2.1 71 6 = nI (yvl B y (z - y))) ∨ m ≠ (if z - y ≤ 4 then 12 else 14) := by
      intro m
      by_cases hm : m = (if z - y ≤ 4 then 12 else 14)
      · left
        rw [hm]
        by_cases h4 : z - y ≤ 4
        · rw [if_pos (show nI (z - y) ≤ 4 by rw [show (4 : Int32) = nI 4 from rfl, nI_leI (by omega) (by omega)]; exact h4), if_pos h4, pI_71 hu.1, zb_some]
          exact ⟨_, rfl, yNs_w (yNs_mo hu (fun a k x => ⟨x.1, by omega, by omega⟩)) ⟨rfl, by decide, by decide⟩, by rw [uI_at, if_neg (by omega)]; exact hu3, by rw [uI_at, if_pos ⟨rfl, rfl⟩]; rfl, by rw [uI_at, if_neg (by omega)]; exact u5, by rw [uI_at, if_neg (by omega)]; exact hu6⟩
        · rw [if_neg (show ¬ nI (z - y) ≤ 4 by rw [show (4 : Int32) = nI 4 from rfl, nI_leI (by omega) (by omega)]; exact h4), if_neg h4, pI_71 hu.1, zb_some]
          exact ⟨_, rfl, yNs_w (yNs_mo hu (fun a k x => ⟨x.1, by omega, by omega⟩)) ⟨rfl, by decide, by decide⟩, by rw [uI_at, if_neg (by omega)]; exact hu3, by rw [uI_at, if_pos ⟨rfl, rfl⟩]; rfl, by rw [uI_at, if_neg (by omega)]; exact u5, by rw [uI_at, if_neg (by omega)]; exact hu6⟩
      · exact Or.inr hm
    have fin' := (fin (if z - y ≤ 4 then 12 else 14)).resolve_right (fun z => z rfl)
    rw [gI_71 hu.1, zb_some, gI_71 hu.1, zb_some, uT, hu3]
    by_cases hz : z = T
    · rw [if_pos (show nI T ≤ nI z by rw [hz]; exact Int32.le_refl _), zb_some, gI_71 hu.1, zb_some, u5, pk_sub r1]
      exact fin'
    · have hl := r4.resolve_left hz
      rw [if_neg (show ¬ nI T ≤ nI z by rw [nI_leI (by omega) (by omega)]; omega), gR_71_1 hu.1, zb_some, zb_some, aI_72 hu.1 (by omega), zb_some, uB.2.2 z (by omega), X_dig (hB.2.1 _), zb_some, hl, if_pos (show b2 false = 0 from rfl), zb_some, gI_71 hu.1, zb_some, u5, pk_sub r1]
      exact fin'
theorem X_adv {x : Nat} (hf : zFr v) (hT : v.2.1 71 0 = nI T) (hB : yTb B T 72 v.2.1) (h3 : v.2.1 71 3 = nI x) (hx : x ≤ T) : ∃ v', F_Reader_advance v 71 = some v' ∧ yNs yB36 v v' ∧ yAX B T x v'.2.1 := by
  have hT160 := hB.1
  obtain ⟨r1, r2, r3, r4⟩ := yR_ok (P := fun i => ybl (B i)) (T := T) (x := x) hx
  unfold yAX
  rw [show yst0 B T x = yR (fun i => ybl (B i)) T x from rfl]
  generalize yR (fun i => ybl (B i)) T x = y at *
  unfold F_Reader_advance
  refine fix1_p (y - x) (fun i u => yNs (fun a k => a = 71 ∧ k = 3) v u ∧ u.2.1 71 3 = nI (x + i)) (fun o => ∃ v', o = some v' ∧ yNs yB36 v v' ∧ v'.2.1 71 3 = nI (yen B T y) ∧ v'.2.1 71 4 = nI (ykd B T y) ∧ v'.2.1 71 5 = nI y ∧ (ykd B T y = 12 → v'.2.1 71 6 = nI (yvl B y (yen B T y - y)))) ?_ ?_ (zFU_lt (by omega)) ⟨yNs_rf hf, h3⟩
  · rintro r i u hi ⟨hu, hu3⟩
    have uT : u.2.1 71 0 = nI T := (hu.2.2.2 _ _ (by omega)).trans hT
    have uB : u.2.1 72 (x + i) = nI (B (x + i)) := (hu.2.2.2 _ _ (by omega)).trans (hB.2.2 _ (by omega))
    have hl := r3 (x + i) (by omega) (by omega)
    have hb := hB.2.1 (x + i)
    left
    refine ⟨zuI u 71 3 (nI (x + (i + 1))), ⟨yNs_w hu ⟨rfl, rfl⟩, by rw [uI_at, if_pos ⟨rfl, rfl⟩]⟩, ?_⟩
    simp only [gI_71 hu.1, zb_some, uT, hu3, gR_71_1 hu.1, aI_72 hu.1 (show x + i < 160 by omega), uB, pI_71 hu.1]
    rw [if_neg (show ¬ nI T ≤ nI (x + i) by rw [nI_leI (by omega) (by omega)]; omega), show nI (x + i) + 1 = nI (x + (i + 1)) from nI_add (x + i) 1]
    unfold ybl at hl
    rw [Bool.or_eq_true, decide_eq_true_iff, decide_eq_true_iff] at hl
    by_cases z : B (x + i) = 32
    · rw [if_pos (show nI (B (x + i)) = 32 by rw [z]; rfl)]
    · rw [if_neg (show ¬ nI (B (x + i)) = 32 from fun y => z (nI_inj (b := 32) (by omega) (by decide) y)), if_pos (show nI (B (x + i)) = 10 by rw [hl.resolve_left z]; rfl)]
  · rintro r u ⟨hu, hu3⟩
    rw [show x + (y - x) = y by omega] at hu3
    have uT : u.2.1 71 0 = nI T := (hu.2.2.2 _ _ (by omega)).trans hT
    have uB : yTb B T 72 u.2.1 := yTb_c hB (fun j => hu.2.2.2 _ _ (by omega))
    have f1 : zFr (zuI u 71 5 (nI y)) := fr_uI hu.1
    have hN1 : yNs yB36 v (zuI u 71 5 (nI y)) := yNs_w (yNs_mo hu (fun a k x => ⟨x.1, by omega, by omega⟩)) ⟨rfl, by decide, by decide⟩
    have g3 : (zuI u 71 5 (nI y)).2.1 71 3 = nI y := by rw [uI_at, if_neg (by omega)]; exact hu3
    have g0 : (zuI u 71 5 (nI y)).2.1 71 0 = nI T := by rw [uI_at, if_neg (by omega)]; exact uT
    have g5 : (zuI u 71 5 (nI y)).2.1 71 5 = nI y := by rw [uI_at, if_pos ⟨rfl, rfl⟩]
    have gB : yTb B T 72 (zuI u 71 5 (nI y)).2.1 := yTb_c uB (fun j => uI_off (by omega))
    rw [gI_71 hu.1, zb_some, gI_71 hu.1, zb_some, uT, hu3]
    by_cases hyT : y = T
    · rw [if_pos (show nI T ≤ nI y by rw [hyT]; exact Int32.le_refl _), zb_some, pI_71 hu.1, zb_some, gI_71 f1, zb_some, g3, gI_71 f1, zb_some, g0, if_neg (show ¬ nI y < nI T by rw [nI_ltI (by omega) (by omega)]; omega), pI_71 f1, zb_some]
      have k1 : ykd B T y = 13 := by unfold ykd; rw [if_pos (by omega)]
      have k2 : yen B T y = y := by unfold yen; rw [if_pos (by omega)]
      rw [k1, k2]
      exact ⟨_, rfl, yNs_w hN1 ⟨rfl, by decide, by decide⟩, by rw [uI_at, if_neg (by omega)]; exact g3, by rw [uI_at, if_pos ⟨rfl, rfl⟩]; rfl, by rw [uI_at, if_neg (by omega)]; exact g5, fun z => (by cases z)⟩
    · have hyl : y < T := by omega
      have hbl := r4.resolve_left hyT
      have hb := hB.2.1 y
      unfold ybl at hbl
      rw [Bool.or_eq_false_iff] at hbl
      have b32 := of_decide_eq_false hbl.1
      have b10 := of_decide_eq_false hbl.2
      have a72 : zaI u .int (some 72) (nI y) = some (nI (B y)) := by rw [aI_72 hu.1 (by omega), uB.2.2 y hyl]
      have a72' : zaI (zuI u 71 5 (nI y)) .int (some 72) (nI y) = some (nI (B y)) := by rw [aI_72 f1 (by omega), gB.2.2 y hyl]
      rw [if_neg (show ¬ nI T ≤ nI y by rw [nI_leI (by omega) (by omega)]; omega), gR_71_1 hu.1, zb_some, zb_some, a72, zb_some, if_neg (show ¬ nI (B y) = 32 from fun z => b32 (nI_inj (b := 32) (by omega) (by decide) z)), zb_some, zb_some, a72, zb_some, if_neg (show ¬ nI (B y) = 10 from fun z => b10 (nI_inj (b := 10) (by omega) (by decide) z)), zb_some, pI_71 hu.1, zb_some, gI_71 f1, zb_some, g3, gI_71 f1, zb_some, g0, if_pos (show nI y < nI T from nI_lt hyl (by omega)), gR_71_1 f1, zb_some, zb_some, a72', zb_some, X_let hb, zb_some]
      have ekd : ykd B T y = if ylt (B y) = true then ywd B y (yen B T y) else if ydg (B y) = true then (if yen B T y - y ≤ 4 then 12 else 14) else if ysg (B y) = true then B y else 14 := by
        unfold ykd
        rw [if_neg (by omega)]
      have een : yen B T y = if ylt (B y) = true then yR (fun i => ylt (B i)) T y else if ydg (B y) = true then yR (fun i => ydg (B i)) T y else y + 1 := by
        unfold yen
        rw [if_neg (by omega)]
      cases hlet : ylt (B y)
      · rw [hlet, if_neg (by decide)] at ekd een
        rw [if_pos (show b2 false = 0 from rfl), zb_some, zb_some, a72', zb_some, X_dig hb, zb_some]
        cases hdig : ydg (B y)
        · rw [hdig, if_neg (by decide)] at ekd een
          rw [if_pos (show b2 false = 0 from rfl), zb_some, zb_some, a72', zb_some, X_sig hb, zb_some]
          have hj : ∀ (K : Int32 → Option zS), zjn1 (fun (j61 : Int32 → Option (zS)) => if b2 (ysg (B y)) = 0 then (j61 14) else ((some (some 72) : Option (Option Nat)).bind fun v65 => (some (nI y) : Option Int32).bind fun v66 => (zaI (zuI u 71 5 (nI y)) .int v65 v66).bind fun v67 => j61 v67)) K = K (nI (ykd B T y)) := by
            intro K
            rw [zjn1_eq, ekd]
            cases hsg : ysg (B y)
            · rw [if_pos (show b2 false = 0 from rfl), if_neg (by decide)]; rfl
            · rw [if_neg (show ¬ b2 true = 0 by decide), if_pos rfl, zb_some, zb_some, a72', zb_some]
          have f2 : zFr (zuI (zuI u 71 5 (nI y)) 71 4 (nI (ykd B T y))) := fr_uI f1
          have g33 : (zuI (zuI u 71 5 (nI y)) 71 4 (nI (ykd B T y))).2.1 71 3 = nI y := by rw [uI_at, if_neg (by omega)]; exact g3
          rw [hj, pI_71 f1, zb_some, gI_71 f2, zb_some, g33, show nI y + 1 = nI (y + 1) from nI_add y 1, pI_71 f2, zb_some, een]
          have k12 : ykd B T y ≠ 12 := by
            rw [ekd]
            split
            · rename_i z
              unfold ysg at z
              have := of_decide_eq_true z
              omega
            · decide
          exact ⟨_, rfl, yNs_w (yNs_w hN1 ⟨rfl, by decide, by decide⟩) ⟨rfl, by decide, by decide⟩, by rw [uI_at, if_pos ⟨rfl, rfl⟩], by rw [uI_at, if_neg (by omega), uI_at, if_pos ⟨rfl, rfl⟩], by rw [uI_at, if_neg (by omega), uI_at, if_neg (by omega)]; exact g5, fun z => absurd z k12⟩
        · rw [hdig, if_pos rfl] at ekd een
          obtain ⟨w, w1, w2, w3, w4, w5, w6⟩ := X_takeNum f1 g0 gB g3 g5 hyl
          rw [if_neg (show ¬ b2 true = 0 by decide), fo_71 f1, zb_some, w1, zb_some, ekd, een]
          exact ⟨w, rfl, yNs_tr hN1 w2, w3, w4, w5, fun _ => w6⟩
      · rw [hlet, if_pos rfl] at ekd een
        obtain ⟨w, w1, w2, w3, w4, w5⟩ := X_takeWord f1 g0 gB g3 g5 hyl
        rw [if_neg (show ¬ b2 true = 0 by decide), fo_71 f1, zb_some, w1, zb_some, ekd, een]
        refine ⟨w, rfl, yNs_tr hN1 w2, w3, w4, w5, fun z => ?_⟩
        exfalso
        unfold ywd at z
        rcases yfi_ex (P := ymt B y (yR (fun i => ylt (B i)) T y)) (N := 12) with h | ⟨i, h1, h2, h3, h4⟩
        · rw [h] at z; cases z
        · rw [h4] at z; dsimp only at z; omega
end S
