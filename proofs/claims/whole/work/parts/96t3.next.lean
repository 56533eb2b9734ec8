-- ===== the next token: the reference =====
def yB25 (a k : Nat) : Prop := a = 73 ∧ 22 ≤ k ∧ k ≤ 25
def yMt (kd : Nat) : Nat := if kd < 6 then 2 else if kd < 12 then 3 else if kd = 12 then 1 else if kd = 13 then 0 else if kd = 14 then 5 else 4
def yMw (kd vl : Nat) : Nat := if kd < 6 then kd else if kd < 12 then kd - 6 else if kd = 12 then vl else kd
/-- the reference has read the token that follows a place -/
def yAM (B : Nat → Nat) (T x : Nat) (e : Nat → Nat → Int32) : Prop := e 73 23 = nI (yen B T (yst0 B T x)) ∧ e 73 22 = nI (yst0 B T x) ∧ e 73 24 = nI (yMt (ykd B T (yst0 B T x))) ∧ (ykd B T (yst0 B T x) ≠ 13 → ykd B T (yst0 B T x) ≠ 14 → e 73 25 = nI (yMw (ykd B T (yst0 B T x)) (yvl B (yst0 B T x) (yen B T (yst0 B T x) - yst0 B T x))))
section S
variable {B : Nat → Nat} {T : Nat} {v : zS}
theorem M_byte {y : Nat} (hf : zFr v) (hT : v.2.1 73 15 = nI T) (hB : yTb B T 84 v.2.1) (hy : y < 1000) : F_M_byteAt v 73 (nI y) = some (if y < T then nI (B y) else (-1)) := by
  have hT160 := hB.1
  unfold F_M_byteAt
  rw [gI_73 hf, zb_some, hT]
  by_cases h : y < T
  · rw [if_neg (show ¬ nI T ≤ nI y by rw [nI_leI (by omega) (by omega)]; omega), if_pos h, gR_73_14 hf, zb_some, aI_84 hf (by omega), zb_some, hB.2.2 y h]
  · rw [if_pos (show nI T ≤ nI y by rw [nI_leI (by omega) (by omega)]; omega), if_neg h]
theorem M_letB {y : Nat} (hB : yTb B T 84 v.2.1) : F_M_isLetter v (if y < T then nI (B y) else (-1)) = some (b2 (decide (y < T) && ylt (B y))) := by
  by_cases h : y < T
  · rw [if_pos h, M_let (hB.2.1 y), decide_eq_true h, Bool.true_and]
  · rw [if_neg h, M_let0.1, decide_eq_false h, Bool.false_and]
theorem M_digB {y : Nat} (hB : yTb B T 84 v.2.1) : F_M_isDigit v (if y < T then nI (B y) else (-1)) = some (b2 (decide (y < T) && ydg (B y))) := by
  by_cases h : y < T
  · rw [if_pos h, M_dig (hB.2.1 y), decide_eq_true h, Bool.true_and]
  · rw [if_neg h, M_let0.2, decide_eq_false h, Bool.false_and]
theorem M_next {x : Nat} (hf : zFr v) (hT : v.2.1 73 15 = nI T) (hB : yTb B T 84 v.2.1) (hL : zLt v.2.1) (h23 : v.2.1 73 23 = nI x) (hx : x ≤ T) : ∃ v', F_M_next v 73 = some v' ∧ yNs yB25 v v' ∧ yAM B T x v'.2.1 := by
  have hT160 := hB.1
  obtain ⟨r1, r2, r3, r4⟩ := yR_ok (P := fun i => ybl (B i)) (T := T) (x := x) hx
  unfold yAM
  rw [show yst0 B T x = yR (fun i => ybl (B i)) T x from rfl]
  generalize yR (fun i => ybl (B i)) T x = y at *
  unfold F_M_next
  refine fix1_p (y - x) (fun i u => yNs (fun a k => a = 73 ∧ k = 23) v u ∧ u.2.1 73 23 = nI (x + i)) (fun o => ∃ v', o = some v' ∧ yNs yB25 v v' ∧ v'.2.1 73 23 = nI (yen B T y) ∧ v'.2.1 73 22 = nI y ∧ v'.2.1 73 24 = nI (yMt (ykd B T y)) ∧ (ykd B T y ≠ 13 → ykd B T y ≠ 14 → v'.2.1 73 25 = nI (yMw (ykd B T y) (yvl B y (yen B T y - y))))) ?_ ?_ (zFU_lt (by omega)) ⟨yNs_rf hf, h23⟩
  · rintro r i u hi ⟨hu, hu3⟩
    have uT : u.2.1 73 15 = nI T := (hu.2.2.2 _ _ (by omega)).trans hT
    have uB : yTb B T 84 u.2.1 := yTb_c hB (fun j => hu.2.2.2 _ _ (by omega))
    have hl := r3 (x + i) (by omega) (by omega)
    have hb := hB.2.1 (x + i)
    have hby := M_byte hu.1 uT uB (show x + i < 1000 by omega)
    rw [if_pos (show x + i < T by omega)] at hby
    left
    refine ⟨zuI u 73 23 (nI (x + (i + 1))), ⟨yNs_w hu ⟨rfl, rfl⟩, by rw [uI_at, if_pos ⟨rfl, rfl⟩]⟩, ?_⟩
    rw [gI_73 hu.1, zb_some, hu3, fo_73 hu.1, zb_some, hby, zb_some, zb_some, pI_73 hu.1, zb_some, zb_some, zb_some, hby, zb_some, show nI (x + i) + 1 = nI (x + (i + 1)) from nI_add (x + i) 1]
    unfold ybl at hl
    rw [Bool.or_eq_true, decide_eq_true_iff, decide_eq_true_iff] at hl
    by_cases z : B (x + i) = 32
    · rw [if_pos (show nI (B (x + i)) = 32 by rw [z]; rfl)]
    · rw [if_neg (show ¬ nI (B (x + i)) = 32 from fun y => z (nI_inj (b := 32) (by omega) (by decide) y)), if_pos (show nI (B (x + i)) = 10 by rw [hl.resolve_left z]; rfl)]
  · rintro r u ⟨hu, hu3⟩
    rw [show x + (y - x) = y by omega] at hu3
    have uT : u.2.1 73 15 = nI T := (hu.2.2.2 _ _ (by omega)).trans hT
    have uB : yTb B T 84 u.2.1 := yTb_c hB (fun j => hu.2.2.2 _ _ (by omega))
    have uL : zLt u.2.1 := zLt_c hL (fun a k z => hu.2.2.2 a k (by omega))
    have hby := M_byte hu.1 uT uB (show y < 1000 by omega)
    have f1 : zFr (zuI u 73 22 (nI y)) := fr_uI hu.1
    have hN1 : yNs yB25 v (zuI u 73 22 (nI y)) := yNs_w (yNs_mo hu (fun a k x => ⟨x.1, by omega, by omega⟩)) ⟨rfl, by decide, by decide⟩
    have g23 : (zuI u 73 22 (nI y)).2.1 73 23 = nI y := by rw [uI_at, if_neg (by omega)]; exact hu3
    have gT : (zuI u 73 22 (nI y)).2.1 73 15 = nI T := by rw [uI_at, if_neg (by omega)]; exact uT
    have g22 : (zuI u 73 22 (nI y)).2.1 73 22 = nI y := by rw [uI_at, if_pos ⟨rfl, rfl⟩]
    have gB : yTb B T 84 (zuI u 73 22 (nI y)).2.1 := yTb_c uB (fun j => uI_off (by omega))
    have gL : zLt (zuI u 73 22 (nI y)).2.1 := zLt_c uL (fun a k z => uI_off (by omega))
    have hby1 := M_byte f1 gT gB (show y < 1000 by omega)
    have n32 : ¬ (if y < T then nI (B y) else (-1)) = 32 ∧ ¬ (if y < T then nI (B y) else (-1)) = 10 := by
      by_cases hyT : y < T
      · have hbl := r4.resolve_left (by omega)
        have hb := hB.2.1 y
        unfold ybl at hbl
        rw [Bool.or_eq_false_iff] at hbl
        rw [if_pos hyT]
        exact ⟨fun z => of_decide_eq_false hbl.1 (nI_inj (b := 32) (by omega) (by decide) z), fun z => of_decide_eq_false hbl.2 (nI_inj (b := 10) (by omega) (by decide) z)⟩
      · rw [if_neg hyT]; decide
    rw [gI_73 hu.1, zb_some, hu3, fo_73 hu.1, zb_some, hby, zb_some, if_neg n32.1, zb_some, zb_some, hby, zb_some, if_neg n32.2, zb_some, pI_73 hu.1, zb_some, gI_73 f1, zb_some, g23, fo_73 f1, zb_some, hby1, zb_some]
    by_cases hyT : y < T
    · have hb := hB.2.1 y
      rw [if_pos hyT, if_pos (show (0 : Int32) ≤ nI (B y) from nI_nn (by omega)), M_let hb, zb_some]
      have ekd : ykd B T y = if ylt (B y) = true then ywd B y (yen B T y) else if ydg (B y) = true then (if yen B T y - y ≤ 4 then 12 else 14) else if ysg (B y) = true then B y else 14 := by
        unfold ykd
        rw [if_neg (by omega)]
      have een : yen B T y = if ylt (B y) = true then yR (fun i => ylt (B i)) T y else if ydg (B y) = true then yR (fun i => ydg (B i)) T y else y + 1 := by
        unfold yen
        rw [if_neg (by omega)]
      cases hlet : ylt (B y)
      · rw [hlet, if_neg (by decide)] at ekd een
        rw [if_pos (show b2 false = 0 from rfl), M_dig hb, zb_some]
        cases hdig : ydg (B y)
        · rw [hdig, if_neg (by decide)] at ekd een
          rw [if_pos (show b2 false = 0 from rfl), M_sig hb, zb_some]
          have hsgn : ykd B T y = (if ysg (B y) = true then B y else 14) := ekd
          have hmt : (if b2 (ysg (B y)) = 0 then (5 : Int32) else 4) = nI (yMt (ykd B T y)) := by
            rw [ekd]
            cases hsg : ysg (B y)
            · rfl
            · rw [if_neg (show ¬ b2 true = 0 by decide), if_pos rfl]
              unfold ysg at hsg
              have := of_decide_eq_true hsg
              unfold yMt
              rw [if_neg (by omega), if_neg (by omega), if_neg (by omega), if_neg (by omega), if_neg (by omega)]
              rfl
          have f2 : zFr (zuI (zuI u 73 22 (nI y)) 73 24 (nI (yMt (ykd B T y)))) := fr_uI f1
          have f3 : zFr (zuI (zuI (zuI u 73 22 (nI y)) 73 24 (nI (yMt (ykd B T y)))) 73 25 (nI (B y))) := fr_uI f2
          have g3 : (zuI (zuI (zuI u 73 22 (nI y)) 73 24 (nI (yMt (ykd B T y)))) 73 25 (nI (B y))).2.1 73 23 = nI y := by rw [uI_at, if_neg (by omega), uI_at, if_neg (by omega)]; exact g23
          rw [zjn_if, hmt, pI_73 f1, zb_some, pI_73 f2, zb_some, gI_73 f3, zb_some, g3, show nI y + 1 = nI (y + 1) from nI_add y 1, pI_73 f3, zb_some, een]
          refine ⟨_, rfl, yNs_w (yNs_w (yNs_w hN1 ⟨rfl, by decide, by decide⟩) ⟨rfl, by decide, by decide⟩) ⟨rfl, by decide, by decide⟩, by rw [uI_at, if_pos ⟨rfl, rfl⟩], by rw [uI_at, if_neg (by omega), uI_at, if_neg (by omega), uI_at, if_neg (by omega)]; exact g22, by rw [uI_at, if_neg (by omega), uI_at, if_neg (by omega), uI_at, if_pos ⟨rfl, rfl⟩], fun z1 z2 => ?_⟩
          rw [uI_at, if_neg (by omega), uI_at, if_pos ⟨rfl, rfl⟩]
          have hsg : ysg (B y) = true := by
            cases h : ysg (B y) with
            | true => rfl
            | false => rw [h, if_neg (by decide)] at ekd; exact absurd ekd z2
          rw [ekd, if_pos hsg]
          unfold ysg at hsg
          have := of_decide_eq_true hsg
          unfold yMw
          rw [if_neg (by omega), if_neg (by omega), if_neg (by omega)]
        · rw [hdig, if_pos rfl] at ekd een
          obtain ⟨q1, q2, q3, q4⟩ := yR_ok (P := fun i => ydg (B i)) (T := T) (x := y) (by omega)
          generalize yR (fun i => ydg (B i)) T y = z at *
          have hvl := yvl_lt (B := B) (s := y) (fun _ => Or.inr trivial) hB.2.1
          rw [if_neg (show ¬ b2 true = 0 by decide), pI_73 f1, zb_some]
          refine fix1_p (z - y) (fun i w => yNs (fun a k => a = 73 ∧ (k = 23 ∨ k = 25)) (zuI u 73 22 (nI y)) w ∧ w.2.1 73 23 = nI (y + i) ∧ w.2.1 73 25 = nI (yvl B y i)) (fun o => ∃ v', o = some v' ∧ yNs yB25 v v' ∧ v'.2.1 73 23 = nI (yen B T y) ∧ v'.2.1 73 22 = nI y ∧ v'.2.1 73 24 = nI (yMt (ykd B T y)) ∧ (ykd B T y ≠ 13 → ykd B T y ≠ 14 → v'.2.1 73 25 = nI (yMw (ykd B T y) (yvl B y (yen B T y - y))))) ?_ ?_ (zFU_lt (by omega)) ⟨yNs_w (yNs_rf f1) ⟨rfl, Or.inr rfl⟩, by rw [uI_at, if_neg (by omega)]; exact g23, by rw [uI_at, if_pos ⟨rfl, rfl⟩]; rfl⟩
          · rintro r' i w hi ⟨hw, hw3, hw5⟩
            have wT : w.2.1 73 15 = nI T := (hw.2.2.2 _ _ (by omega)).trans gT
            have wB : yTb B T 84 w.2.1 := yTb_c gB (fun j => hw.2.2.2 _ _ (by omega))
            have w22 : w.2.1 73 22 = nI y := (hw.2.2.2 _ _ (by omega)).trans g22
            have hl := q3 (y + i) (by omega) (by omega)
            have hbb := hB.2.1 (y + i)
            have hv := hvl i
            obtain ⟨d1, d2⟩ := ydg_i hl
            have hbw := M_byte hw.1 wT wB (show y + i < 1000 by omega)
            have hdw := M_digB (v := w) (y := y + i) wB
            rw [hl, decide_eq_true (show y + i < T by omega), Bool.true_and] at hdw
            have e1 : yvl B y (i + 1) = if i < 4 then yvl B y i * 10 + (B (y + i) - 48) else yvl B y i := rfl
            left
            rw [gI_73 hw.1, zb_some, hw3, fo_73 hw.1, zb_some, hbw, zb_some, hdw, zb_some, if_neg (show ¬ b2 true = 0 by decide), zb_some, gI_73 hw.1, zb_some, w22, pk_sub (by omega), show y + i - y = i by omega]
            have hj : ∀ (K : Int32 → Option zS), zjn1 (fun (j39 : Int32 → Option (zS)) => if (4 : Int32) ≤ nI i then ((zgI w 9 (some 73) 25).bind fun v43 => j39 v43) else ((zgI w 9 (some 73) 25).bind fun v44 => (some (nI (y + i)) : Option Int32).bind fun v45 => (some 73 : Option Nat).bind fun q47 => (F_M_byteAt w q47 v45).bind fun v46 => j39 ((((10 : Int32) * v44) + v46) - 48))) K = K (nI (yvl B y (i + 1))) := by
              intro K
              rw [zjn1_eq, e1]
              by_cases h4 : i < 4
              · rw [if_neg (show ¬ (4 : Int32) ≤ nI i by rw [show (4 : Int32) = nI 4 from rfl, nI_leI (by omega) (by omega)]; omega), if_pos h4, gI_73 hw.1, zb_some, hw5, zb_some, zb_some, hbw, zb_some, if_pos (show y + i < T by omega), show (10 : Int32) = nI 10 from rfl, show (48 : Int32) = nI 48 from rfl, pk_mul, nI_add, pk_sub (by omega)]
                congr 2
                omega
              · rw [if_pos (show (4 : Int32) ≤ nI i by rw [show (4 : Int32) = nI 4 from rfl, nI_leI (by omega) (by omega)]; omega), if_neg h4, gI_73 hw.1, zb_some, hw5]
            have f5 : zFr (zuI w 73 25 (nI (yvl B y (i + 1)))) := fr_uI hw.1
            have g5 : (zuI w 73 25 (nI (yvl B y (i + 1)))).2.1 73 23 = nI (y + i) := by rw [uI_at, if_neg (by omega)]; exact hw3
            refine ⟨zuI (zuI w 73 25 (nI (yvl B y (i + 1)))) 73 23 (nI (y + (i + 1))), ⟨yNs_w (yNs_w hw ⟨rfl, Or.inr rfl⟩) ⟨rfl, Or.inl rfl⟩, by rw [uI_at, if_pos ⟨rfl, rfl⟩], by rw [uI_at, if_neg (by omega), uI_at, if_pos ⟨rfl, rfl⟩]⟩, ?_⟩
            rw [hj, pI_73 hw.1, zb_some, gI_73 f5, zb_some, g5, show nI (y + i) + 1 = nI (y + (i + 1)) from nI_add (y + i) 1, pI_73 f5, zb_some]
          · rintro r' w ⟨hw, hw3, hw5⟩
            rw [show y + (z - y) = z by omega] at hw3
            have wT : w.2.1 73 15 = nI T := (hw.2.2.2 _ _ (by omega)).trans gT
            have wB : yTb B T 84 w.2.1 := yTb_c gB (fun j => hw.2.2.2 _ _ (by omega))
            have w22 : w.2.1 73 22 = nI y := (hw.2.2.2 _ _ (by omega)).trans g22
            have hbw := M_byte hw.1 wT wB (show z < 1000 by omega)
            have hdw := M_digB (v := w) (y := z) wB
            have hnd : (decide (z < T) && ydg (B z)) = false := by
              rcases q4 with h | h
              · rw [decide_eq_false (by omega), Bool.false_and]
              · rw [h, Bool.and_false]
            rw [hnd] at hdw
            have hNw : yNs yB25 v w := yNs_tr hN1 (yNs_mo hw (fun a k x => ⟨x.1, by omega, by omega⟩))
            rw [gI_73 hw.1, zb_some, hw3, fo_73 hw.1, zb_some, hbw, zb_some, hdw, zb_some, if_pos (show b2 false = 0 from rfl), zb_some, gI_73 hw.1, zb_some, w22, pk_sub q1]
            rw [een] at ekd ⊢
            by_cases h4 : z - y ≤ 4
            · rw [if_pos h4] at ekd
              rw [if_pos (show nI (z - y) ≤ 4 by rw [show (4 : Int32) = nI 4 from rfl, nI_leI (by omega) (by omega)]; exact h4), pI_73 hw.1, zb_some, ekd]
              exact ⟨_, rfl, yNs_w hNw ⟨rfl, by decide, by decide⟩, by rw [uI_at, if_neg (by omega)]; exact hw3, by rw [uI_at, if_neg (by omega)]; exact w22, by rw [uI_at, if_pos ⟨rfl, rfl⟩]; rfl, fun _ _ => by rw [uI_at, if_neg (by omega)]; exact hw5⟩
            · rw [if_neg h4] at ekd
              rw [if_neg (show ¬ nI (z - y) ≤ 4 by rw [show (4 : Int32) = nI 4 from rfl, nI_leI (by omega) (by omega)]; exact h4), pI_73 hw.1, zb_some, ekd]
              exact ⟨_, rfl, yNs_w hNw ⟨rfl, by decide, by decide⟩, by rw [uI_at, if_neg (by omega)]; exact hw3, by rw [uI_at, if_neg (by omega)]; exact w22, by rw [uI_at, if_pos ⟨rfl, rfl⟩]; rfl, fun _ z2 => absurd rfl z2⟩
      · rw [hlet, if_pos rfl] at ekd een
        obtain ⟨q1, q2, q3, q4⟩ := yR_ok (P := fun i => ylt (B i)) (T := T) (x := y) (by omega)
        generalize yR (fun i => ylt (B i)) T y = z at *
        rw [if_neg (show ¬ b2 true = 0 by decide)]
        refine fix1_p (z - y) (fun i w => yNs (fun a k => a = 73 ∧ k = 23) (zuI u 73 22 (nI y)) w ∧ w.2.1 73 23 = nI (y + i)) (fun o => ∃ v', o = some v' ∧ yNs yB25 v v' ∧ v'.2.1 73 23 = nI (yen B T y) ∧ v'.2.1 73 22 = nI y ∧ v'.2.1 73 24 = nI (yMt (ykd B T y)) ∧ (ykd B T y ≠ 13 → ykd B T y ≠ 14 → v'.2.1 73 25 = nI (yMw (ykd B T y) (yvl B y (yen B T y - y))))) ?_ ?_ (zFU_lt (by omega)) ⟨yNs_rf f1, g23⟩
        · rintro r' i w hi ⟨hw, hw3⟩
          have wT : w.2.1 73 15 = nI T := (hw.2.2.2 _ _ (by omega)).trans gT
          have wB : yTb B T 84 w.2.1 := yTb_c gB (fun j => hw.2.2.2 _ _ (by omega))
          have hl := q3 (y + i) (by omega) (by omega)
          have hbw := M_byte hw.1 wT wB (show y + i < 1000 by omega)
          have hdw := M_letB (v := w) (y := y + i) wB
          rw [hl, decide_eq_true (show y + i < T by omega), Bool.true_and] at hdw
          left
          refine ⟨zuI w 73 23 (nI (y + (i + 1))), ⟨yNs_w hw ⟨rfl, rfl⟩, by rw [uI_at, if_pos ⟨rfl, rfl⟩]⟩, ?_⟩
          rw [gI_73 hw.1, zb_some, hw3, fo_73 hw.1, zb_some, hbw, zb_some, hdw, zb_some, if_neg (show ¬ b2 true = 0 by decide), zb_some, show nI (y + i) + 1 = nI (y + (i + 1)) from nI_add (y + i) 1, pI_73 hw.1, zb_some]
        · rintro r' w ⟨hw, hw3⟩
          rw [show y + (z - y) = z by omega] at hw3
          have wT : w.2.1 73 15 = nI T := (hw.2.2.2 _ _ (by omega)).trans gT
          have wB : yTb B T 84 w.2.1 := yTb_c gB (fun j => hw.2.2.2 _ _ (by omega))
          have w22 : w.2.1 73 22 = nI y := (hw.2.2.2 _ _ (by omega)).trans g22
          have wL : zLt w.2.1 := zLt_c gL (fun a k z => hw.2.2.2 a k (by omega))
          have hbw := M_byte hw.1 wT wB (show z < 1000 by omega)
          have hdw := M_letB (v := w) (y := z) wB
          have hnd : (decide (z < T) && ylt (B z)) = false := by
            rcases q4 with h | h
            · rw [decide_eq_false (by omega), Bool.false_and]
            · rw [h, Bool.and_false]
          rw [hnd] at hdw
          have hNw : yNs yB25 v w := yNs_tr hN1 (yNs_mo hw (fun a k x => ⟨x.1, by omega, by omega⟩))
          have hwd := M_word hw.1 wB wL w22 hw3 q1 q2
          rw [gI_73 hw.1, zb_some, hw3, fo_73 hw.1, zb_some, hbw, zb_some, hdw, zb_some, if_pos (show b2 false = 0 from rfl), zb_some, hwd, zb_some]
          rw [een] at ekd ⊢
          unfold ywd at ekd
          rcases yfi_ex (P := ymt B y z) (N := 12) with h | ⟨i, h1, h2, h3, h4⟩
          · rw [h] at ekd ⊢
            dsimp only at ekd ⊢
            rw [ekd, zjn1_eq, if_neg (show ¬ (0 : Int32) ≤ (-1) by decide)]
            try dsimp only
            have f5 : zFr (zuI w 73 24 5) := fr_uI hw.1
            rw [pI_73 hw.1, zb_some, if_neg (show ¬ (6 : Int32) ≤ (-1) by decide), pI_73 f5, zb_some]
            exact ⟨_, rfl, yNs_w (yNs_w hNw ⟨rfl, by decide, by decide⟩) ⟨rfl, by decide, by decide⟩, by rw [uI_at, if_neg (by omega), uI_at, if_neg (by omega)]; exact hw3, by rw [uI_at, if_neg (by omega), uI_at, if_neg (by omega)]; exact w22, by rw [uI_at, if_neg (by omega), uI_at, if_pos ⟨rfl, rfl⟩]; rfl, fun _ z2 => absurd rfl z2⟩
          · rw [h4] at ekd ⊢
            dsimp only at ekd ⊢
            rw [ekd, zjn1_eq, if_pos (show (0 : Int32) ≤ nI i from nI_nn (by omega))]
            by_cases h6 : i < 6
            · have f5 : zFr (zuI w 73 24 2) := fr_uI hw.1
              have n6 : ¬ (6 : Int32) ≤ nI i := by rw [show (6 : Int32) = nI 6 from rfl, nI_leI (by omega) (by omega)]; omega
              rw [if_neg n6]
              try dsimp only
              rw [pI_73 hw.1, zb_some, if_neg n6, pI_73 f5, zb_some]
              refine ⟨_, rfl, yNs_w (yNs_w hNw ⟨rfl, by decide, by decide⟩) ⟨rfl, by decide, by decide⟩, by rw [uI_at, if_neg (by omega), uI_at, if_neg (by omega)]; exact hw3, by rw [uI_at, if_neg (by omega), uI_at, if_neg (by omega)]; exact w22, ?_, fun _ _ => ?_⟩
              · rw [uI_at, if_neg (by omega), uI_at, if_pos ⟨rfl, rfl⟩]
                unfold yMt
                rw [if_pos h6]; rfl
              · rw [uI_at, if_pos ⟨rfl, rfl⟩]
                unfold yMw
                rw [if_pos h6]
            · have f5 : zFr (zuI w 73 24 3) := fr_uI hw.1
              have n6 : (6 : Int32) ≤ nI i := by rw [show (6 : Int32) = nI 6 from rfl, nI_leI (by omega) (by omega)]; omega
              rw [if_pos n6]
              try dsimp only
              rw [pI_73 hw.1, zb_some, if_pos n6, show (6 : Int32) = nI 6 from rfl, pk_sub (by omega), pI_73 f5, zb_some]
              refine ⟨_, rfl, yNs_w (yNs_w hNw ⟨rfl, by decide, by decide⟩) ⟨rfl, by decide, by decide⟩, by rw [uI_at, if_neg (by omega), uI_at, if_neg (by omega)]; exact hw3, by rw [uI_at, if_neg (by omega), uI_at, if_neg (by omega)]; exact w22, ?_, fun _ _ => ?_⟩
              · rw [uI_at, if_neg (by omega), uI_at, if_pos ⟨rfl, rfl⟩]
                unfold yMt
                rw [if_neg h6, if_pos h1]; rfl
              · rw [uI_at, if_pos ⟨rfl, rfl⟩]
                unfold yMw
                rw [if_neg h6, if_pos h1]
    · have k1 : ykd B T y = 13 := by unfold ykd; rw [if_pos (by omega)]
      have k2 : yen B T y = y := by unfold yen; rw [if_pos (by omega)]
      rw [if_neg hyT, if_neg (show ¬ (0 : Int32) ≤ (-1) by decide), pI_73 f1, zb_some, k1, k2]
      exact ⟨_, rfl, yNs_w hN1 ⟨rfl, by decide, by decide⟩, by rw [uI_at, if_neg (by omega)]; exact g23, by rw [uI_at, if_neg (by omega)]; exact g22, by rw [uI_at, if_pos ⟨rfl, rfl⟩]; rfl, fun z => absurd rfl z⟩
end S
