-- ===== the reference's best filling =====
def yI (B : Int) : Int32 := if B < 0 then (-1) else nI B.toNat
theorem yI_n (v : Nat) : yI (v : Int) = nI v := by
  unfold yI
  rw [if_neg (by omega), Int.toNat_natCast]
theorem yI_m {B : Int} (h : B < 0) : yI B = (-1) := if_pos h
theorem yI_p {B : Int} (h : 0 ≤ B) : yI B = nI B.toNat := if_neg (by omega)
theorem yI_le {s : Nat} {B : Int} (hs : s < 2 ^ 31) (hB : B < 2 ^ 31) : nI s ≤ yI B ↔ (s : Int) ≤ B := by
  rcases (show B < 0 ∨ 0 ≤ B by omega) with h | h
  · rw [yI_m h, fa_le, nI_toInt hs, show (-1 : Int32).toInt = -1 by decide]
    omega
  · rw [yI_p h, nI_leI hs (by omega)]
    omega
theorem yI_1 {B : Int} (h : B < 2 ^ 31) : yI B = (-1) ↔ B < 0 := by
  constructor
  · intro z
    rcases (show B < 0 ∨ 0 ≤ B by omega) with h2 | h2
    · exact h2
    · rw [yI_p h2] at z; exact absurd z (nI_n1 (by omega))
  · exact yI_m
/-- changed: the trial, the best, its sum alone -/
def yNB (μ μ1 : zS) : Prop := zFr μ1 ∧ μ1.1 = μ.1 ∧ μ1.2.2 = μ.2.2 ∧ ∀ a k, a ≠ 93 → a ≠ 94 → ¬ (a = 73 ∧ k = 36) → μ1.2.1 a k = μ.2.1 a k
/-- the best so far, behind some fillings that come to D at most -/
def yRes (n : Nat) (D : Int) (lay : Nat → Int32) (q s : Nat) (B : Int) (u u' : zS) : Prop :=
  (0 ≤ D ∧ B < s + D ∧ u'.2.1 73 36 = yI (s + D) ∧ ∀ j, j < n → u'.2.1 94 j = if j < q then u.2.1 93 j else lay j) ∨ (¬ (0 ≤ D ∧ B < s + D) ∧ u'.2.1 73 36 = yI B ∧ ∀ j, u'.2.1 94 j = u.2.1 94 j)
section S
variable {C : Nat → Nat → Bool} {g : Nat → Nat → Nat} {mu : Nat → Bool} {n p : Nat} {u u' : zS}
theorem yNB_rf (h : zFr u) : yNB u u := ⟨h, rfl, rfl, fun _ _ _ _ _ => rfl⟩
theorem yNB_tr {u2 : zS} (h : yNB u u') (h2 : yNB u' u2) : yNB u u2 := ⟨h2.1, h2.2.1.trans h.2.1, h2.2.2.1.trans h.2.2.1, fun a k x y z => (h2.2.2.2 a k x y z).trans (h.2.2.2 a k x y z)⟩
theorem yNB_w {j : Nat} {v : Int32} (h : zFr u) : yNB u (zuI u 93 j v) := ⟨fr_uI h, rfl, rfl, fun a k ha _ _ => uI_off ha⟩
theorem yFm_B (h : yNB u u') (hm : yFm C mu n p u.2.1) : yFm C mu n p u'.2.1 := yFm_c hm (h.2.2.2 _ _ (by omega) (by omega) (by omega)) (h.2.2.2 _ _ (by omega) (by omega) (by omega)) (fun k => h.2.2.2 _ _ (by omega) (by omega) (by omega)) (fun k => h.2.2.2 _ _ (by omega) (by omega) (by omega))
def yFg (g : Nat → Nat → Nat) (n p : Nat) (e : Nat → Nat → Int32) : Prop := ∀ w, w < p → ∀ q, q < n → e 92 (6 * w + q) = nI (g w q)
theorem yFg_B (h : yNB u u') (hm : yFg g n p u.2.1) : yFg g n p u'.2.1 := fun w hw q hq => (h.2.2.2 92 _ (by omega) (by omega) (by omega)).trans (hm w hw q hq)
theorem yRes_step {v v' : zS} {Dj D' B B' : Int} {layj lay' : Nat → Int32} {q s gg : Nat} {x : Int32} (hq : q < n) (hB : -1 ≤ B) (hDj : -1 ≤ Dj) (R1 : yRes n Dj layj q s B u v) (h93 : ∀ j, j < q → v.2.1 93 j = u.2.1 93 j) (hB' : B' = if 0 ≤ Dj ∧ B < s + Dj then s + Dj else B) (R2 : yRes n D' lay' (q + 1) (s + gg) B' (zuI v 93 q x) v') :
    yRes n (if Dj < (if D' < 0 then -1 else gg + D') then (if D' < 0 then -1 else gg + D') else Dj) (if Dj < (if D' < 0 then -1 else gg + D') then (fun j => if j = q then x else lay' j) else layj) q s B u v' := by
  have hw : ∀ j, (zuI v 93 q x).2.1 94 j = v.2.1 94 j := fun j => uI_off (by omega)
  rcases R2 with ⟨a1, a2, a3, a4⟩ | ⟨a1, a2, a3⟩
  · rw [if_neg (show ¬ D' < 0 by omega)]
    have hlt : Dj < gg + D' := by
      rcases R1 with ⟨b1, b2, -⟩ | ⟨b1, -⟩
      · rw [if_pos ⟨b1, b2⟩] at hB'; omega
      · rw [if_neg b1] at hB'
        by_cases z : 0 ≤ Dj
        · have : ¬ B < s + Dj := fun y => b1 ⟨z, y⟩
          omega
        · omega
    have hBB : B ≤ B' := by
      rw [hB']; split
      · rename_i z; omega
      · exact Int.le_refl _
    rw [if_pos hlt, if_pos hlt]
    refine Or.inl ⟨by omega, by omega, ?_, fun j hj => ?_⟩
    · rw [a3]; congr 1; omega
    · rw [a4 j hj]
      by_cases z1 : j < q
      · rw [if_pos (show j < q + 1 by omega), if_pos z1, uI_at, if_neg (by omega)]
        exact h93 j z1
      · rw [if_neg z1]
        by_cases z2 : j = q
        · rw [if_pos (show j < q + 1 by omega)]
          dsimp only
          rw [if_pos z2, uI_at, if_pos ⟨rfl, z2⟩]
        · rw [if_neg (show ¬ j < q + 1 by omega)]
          dsimp only
          rw [if_neg z2]
  · rcases R1 with ⟨b1, b2, b3, b4⟩ | ⟨b1, b2, b3⟩
    · rw [if_pos ⟨b1, b2⟩] at hB'
      have hge : ¬ Dj < (if D' < 0 then -1 else gg + D') := by
        split
        · omega
        · intro z
          apply a1
          omega
      rw [if_neg hge, if_neg hge]
      refine Or.inl ⟨b1, b2, by rw [a2, hB'], fun j hj => ?_⟩
      rw [a3 j, hw, b4 j hj]
    · rw [if_neg b1] at hB'
      refine Or.inr ⟨?_, by rw [a2, hB'], fun j => by rw [a3 j, hw, b3 j]⟩
      intro ⟨z1, z2⟩
      by_cases hlt : Dj < (if D' < 0 then -1 else gg + D')
      · rw [if_pos hlt] at z1 z2
        by_cases z3 : D' < 0
        · rw [if_pos z3] at z1; omega
        · rw [if_neg z3] at z1 z2
          apply a1
          omega
      · rw [if_neg hlt] at z1 z2
        exact b1 ⟨z1, z2⟩
/-- the best of all fillings of the last k posts -/
theorem M_best (hg : ∀ w q, g w q ≤ 9801) : ∀ (k f : Nat) (u : zS) (U s : Nat) (B : Int), k ≤ n → k < f → zFr u → yFm C mu n p u.2.1 → yFg g n p u.2.1 → u.2.1 73 37 = 1 → U < 2 ^ p → s ≤ 9801 * (n - k) → -1 ≤ B → B ≤ 9801 * n → u.2.1 73 36 = yI B →
    ∃ u', GF f u 73 (nI (n - k)) (nI U) (nI s) = some (b2 (decide (0 ≤ yD C g n p mu k (fun w => !U.testBit w))), u') ∧ yNB u u' ∧ (∀ j, j < n - k → u'.2.1 93 j = u.2.1 93 j) ∧ yRes n (yD C g n p mu k (fun w => !U.testBit w)) (yL C g n p mu k (fun w => !U.testBit w)) (n - k) s B u u' := by
  intro k
  induction k with
  | zero =>
    intro f u U s B hk hkf hf hm hgm h37 hU hs hB hB2 h36
    have hn6 := hm.1
    obtain ⟨f, rfl⟩ : ∃ g, f = g + 1 := ⟨f - 1, by omega⟩
    have hD : yD C g n p mu 0 (fun w => !U.testBit w) = 0 := rfl
    rw [hD]
    show ∃ u', F_M_fills (GF f) u 73 (nI n) (nI U) (nI s) = _ ∧ _
    unfold F_M_fills
    rw [gI_73 hf, zb_some, hm.2.2.1, if_pos rfl, gI_73 hf, zb_some, h37, if_neg (show ¬ (1 : Int32) = 0 by decide), gI_73 hf, zb_some, h36]
    by_cases hsb : (s : Int) ≤ B
    · rw [if_pos ((yI_le (by omega) (by omega)).mpr hsb)]
      refine ⟨u, rfl, yNB_rf hf, fun _ _ => rfl, Or.inr ⟨fun z => by omega, h36, fun _ => rfl⟩⟩
    · rw [if_neg (fun z => hsb ((yI_le (by omega) (by omega)).mp z)), pI_73 hf, zb_some]
      have f1 : zFr (zuI u 73 36 (nI s)) := fr_uI hf
      generalize hu1 : zuI u 73 36 (nI s) = u1 at *
      have o1 : ∀ a k, ¬ (a = 73 ∧ k = 36) → u1.2.1 a k = u.2.1 a k := fun a k z => by rw [← hu1, uI_at, if_neg z]
      have hg1 : ∀ i, zFr (zfg 94 0 (fun i => u.2.1 93 i) u1 i) := fun i => zfg_fr f1 i
      refine ⟨zfg 94 0 (fun i => u.2.1 93 i) u1 n, ?_, ?_, ?_, ?_⟩
      · refine fix2_t n (fun i => zfg 94 0 (fun i => u.2.1 93 i) u1 i) (fun i => nI i) ?_ ?_ (zFU_lt (by omega))
        · intro r i hi
          have hv : (zfg 94 0 (fun i => u.2.1 93 i) u1 i).2.1 93 i = u.2.1 93 i := by rw [zfg_at, if_neg (by omega), o1 _ _ (by omega)]
          have hv1 : (zfg 94 0 (fun i => u.2.1 93 i) u1 i).2.1 73 1 = nI n := by rw [zfg_at, if_neg (by omega), o1 _ _ (by omega)]; exact hm.2.2.1
          rw [gI_73 (hg1 i), zb_some, hv1, if_neg (show ¬ nI n ≤ nI i by rw [nI_leI (by omega) (by omega)]; omega), gR_73_35 (hg1 i), zb_some, gR_73_34 (hg1 i), zb_some, aI_93 (hg1 i) (by omega), zb_some, sI_94 (hg1 i) (by omega), zb_some, hv, show nI i + 1 = nI (i + 1) from nI_add i 1]
          show r (zuI _ _ i _) _ = r (zuI _ _ (0 + i) _) _
          rw [Nat.zero_add]
        · intro r
          have hv1 : (zfg 94 0 (fun i => u.2.1 93 i) u1 n).2.1 73 1 = nI n := by rw [zfg_at, if_neg (by omega), o1 _ _ (by omega)]; exact hm.2.2.1
          rw [gI_73 (hg1 n), zb_some, hv1, if_pos (Int32.le_refl _)]
          rfl
      · refine ⟨hg1 n, ?_, ?_, fun a k z1 z2 z3 => by rw [zfg_at, if_neg (by omega), o1 _ _ z3]⟩
        · have : ∀ i, (zfg 94 0 (fun i => u.2.1 93 i) u1 i).1 = u.1 := by
            intro i
            induction i with
            | zero => rw [← hu1]; rfl
            | succ i ih => exact ih
          exact this n
        · have : ∀ i, (zfg 94 0 (fun i => u.2.1 93 i) u1 i).2.2 = u.2.2 := by
            intro i
            induction i with
            | zero => rw [← hu1]; rfl
            | succ i ih => exact ih
          exact this n
      · intro j _
        rw [zfg_at, if_neg (by omega), o1 _ _ (by omega)]
      · refine Or.inl ⟨Int.le_refl _, by omega, ?_, fun j hj => ?_⟩
        · rw [zfg_at, if_neg (by omega), ← hu1, uI_at, if_pos ⟨rfl, rfl⟩, Int.add_zero, yI_n]
        · rw [zfg_at, if_pos (by omega), if_pos (by omega), Nat.sub_zero]
  | succ k ih =>
    intro f u U s B hk hkf hf hm hgm h37 hU hs hB hB2 h36
    obtain ⟨f, rfl⟩ : ∃ g, f = g + 1 := ⟨f - 1, by omega⟩
    have hn6 := hm.1
    have hp7 := hm.2.1
    have hU7 : U < 128 := Nat.lt_of_lt_of_le hU (p2_le hp7)
    have hq : n - (k + 1) < n := by omega
    have hq1 : n - (k + 1) + 1 = n - k := by omega
    show ∃ u', F_M_fills (GF f) u 73 (nI (n - (k + 1))) (nI U) (nI s) = _ ∧ _
    rw [M_fills_q hf hm hq]
    generalize hF : (fun w => !U.testBit w) = F at *
    have hFw : ∀ w, F w = !U.testBit w := fun w => by rw [← hF]
    have hDk := yD_ge (C := C) (g := g) (n := n) (p := p) (mu := mu) k
    have hDl := yD_le (C := C) (n := n) (p := p) (mu := mu) hg k
    -- the parts of what is to be shown
    generalize hqq : n - (k + 1) = q at *
    have hDj := fun j => yDj_ge (F := F) (C := C) (g := g) (mu := mu) (q := q) hDk j
    have hDjl := fun j => yDj_le (F := F) (C := C) (g := g) (mu := mu) (q := q) (m := 9801 * k) hDl (by omega) (fun w => hg w q) j
    have eD : yD C g n p mu (k + 1) F = yDj F C g mu q (yD C g n p mu k) p := by rw [← hqq]; rfl
    have eL : yL C g n p mu (k + 1) F = fun j => if j = q then nI (yFj F C g mu q (yD C g n p mu k) p) - 1 else yL C g n p mu k (ynx F (yFj F C g mu q (yD C g n p mu k) p)) j := by
      rw [← hqq]; rfl
    rw [eD, eL]
    have loop : ∀ (N : Nat) (u1 : zS), p < N → yNB u u1 → (∀ j, j < q → u1.2.1 93 j = u.2.1 93 j) → yRes n (yDj F C g mu q (yD C g n p mu k) 0) (fun j => if j = q then nI (yFj F C g mu q (yD C g n p mu k) 0) - 1 else yL C g n p mu k (ynx F (yFj F C g mu q (yD C g n p mu k) 0)) j) q s B u u1 →
        ∃ u', zfix3 (yFB (GF f) (nI q) (nI U) (nI s)) N u1 (b2 (decide (0 ≤ yDj F C g mu q (yD C g n p mu k) 0))) 0 = some (b2 (decide (0 ≤ yDj F C g mu q (yD C g n p mu k) p)), u') ∧ yNB u u' ∧ (∀ j, j < q → u'.2.1 93 j = u.2.1 93 j) ∧ yRes n (yDj F C g mu q (yD C g n p mu k) p) (fun j => if j = q then nI (yFj F C g mu q (yD C g n p mu k) p) - 1 else yL C g n p mu k (ynx F (yFj F C g mu q (yD C g n p mu k) p)) j) q s B u u' := by
      intro N u1 hN h1 h1t h1r
      refine fix3_p p (fun i v x8 x9 => yNB u v ∧ (∀ j, j < q → v.2.1 93 j = u.2.1 93 j) ∧ x8 = b2 (decide (0 ≤ yDj F C g mu q (yD C g n p mu k) i)) ∧ x9 = nI i ∧ yRes n (yDj F C g mu q (yD C g n p mu k) i) (fun j => if j = q then nI (yFj F C g mu q (yD C g n p mu k) i) - 1 else yL C g n p mu k (ynx F (yFj F C g mu q (yD C g n p mu k) i)) j) q s B u v)
        (fun o => ∃ u', o = some (b2 (decide (0 ≤ yDj F C g mu q (yD C g n p mu k) p)), u') ∧ yNB u u' ∧ (∀ j, j < q → u'.2.1 93 j = u.2.1 93 j) ∧ yRes n (yDj F C g mu q (yD C g n p mu k) p) (fun j => if j = q then nI (yFj F C g mu q (yD C g n p mu k) p) - 1 else yL C g n p mu k (ynx F (yFj F C g mu q (yD C g n p mu k) p)) j) q s B u u') ?_ ?_ hN ⟨h1, h1t, rfl, rfl, h1r⟩
      · rintro r i v x8 x9 hi ⟨h2, h2t, rfl, rfl, h2r⟩
        have hmv := yFm_B h2 hm
        have hgv := yFg_B h2 hgm
        have e1 : yFj F C g mu q (yD C g n p mu k) (i + 1) = if yDj F C g mu q (yD C g n p mu k) i < ywc F C g q (yD C g n p mu k) i then i + 1 else yFj F C g mu q (yD C g n p mu k) i := rfl
        have e2 : yDj F C g mu q (yD C g n p mu k) (i + 1) = if yDj F C g mu q (yD C g n p mu k) i < ywc F C g q (yD C g n p mu k) i then ywc F C g q (yD C g n p mu k) i else yDj F C g mu q (yD C g n p mu k) i := rfl
        have hji := hDj i
        have hjl := hDjl i
        by_cases hsk : U.testBit i = true ∨ C i q = false
        · have hwc : ywc F C g q (yD C g n p mu k) i = -1 := by
            unfold ywc
            rw [if_neg]
            rintro ⟨z1, z2⟩
            rcases hsk with z | z
            · rw [hFw, z] at z1; cases z1
            · rw [z] at z2; cases z2
          rw [hwc, if_neg (by omega)] at e1 e2
          refine Or.inl ⟨v, _, nI (i + 1), ⟨h2, h2t, ?_, rfl, ?_⟩, yFB_skip h2.1 hmv hq hU7 hi hsk⟩
          · rw [e2]
          · rw [e1, e2]; exact h2r
        · have z1 : U.testBit i = false := by cases z : U.testBit i with | false => rfl | true => exact absurd (Or.inl z) hsk
          have z2 : C i q = true := by cases z : C i q with | true => rfl | false => exact absurd (Or.inr z) hsk
          have hwc : ywc F C g q (yD C g n p mu k) i = if yD C g n p mu k (yrm F i) < 0 then -1 else (g i q : Int) + yD C g n p mu k (yrm F i) := by
            unfold ywc
            rw [if_pos ⟨by rw [hFw, z1]; rfl, z2⟩]
          have w3 := yNB_w (j := q) (v := nI i) h2.1
          have h3 := yNB_tr h2 w3
          have hs36 : v.2.1 73 36 = yI (if 0 ≤ yDj F C g mu q (yD C g n p mu k) i ∧ B < s + yDj F C g mu q (yD C g n p mu k) i then s + yDj F C g mu q (yD C g n p mu k) i else B) := by
            rcases h2r with ⟨a1, a2, a3, a4⟩ | ⟨a1, a2, a3⟩
            · rw [if_pos ⟨a1, a2⟩]; exact a3
            · rw [if_neg a1]; exact a2
          have hgi := hg i q
          obtain ⟨u3, r1, r2, r3, r4⟩ := ih f (zuI v 93 q (nI i)) (U ||| 2 ^ i) (s + g i q) (if 0 ≤ yDj F C g mu q (yD C g n p mu k) i ∧ B < s + yDj F C g mu q (yD C g n p mu k) i then s + yDj F C g mu q (yD C g n p mu k) i else B) (by omega) (by omega) w3.1 (yFm_B w3 hmv) (yFg_B w3 hgv) (by rw [h3.2.2.2 _ _ (by omega) (by omega) (by omega)]; exact h37) (or_p2 hU hi) (by omega) (by split <;> omega) (by split <;> omega) (by rw [uI_off (by omega)]; exact hs36)
          rw [yfree_or, hF] at r1 r4
          have h4 := yNB_tr h3 r2
          have hgo := yFB_go (r := r) (a3 := nI s) (x := decide (0 ≤ yDj F C g mu q (yD C g n p mu k) i)) h2.1 hmv hq hU7 hi z1 z2 (by rw [hq1, hgv i hi q hq, nI_add]; exact r1) r2.1
          rw [h4.2.2.2 73 37 (by omega) (by omega) (by omega), h37, if_neg (show ¬ (1 : Int32) = 0 by decide)] at hgo
          have hany : (decide (0 ≤ yDj F C g mu q (yD C g n p mu k) i) || decide (0 ≤ yD C g n p mu k (yrm F i))) = decide (0 ≤ yDj F C g mu q (yD C g n p mu k) (i + 1)) := by
            rw [e2, hwc]
            have := hDk (yrm F i)
            by_cases y1 : 0 ≤ yDj F C g mu q (yD C g n p mu k) i
            · rw [decide_eq_true y1, Bool.true_or, eq_comm, decide_eq_true_iff]
              split <;> omega
            · rw [decide_eq_false y1, Bool.false_or]
              by_cases y2 : 0 ≤ yD C g n p mu k (yrm F i)
              · rw [decide_eq_true y2, if_neg (show ¬ yD C g n p mu k (yrm F i) < 0 by omega), if_pos (by omega), eq_comm, decide_eq_true_iff]
                omega
              · rw [decide_eq_false y2, if_pos (show yD C g n p mu k (yrm F i) < 0 by omega), if_neg (by omega), decide_eq_false y1]
          rw [hany] at hgo
          have hstep := yRes_step (n := n) (u := u) hq hB hji h2r h2t rfl (by rw [hq1]; exact r4)
          rw [← hwc] at hstep
          rw [← e2] at hstep
          refine Or.inl ⟨u3, b2 (decide (0 ≤ yDj F C g mu q (yD C g n p mu k) (i + 1))), nI (i + 1), ⟨h4, fun j hj => ?_, rfl, rfl, ?_⟩, ?_⟩
          · rw [r3 j (by omega), uI_at, if_neg (by omega)]
            exact h2t j hj
          · have eLay : (if yDj F C g mu q (yD C g n p mu k) i < ywc F C g q (yD C g n p mu k) i then (fun j => if j = q then nI i else yL C g n p mu k (yrm F i) j) else (fun j => if j = q then nI (yFj F C g mu q (yD C g n p mu k) i) - 1 else yL C g n p mu k (ynx F (yFj F C g mu q (yD C g n p mu k) i)) j)) = (fun j => if j = q then nI (yFj F C g mu q (yD C g n p mu k) (i + 1)) - 1 else yL C g n p mu k (ynx F (yFj F C g mu q (yD C g n p mu k) (i + 1))) j) := by
              rw [e1]
              by_cases y : yDj F C g mu q (yD C g n p mu k) i < ywc F C g q (yD C g n p mu k) i
              · rw [if_pos y, if_pos y]
                funext j
                rw [nI_sub1 (by omega), Nat.add_sub_cancel]
                unfold ynx
                rw [if_neg (show ¬ i + 1 = 0 by omega), Nat.add_sub_cancel]
              · rw [if_neg y, if_neg y]
            rw [eLay] at hstep
            exact hstep
          · rw [hgo]
            cases decide (0 ≤ yDj F C g mu q (yD C g n p mu k) (i + 1))
            · rfl
            · rfl
      · rintro r v x8 x9 ⟨h2, h2t, rfl, rfl, h2r⟩
        exact ⟨v, yFB_end h2.1 (yFm_B h2 hm).2.2.2.1, h2, h2t, h2r⟩
    by_cases hmu : mu q = true
    · have e0 : yDj F C g mu q (yD C g n p mu k) 0 = -1 := if_pos hmu
      rw [if_pos hmu]
      have := loop zFU u (zFU_lt (by omega)) (yNB_rf hf) (fun _ _ => rfl) (by rw [e0]; exact Or.inr ⟨fun z => by omega, h36, fun _ => rfl⟩)
      rw [e0] at this
      exact this
    · have e0 : yDj F C g mu q (yD C g n p mu k) 0 = yD C g n p mu k F := if_neg hmu
      rw [if_neg hmu]
      have w3 := yNB_w (j := q) (v := (-1)) hf
      obtain ⟨u3, r1, r2, r3, r4⟩ := ih f (zuI u 93 q (-1)) U s B (by omega) (by omega) w3.1 (yFm_B w3 hm) (yFg_B w3 hgm) (by rw [uI_off (by omega)]; exact h37) hU (by omega) hB hB2 (by rw [uI_off (by omega)]; exact h36)
      rw [hF] at r1 r4
      have h4 := yNB_tr w3 r2
      have hgo := yFB_none (r := zfix3 (yFB (GF f) (nI q) (nI U) (nI s)) 99999) hf hm hq (by rw [hq1]; exact r1) r2.1
      show ∃ u', yFB (GF f) (nI q) (nI U) (nI s) (zfix3 (yFB (GF f) (nI q) (nI U) (nI s)) 99999) u 0 (-1) = _ ∧ _
      rw [hgo, h4.2.2.2 73 37 (by omega) (by omega) (by omega), h37, if_neg (show ¬ (1 : Int32) = 0 by decide)]
      have := loop 99999 u3 (by omega) h4 (fun j hj => by rw [r3 j (by omega), uI_at, if_neg (by omega)]) (by
        rw [e0]
        rcases r4 with ⟨a1, a2, a3, a4⟩ | ⟨a1, a2, a3⟩
        · refine Or.inl ⟨a1, a2, a3, fun j hj => ?_⟩
          rw [a4 j hj]
          by_cases z1 : j < q
          · rw [if_pos (show j < n - k by omega), if_pos z1, uI_at, if_neg (by omega)]
          · rw [if_neg z1]
            by_cases z2 : j = q
            · rw [if_pos (show j < n - k by omega)]
              dsimp only
              rw [if_pos z2, uI_at, if_pos ⟨rfl, z2⟩]
              show (-1 : Int32) = nI 0 - 1
              decide
            · rw [if_neg (show ¬ j < n - k by omega)]
              dsimp only
              rw [if_neg z2]
              rfl
        · exact Or.inr ⟨a1, a2, fun j => by rw [a3 j, uI_off (by omega)]⟩)
      rw [e0] at this
      cases hv : decide (0 ≤ yD C g n p mu k F) with
      | false => rw [hv] at this; rw [if_pos rfl]; exact this
      | true => rw [hv] at this; rw [if_neg (show ¬ true = false by decide)]; exact this
end S
