-- ===== tokens =====
def ybl (b : Nat) : Bool := decide (b = 32) || decide (b = 10)
def ylt (b : Nat) : Bool := decide (97 ≤ b) && decide (b ≤ 122)
def ydg (b : Nat) : Bool := decide (48 ≤ b) && decide (b ≤ 57)
def ysg (b : Nat) : Bool := decide (b = 40 ∨ b = 41 ∨ b = 59 ∨ b = 43 ∨ b = 45 ∨ b = 42 ∨ b = 60 ∨ b = 61)
def yrun (P : Nat → Bool) (T : Nat) : Nat → Nat → Nat
  | 0, x => x
  | f + 1, x => if (decide (x < T) && P x) = true then yrun P T f (x + 1) else x
def yR (P : Nat → Bool) (T x : Nat) : Nat := yrun P T (T - x) x
theorem yrun_ok {P : Nat → Bool} {T : Nat} : ∀ f x, x + f = T → x ≤ yrun P T f x ∧ yrun P T f x ≤ T ∧ (∀ i, x ≤ i → i < yrun P T f x → P i = true) ∧ (yrun P T f x = T ∨ P (yrun P T f x) = false)
  | 0, x, h => ⟨Nat.le_refl _, (by show x ≤ T; omega), fun i a b => absurd b (by show ¬ i < x; omega), Or.inl (by show x = T; omega)⟩
  | f + 1, x, h => by
    unfold yrun
    by_cases hP : (decide (x < T) && P x) = true
    · rw [if_pos hP]
      obtain ⟨a1, a2, a3, a4⟩ := yrun_ok (P := P) (T := T) f (x + 1) (by omega)
      refine ⟨by omega, a2, fun i b1 b2 => ?_, a4⟩
      by_cases hx : i = x
      · subst hx; rw [Bool.and_eq_true] at hP; exact hP.2
      · exact a3 i (by omega) b2
    · rw [if_neg hP]
      refine ⟨Nat.le_refl _, by omega, fun i a b => absurd b (by omega), Or.inr ?_⟩
      rw [ytf]
      intro z
      exact hP (by rw [z, decide_eq_true (show x < T by omega)]; rfl)
theorem yR_ok {P : Nat → Bool} {T x : Nat} (h : x ≤ T) : x ≤ yR P T x ∧ yR P T x ≤ T ∧ (∀ i, x ≤ i → i < yR P T x → P i = true) ∧ (yR P T x = T ∨ P (yR P T x) = false) := yrun_ok (T - x) x (by omega)
/-- the words: names, then keys -/
def ylw : List Nat := [111, 119, 110, 32, 110, 117, 109, 98, 101, 114, 32, 121, 101, 97, 114, 115, 32, 109, 117, 115, 116, 32, 118, 97, 108, 117, 101, 32, 116, 97, 117, 103, 104, 116, 32, 119, 101, 108, 108, 32, 99, 111, 115, 116, 32, 112, 97, 121, 32, 111, 114, 32, 97, 110, 100, 32, 110, 111, 116, 32]
def yW (c : Nat) : Nat := ylw.getD c 32
theorem yW_ch : ∀ c : Fin 60, zch 1 (nI c.1) = some (nI (yW c.1)) ∧ (zbyt.getD 1 []).getD c.1 0 = nI (yW c.1) := by decide +kernel
def yws (k : Nat) : Nat := [0, 4, 11, 17, 22, 28, 35, 40, 45, 49, 52, 56, 60].getD k 60
def ywk (c : Nat) : Nat := zct (fun i => decide (yW i = 32)) c
theorem yw_ok : ∀ c : Fin 60, ywk c.1 < 12 ∧ yws (ywk c.1) ≤ c.1 ∧ c.1 < yws (ywk c.1 + 1) ∧ (yW c.1 = 32 ↔ c.1 + 1 = yws (ywk c.1 + 1)) ∧ yW c.1 < 256 := by decide +kernel
theorem yws_ok : ∀ k : Fin 12, yws k.1 < yws (k.1 + 1) ∧ yws (k.1 + 1) ≤ 60 ∧ ∀ o : Fin 7, yws k.1 + o.1 < yws (k.1 + 1) → (yW (yws k.1 + o.1) = 32 ↔ yws k.1 + o.1 + 1 = yws (k.1 + 1)) := by decide +kernel
theorem yws_len : ∀ k : Fin 12, yws (k.1 + 1) - yws k.1 ≤ 7 := by decide +kernel
/-- the bytes from f on are as the word's first so many -/
def ylk (B : Nat → Nat) (f t s : Nat) : Nat → Bool
  | 0 => true
  | o + 1 => ylk B f t s o && (decide (f + o < t) && decide (B (f + o) = yW (s + o)))
def ymt (B : Nat → Nat) (f t k : Nat) : Bool := ylk B f t (yws k) (yws (k + 1) - 1 - yws k) && decide (f + (yws (k + 1) - 1 - yws k) = t)
def ywd (B : Nat → Nat) (f t : Nat) : Nat := match yfi (ymt B f t) 12 with
  | some k => k
  | none => 14
def yvl (B : Nat → Nat) (s : Nat) : Nat → Nat
  | 0 => 0
  | i + 1 => if i < 4 then yvl B s i * 10 + (B (s + i) - 48) else yvl B s i
/-- a token: where it begins, what it is, where it ends -/
def yst0 (B : Nat → Nat) (T x : Nat) : Nat := yR (fun i => ybl (B i)) T x
def yen (B : Nat → Nat) (T y : Nat) : Nat := if T ≤ y then y else if ylt (B y) = true then yR (fun i => ylt (B i)) T y else if ydg (B y) = true then yR (fun i => ydg (B i)) T y else y + 1
def ykd (B : Nat → Nat) (T y : Nat) : Nat := if T ≤ y then 13 else if ylt (B y) = true then ywd B y (yen B T y) else if ydg (B y) = true then (if yen B T y - y ≤ 4 then 12 else 14) else if ysg (B y) = true then B y else 14
def yTb (B : Nat → Nat) (T : Nat) (A : Nat) (e : Nat → Nat → Int32) : Prop := T ≤ 160 ∧ (∀ j, B j < 256) ∧ ∀ j, j < T → e A j = nI (B j)
theorem X_let {u : zS} {b : Nat} (h : b < 256) : F_Reader_isLetter u (nI b) = some (b2 (ylt b)) := by
  have : ∀ b : Fin 256, F_Reader_isLetter z00 (nI b.1) = some (b2 (ylt b.1)) := by decide +kernel
  exact this ⟨b, h⟩
theorem X_dig {u : zS} {b : Nat} (h : b < 256) : F_Reader_isDigit u (nI b) = some (b2 (ydg b)) := by
  have : ∀ b : Fin 256, F_Reader_isDigit z00 (nI b.1) = some (b2 (ydg b.1)) := by decide +kernel
  exact this ⟨b, h⟩
theorem X_sig {u : zS} {b : Nat} (h : b < 256) : F_Reader_isSign u (nI b) = some (b2 (ysg b)) := by
  have : ∀ b : Fin 256, F_Reader_isSign z00 (nI b.1) = some (b2 (ysg b.1)) := by decide +kernel
  exact this ⟨b, h⟩
theorem M_let {u : zS} {b : Nat} (h : b < 256) : F_M_isLetter u (nI b) = some (b2 (ylt b)) := by
  have : ∀ b : Fin 256, F_M_isLetter z00 (nI b.1) = some (b2 (ylt b.1)) := by decide +kernel
  exact this ⟨b, h⟩
theorem M_dig {u : zS} {b : Nat} (h : b < 256) : F_M_isDigit u (nI b) = some (b2 (ydg b)) := by
  have : ∀ b : Fin 256, F_M_isDigit z00 (nI b.1) = some (b2 (ydg b.1)) := by decide +kernel
  exact this ⟨b, h⟩
theorem M_sig {u : zS} {b : Nat} (h : b < 256) : F_M_isSignByte u (nI b) = some (b2 (ysg b)) := by
  have : ∀ b : Fin 256, F_M_isSignByte z00 (nI b.1) = some (b2 (ysg b.1)) := by decide +kernel
  exact this ⟨b, h⟩
theorem M_let0 {u : zS} : F_M_isLetter u (-1) = some (b2 false) ∧ F_M_isDigit u (-1) = some (b2 false) := by
  have : F_M_isLetter z00 (-1) = some (b2 false) ∧ F_M_isDigit z00 (-1) = some (b2 false) := by decide +kernel
  exact this
section S
variable {B : Nat → Nat} {T : Nat} {v : zS}
theorem X_word {f t : Nat} (hf : zFr v) (hT : v.2.1 71 0 = nI T) (hB : yTb B T 72 v.2.1) (hft : f ≤ t) (htT : t ≤ T) : F_Reader_wordBetween v 71 (nI f) (nI t) = some (nI (ywd B f t)) := by
  obtain ⟨hT160, hB256, hBv⟩ := hB
  unfold F_Reader_wordBetween
  refine fix4_p 60 (fun c x2 x3 x4 x5 => x5 = nI c ∧ x2 = nI (ywk c) ∧ x3 = nI (f + (c - yws (ywk c))) ∧ x4 = b2 (ylk B f t (yws (ywk c)) (c - yws (ywk c))) ∧ ∀ k, k < ywk c → ymt B f t k = false) (fun o => o = some (nI (ywd B f t))) ?_ ?_ (zFU_lt (by omega)) ⟨rfl, rfl, rfl, rfl, fun k hk => absurd hk (Nat.not_lt_zero k)⟩
  · rintro r c x2 x3 x4 x5 hc ⟨rfl, rfl, rfl, rfl, hno⟩
    obtain ⟨w1, w2, w3, w4, w5⟩ := yw_ok ⟨c, hc⟩
    have ⟨wc, _⟩ := yW_ch ⟨c, hc⟩
    dsimp only at w1 w2 w3 w4 w5 wc
    have hsk : ywk (c + 1) = ywk c + (if decide (yW c = 32) = true then 1 else 0) := zct_s _ c
    rw [if_neg (show ¬ (60 : Int32) ≤ nI c by rw [show (60 : Int32) = nI 60 from rfl, nI_leI (by omega) (by omega)]; omega), wc, zb_some, show nI c + 1 = nI (c + 1) from nI_add c 1, show nI (ywk c) + 1 = nI (ywk c + 1) from nI_add _ 1, show nI (f + (c - yws (ywk c))) + 1 = nI (f + (c - yws (ywk c)) + 1) from nI_add _ 1]
    by_cases h32 : yW c = 32
    · rw [decide_eq_true h32, if_pos rfl] at hsk
      have hlen : yws (ywk c + 1) - 1 - yws (ywk c) = c - yws (ywk c) := by have := w4.mp h32; omega
      rw [if_pos (show nI (yW c) = 32 by rw [h32]; rfl)]
      have cont : ymt B f t (ywk c) = false → ∃ y0 y1 y2 y3, (y3 = nI (c + 1) ∧ y0 = nI (ywk (c + 1)) ∧ y1 = nI (f + (c + 1 - yws (ywk (c + 1)))) ∧ y2 = b2 (ylk B f t (yws (ywk (c + 1))) (c + 1 - yws (ywk (c + 1)))) ∧ ∀ k, k < ywk (c + 1) → ymt B f t k = false) ∧ r (nI (ywk c + 1)) (nI f) 1 (nI (c + 1)) = r y0 y1 y2 y3 := by
        intro hm
        have e0 : c + 1 - yws (ywk c + 1) = 0 := by have := w4.mp h32; omega
        refine ⟨nI (ywk c + 1), nI f, 1, nI (c + 1), ⟨rfl, by rw [hsk], by rw [hsk, e0, Nat.add_zero], by rw [hsk, e0]; rfl, fun k hk => ?_⟩, rfl⟩
        rw [hsk] at hk
        by_cases z : k = ywk c
        · rw [z]; exact hm
        · exact hno k (by omega)
      cases hlk : ylk B f t (yws (ywk c)) (c - yws (ywk c))
      · rw [if_pos (show b2 false = 0 from rfl)]
        exact Or.inl (cont (by unfold ymt; rw [hlen, hlk]; rfl))
      · rw [if_neg (show ¬ b2 true = 0 by decide)]
        by_cases hlt : f + (c - yws (ywk c)) = t
        · rw [if_pos (show nI (f + (c - yws (ywk c))) = nI t by rw [hlt])]
          right
          unfold ywd
          rw [yfi_s hno (by unfold ymt; rw [hlen, hlk, decide_eq_true hlt]; rfl) w1]
        · rw [if_neg (show ¬ nI (f + (c - yws (ywk c))) = nI t from fun z => hlt (nI_inj (by omega) (by omega) z))]
          exact Or.inl (cont (by unfold ymt; rw [hlen, hlk, decide_eq_false hlt]; rfl))
    · replace hsk : ywk (c + 1) = ywk c := by
        rw [hsk, decide_eq_false h32]; rfl
      rw [if_neg (show ¬ nI (yW c) = 32 from fun z => h32 (nI_inj (b := 32) (by omega) (by decide) z))]
      have hoff : c + 1 - yws (ywk c) = (c - yws (ywk c)) + 1 := by omega
      have hl1 : ylk B f t (yws (ywk c)) ((c - yws (ywk c)) + 1) = (ylk B f t (yws (ywk c)) (c - yws (ywk c)) && (decide (f + (c - yws (ywk c)) < t) && decide (B (f + (c - yws (ywk c))) = yW c))) := by
        show (ylk B f t (yws (ywk c)) (c - yws (ywk c)) && (decide (f + (c - yws (ywk c)) < t) && decide (B (f + (c - yws (ywk c))) = yW (yws (ywk c) + (c - yws (ywk c)))))) = _
        rw [show yws (ywk c) + (c - yws (ywk c)) = c by omega]
      have go : ∀ b : Bool, b = ylk B f t (yws (ywk c)) ((c - yws (ywk c)) + 1) → ∃ y0 y1 y2 y3, (y3 = nI (c + 1) ∧ y0 = nI (ywk (c + 1)) ∧ y1 = nI (f + (c + 1 - yws (ywk (c + 1)))) ∧ y2 = b2 (ylk B f t (yws (ywk (c + 1))) (c + 1 - yws (ywk (c + 1)))) ∧ ∀ k, k < ywk (c + 1) → ymt B f t k = false) ∧ r (nI (ywk c)) (nI (f + (c - yws (ywk c)) + 1)) (b2 b) (nI (c + 1)) = r y0 y1 y2 y3 := by
        intro b hb
        refine ⟨_, _, _, _, ⟨rfl, by rw [hsk], by rw [hsk, hoff, Nat.add_assoc], by rw [hsk, hoff, hb], by rw [hsk]; exact hno⟩, rfl⟩
      left
      cases hlk : ylk B f t (yws (ywk c)) (c - yws (ywk c))
      · rw [if_pos (show b2 false = 0 from rfl)]
        exact go false (by rw [hl1, hlk]; rfl)
      · rw [if_neg (show ¬ b2 true = 0 by decide)]
        by_cases hlt : f + (c - yws (ywk c)) < t
        · rw [if_neg (show ¬ nI t ≤ nI (f + (c - yws (ywk c))) by rw [nI_leI (by omega) (by omega)]; omega), gI_71 hf, zb_some, hT, if_neg (show ¬ nI T ≤ nI (f + (c - yws (ywk c))) by rw [nI_leI (by omega) (by omega)]; omega), gR_71_1 hf, zb_some, aI_72 hf (by omega), zb_some, hBv _ (by omega)]
          have hbb := hB256 (f + (c - yws (ywk c)))
          by_cases heq : B (f + (c - yws (ywk c))) = yW c
          · rw [if_pos (show nI (B (f + (c - yws (ywk c)))) = nI (yW c) by rw [heq])]
            exact go true (by rw [hl1, hlk, decide_eq_true hlt, decide_eq_true heq]; rfl)
          · rw [if_neg (show ¬ nI (B (f + (c - yws (ywk c)))) = nI (yW c) from fun z => heq (nI_inj (by omega) (by omega) z))]
            exact go false (by rw [hl1, hlk, decide_eq_false heq]; simp)
        · rw [if_pos (show nI t ≤ nI (f + (c - yws (ywk c))) by rw [nI_leI (by omega) (by omega)]; omega)]
          exact go false (by rw [hl1, hlk, decide_eq_false hlt]; rfl)
  · rintro r x2 x3 x4 x5 ⟨rfl, rfl, rfl, rfl, hno⟩
    rw [if_pos (show (60 : Int32) ≤ nI 60 by decide)]
    unfold ywd
    rw [yfi_n.mpr (fun i hi => hno i (by rw [show ywk 60 = 12 by decide +kernel]; exact hi))]
    rfl
theorem zln_88 (hf : zFr v) : zln v .char (some 88) = some (nI 60) := by
  unfold zln
  rw [hf.1]
  rfl
theorem M_word {f t : Nat} (hf : zFr v) (hB : yTb B T 84 v.2.1) (hL : zLt v.2.1) (h22 : v.2.1 73 22 = nI f) (h23 : v.2.1 73 23 = nI t) (hft : f ≤ t) (htT : t ≤ T) : F_M_wordOf v 73 = some (match yfi (ymt B f t) 12 with | some k => nI k | none => (-1)) := by
  obtain ⟨hT160, hB256, hBv⟩ := hB
  have hLc : ∀ c, c < 60 → v.2.1 88 c = nI (yW c) := fun c hc => (hL.2 c hc).trans (yW_ch ⟨c, hc⟩).2
  unfold F_M_wordOf
  simp only [gR_73_29 hf, zb_some, zln_88 hf, gI_73 hf, h22, h23, gR_73_14 hf]
  refine fix2_p 12 (fun k x2 x3 => x2 = nI (yws k) ∧ x3 = nI k ∧ ∀ j, j < k → ymt B f t j = false) (fun o => o = some (match yfi (ymt B f t) 12 with | some k => nI k | none => (-1))) ?_ ?_ (zFU_lt (by omega)) ⟨rfl, rfl, fun j hj => absurd hj (Nat.not_lt_zero j)⟩
  · rintro r k x2 x3 hk ⟨rfl, rfl, hno⟩
    obtain ⟨w1, w2, w3⟩ := yws_ok ⟨k, hk⟩
    have w4 := yws_len ⟨k, hk⟩
    dsimp only at w1 w2 w3 w4
    rw [if_neg (show ¬ nI 60 ≤ nI (yws k) by rw [nI_leI (by omega) (by omega)]; omega)]
    have inner := fix2_p (α := Int32) (b := fun (r6 : Int32 → Int32 → Option (Int32)) (x7 : Int32) (x8 : Int32) => (zaI v .char (some 88) (nI (yws k) + x7)).bind fun v10 => if v10 = 32 then (if x8 = 0 then (r (nI (yws k) + (x7 + 1)) (nI k + 1)) else (if x7 = (nI t - nI f) then (some (nI k)) else (r (nI (yws k) + (x7 + 1)) (nI k + 1)))) else (if x8 = 0 then (r6 (x7 + 1) 0) else (if nI t ≤ (nI f + x7) then (r6 (x7 + 1) 0) else ((zaI v .int (some 84) (nI f + x7)).bind fun v17 => (zaI v .char (some 88) (nI (yws k) + x7)).bind fun v19 => if v17 = v19 then (r6 (x7 + 1) 1) else (r6 (x7 + 1) 0)))))
      (yws (k + 1) - 1 - yws k) (fun o x7 x8 => x7 = nI o ∧ x8 = b2 (ylk B f t (yws k) o)) (fun o => (∃ y0 y1, (y0 = nI (yws (k + 1)) ∧ y1 = nI (k + 1) ∧ ∀ j, j < k + 1 → ymt B f t j = false) ∧ o = r y0 y1) ∨ o = some (match yfi (ymt B f t) 12 with | some k => nI k | none => (-1))) ?_ ?_ (N := zFU) (zFU_lt (by omega)) (x0 := 0) (x1 := 1) ⟨rfl, rfl⟩
    · exact inner
    · rintro r6 o x7 x8 ho ⟨rfl, rfl⟩
      have h32 : ¬ yW (yws k + o) = 32 := fun z => by
        have := (w3 ⟨o, by omega⟩ (by show yws k + o < _; omega)).mp z
        dsimp only at this
        omega
      left
      have hl1 : ylk B f t (yws k) (o + 1) = (ylk B f t (yws k) o && (decide (f + o < t) && decide (B (f + o) = yW (yws k + o)))) := rfl
      rw [nI_add, aI_88 hf (by omega), zb_some, hLc _ (by omega), if_neg (show ¬ nI (yW (yws k + o)) = 32 from fun z => h32 (nI_inj (b := 32) (by have := (yw_ok ⟨yws k + o, by omega⟩).2.2.2.2; dsimp only at this; omega) (by decide) z)), show nI o + 1 = nI (o + 1) from nI_add o 1, nI_add]
      have hW := (yw_ok ⟨yws k + o, by omega⟩).2.2.2.2
      dsimp only at hW
      cases hlk : ylk B f t (yws k) o
      · rw [if_pos (show b2 false = 0 from rfl)]
        exact ⟨_, _, ⟨rfl, by rw [hl1, hlk]; rfl⟩, rfl⟩
      · rw [if_neg (show ¬ b2 true = 0 by decide)]
        by_cases hlt : f + o < t
        · have hbb := hB256 (f + o)
          rw [if_neg (show ¬ nI t ≤ nI (f + o) by rw [nI_leI (by omega) (by omega)]; omega), aI_84 hf (by omega), zb_some, hBv _ (by omega), zb_some]
          by_cases heq : B (f + o) = yW (yws k + o)
          · rw [if_pos (show nI (B (f + o)) = nI (yW (yws k + o)) by rw [heq])]
            exact ⟨_, _, ⟨rfl, by rw [hl1, hlk, decide_eq_true hlt, decide_eq_true heq]; rfl⟩, rfl⟩
          · rw [if_neg (show ¬ nI (B (f + o)) = nI (yW (yws k + o)) from fun z => heq (nI_inj (by omega) (by omega) z))]
            exact ⟨_, _, ⟨rfl, by rw [hl1, hlk, decide_eq_false heq, decide_eq_true hlt]; rfl⟩, rfl⟩
        · rw [if_pos (show nI t ≤ nI (f + o) by rw [nI_leI (by omega) (by omega)]; omega)]
          exact ⟨_, _, ⟨rfl, by rw [hl1, hlk, decide_eq_false hlt]; rfl⟩, rfl⟩
    · rintro r6 x7 x8 ⟨rfl, rfl⟩
      have e1 : yws k + (yws (k + 1) - 1 - yws k) + 1 = yws (k + 1) := by omega
      have h32 : yW (yws k + (yws (k + 1) - 1 - yws k)) = 32 := (w3 ⟨yws (k + 1) - 1 - yws k, by omega⟩ (by show yws k + (yws (k + 1) - 1 - yws k) < _; omega)).mpr e1
      generalize hln : yws (k + 1) - 1 - yws k = ln at *
      rw [nI_add, aI_88 hf (by omega), zb_some, hLc _ (by omega), if_pos (show nI (yW (yws k + ln)) = 32 by rw [h32]; rfl), show nI ln + 1 = nI (ln + 1) from nI_add ln 1, nI_add, show yws k + (ln + 1) = yws (k + 1) by omega, show nI k + 1 = nI (k + 1) from nI_add k 1, pk_sub hft]
      have cont : ymt B f t k = false → (∃ y0 y1, (y0 = nI (yws (k + 1)) ∧ y1 = nI (k + 1) ∧ ∀ j, j < k + 1 → ymt B f t j = false) ∧ r (nI (yws (k + 1))) (nI (k + 1)) = r y0 y1) := by
        intro hm
        refine ⟨_, _, ⟨rfl, rfl, fun j hj => ?_⟩, rfl⟩
        by_cases z : j = k
        · rw [z]; exact hm
        · exact hno j (by omega)
      cases hlk : ylk B f t (yws k) ln
      · rw [if_pos (show b2 false = 0 from rfl)]
        exact Or.inl (cont (by unfold ymt; rw [hln, hlk]; rfl))
      · rw [if_neg (show ¬ b2 true = 0 by decide)]
        by_cases hlt : f + ln = t
        · rw [if_pos (show nI ln = nI (t - f) by rw [show t - f = ln by omega])]
          right
          rw [yfi_s hno (by unfold ymt; rw [hln, hlk, decide_eq_true hlt]; rfl) hk]
        · rw [if_neg (show ¬ nI ln = nI (t - f) from fun z => hlt (by have := nI_inj (by omega) (by omega) z; omega))]
          exact Or.inl (cont (by unfold ymt; rw [hln, hlk, decide_eq_false hlt]; rfl))
  · rintro r x2 x3 ⟨rfl, rfl, hno⟩
    rw [if_pos (show nI 60 ≤ nI (yws 12) by decide), yfi_n.mpr hno]
end S
