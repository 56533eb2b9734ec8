-- ===== reading: a text =====
section S
variable {B : Nat → Nat} {T t : Nat} {v : zS}
theorem yMt_13 {k : Nat} (h : ¬ k = 13) : ¬ nI (yMt k) = 0 := by
  unfold yMt
  repeat (first | decide | split | omega)
theorem Tfin_g (hf : zFr v) (h27 : v.2.1 73 27 = 0) (h16 : v.2.1 73 16 = nI t) : yTfin v = some (nI t, zuI (zuI v 73 15 0) 73 16 (nI (t + 1))) := by
  have f1 : zFr (zuI v 73 15 0) := fr_uI hf
  have g27 : (zuI v 73 15 0).2.1 73 27 = 0 := by rw [uI_at, if_neg (by omega)]; exact h27
  have g16 : (zuI v 73 15 0).2.1 73 16 = nI t := by rw [uI_at, if_neg (by omega)]; exact h16
  have f2 : zFr (zuI (zuI v 73 15 0) 73 16 (nI (t + 1))) := fr_uI f1
  have k16 : (zuI (zuI v 73 15 0) 73 16 (nI (t + 1))).2.1 73 16 = nI (t + 1) := by rw [uI_at, if_pos ⟨rfl, rfl⟩]
  unfold yTfin
  rw [pI_73 hf, zb_some, gI_73 f1, zb_some, g27, if_pos rfl, gI_73 f1, zb_some, g16, show nI t + 1 = nI (t + 1) from nI_add t 1, pI_73 f1, zb_some, gI_73 f2, zb_some, k16, nI_pred]
theorem Tfin_w {f c : Nat} (h : wM t f c v) : yTfin v = some ((-100 : Int32) - nI f, zuI v 73 15 0) := by
  have f1 : zFr (zuI v 73 15 0) := fr_uI h.1
  have g27 : (zuI v 73 15 0).2.1 73 27 = 1 := by rw [uI_at, if_neg (by omega)]; exact h.2.1
  have g28 : (zuI v 73 15 0).2.1 73 28 = nI f := by rw [uI_at, if_neg (by omega)]; exact h.2.2.1
  unfold yTfin
  rw [pI_73 h.1, zb_some, gI_73 f1, zb_some, g27, if_neg (show ¬ (1 : Int32) = 0 by decide), gI_73 f1, zb_some, g28]
theorem getD_mid (L N N2 : List Int32) : (List.range N.length).map (fun i => (L ++ N ++ N2).getD (L.length + i) 0) = N := by
  apply List.ext_getElem
  · simp
  · intro i h1 h2
    rw [List.getElem_map, List.getElem_range, List.getD_eq_getElem?_getD, List.append_assoc, List.getElem?_append_right (by omega), show L.length + i - L.length = i by omega, List.getElem?_append_left h2, List.getElem?_eq_getElem h2]
    rfl
theorem P_rest (ht : t < 6) (hT : T ≤ 160) (hB : ∀ j, B j < 256) : ∀ k j x L, j + k = 3 → x ≤ T → L.length ≤ yst0 B T x →
 (∃ (S : Nat → Nat) (A N : List Int32), A = L ++ N ∧ S j = L.length ∧ A.length ≤ 160 ∧ (∀ p, j ≤ p → p < 3 → S p ≤ S (p + 1) ∧ S (p + 1) ≤ A.length ∧ zrun ((List.range (S (p + 1) - S p)).map (fun i => A.getD (S p + i) 0)) 0 = some 1) ∧
  (∀ v m, k < m → gX B T t x L v → ∃ v', zfix2 yTX m v (nI j) = some ((-1), v') ∧ yNs (yGX t j) v v' ∧ v'.2.1 71 0 = 0 ∧ (∀ i, i < A.length → v'.2.1 (40 + 4 * t) i = ztr (A.getD i 0)) ∧ ∀ p, j ≤ p → p < 3 → v'.2.1 (41 + 4 * t) p = nI (S (p + 1))) ∧
  (∀ v m, k < m → gM B T t x L 0 v → v.2.1 73 16 = nI t → ∃ v', zfix2 yTM m v (nI j) = some (nI t, v') ∧ yNs (yGM t j) v v' ∧ v'.2.1 73 15 = 0 ∧ v'.2.1 73 16 = nI (t + 1) ∧ (∀ i, i < A.length → v'.2.1 85 (510 * t + i) = A.getD i 0) ∧ ∀ p, j ≤ p → p < 3 → v'.2.1 86 (3 * t + p) = nI (510 * t + S p) ∧ v'.2.1 87 (3 * t + p) = nI (510 * t + S (p + 1)))) ∨
 (∃ f, f ≤ T ∧ (∀ v m, k < m → gX B T t x L v → ∃ v', zfix2 yTX m v (nI j) = some (nI f, v') ∧ yNs (yGX t j) v v' ∧ v'.2.1 71 0 = 0) ∧
  (∀ v m, k < m → gM B T t x L 0 v → v.2.1 73 16 = nI t → ∃ v', zfix2 yTM m v (nI j) = some ((-100 : Int32) - nI f, v') ∧ yNs (yGM t j) v v' ∧ v'.2.1 73 15 = 0 ∧ v'.2.1 73 16 = nI t)) := by
  intro k
  induction k with
  | zero =>
    intro j x L hj hx hL
    obtain rfl : j = 3 := by omega
    have hst := yst_le (B := B) hx
    have hkx := ykx_256 (B := B) (T := T) (x := x) hB
    by_cases hk : ykx B T x = 13
    · refine Or.inl ⟨fun _ => L.length, L, [], by simp, rfl, by omega, fun p h1 h2 => absurd h1 (by omega), fun v m hm hv => ?_, fun v m hm hv h16 => ?_⟩
      · obtain ⟨m, rfl⟩ : ∃ z, m = z + 1 := ⟨m - 1, by omega⟩
        have f1 : zFr (zuI v 71 0 0) := fr_uI hv.1
        have g7 : (zuI v 71 0 0).2.1 71 7 = (-1) := by rw [uI_at, if_neg (by omega)]; exact hv.2.2.2.2.2.1
        refine ⟨zuI v 71 0 0, ?_, yNs_w (yNs_rf hv.1) (Or.inr (Or.inr ⟨rfl, rfl⟩)), by rw [uI_at, if_pos ⟨rfl, rfl⟩], fun i hi => ?_, fun p h1 h2 => absurd h1 (by omega)⟩
        · show yTX (zfix2 yTX m) v (nI 3) = _
          unfold yTX
          rw [if_pos (show (3 : Int32) ≤ nI 3 by decide), X_tok hv, zb_some, hk, if_pos (show nI 13 = 13 from rfl), pI_71 hv.1, zb_some, gI_71 f1, zb_some, g7]
        · rw [uI_off (by omega)]; exact hv.2.2.2.2.2.2.2 i hi
      · obtain ⟨m, rfl⟩ : ∃ z, m = z + 1 := ⟨m - 1, by omega⟩
        have h27 : v.2.1 73 27 = 0 := hv.2.2.2.2.2.2.1
        refine ⟨zuI (zuI v 73 15 0) 73 16 (nI (t + 1)), ?_, yNs_w (yNs_w (yNs_rf hv.1) (Or.inr (Or.inr ⟨rfl, Or.inl rfl⟩))) (Or.inr (Or.inr ⟨rfl, Or.inr rfl⟩)), ?_, ?_, fun i hi => ?_, fun p h1 h2 => absurd h1 (by omega)⟩
        · show yTM (zfix2 yTM m) v (nI 3) = _
          unfold yTM
          rw [if_pos (show (3 : Int32) ≤ nI 3 by decide)]
          unfold yTend
          rw [gI_73 hv.1, zb_some, h27, zjn1_eq, if_pos rfl, M_tok hv, zb_some, hk, if_pos (show nI (yMt 13) = 0 from rfl), Tfin_g hv.1 h27 h16]
        · rw [uI_at, if_neg (by omega), uI_at, if_pos ⟨rfl, rfl⟩]
        · rw [uI_at, if_pos ⟨rfl, rfl⟩]
        · rw [uI_off (by omega), uI_off (by omega)]; exact hv.2.2.2.2.2.2.2.2 i hi
    · refine Or.inr ⟨yst0 B T x, hst.2, fun v m hm hv => ?_, fun v m hm hv h16 => ?_⟩
      · obtain ⟨m, rfl⟩ : ∃ z, m = z + 1 := ⟨m - 1, by omega⟩
        obtain ⟨v1, a1, a2, a3⟩ := X_ref ht (by omega) hv
        have f1 : zFr (zuI v1 71 0 0) := fr_uI a2.1
        have g7 : (zuI v1 71 0 0).2.1 71 7 = nI (yst0 B T x) := by rw [uI_at, if_neg (by omega)]; exact a2.2.2.2.2.1
        refine ⟨zuI v1 71 0 0, ?_, yNs_w (yNs_mo a3 (fun a q z => Or.inl z)) (Or.inr (Or.inr ⟨rfl, rfl⟩)), by rw [uI_at, if_pos ⟨rfl, rfl⟩]⟩
        show yTX (zfix2 yTX m) v (nI 3) = _
        unfold yTX
        rw [if_pos (show (3 : Int32) ≤ nI 3 by decide), X_tok hv, zb_some, if_neg (show ¬ nI (ykx B T x) = 13 from fun z => hk (nI_inj (b := 13) (by omega) (by decide) z)), fo_71 hv.1, zb_some, a1, zb_some, pI_71 a2.1, zb_some, gI_71 f1, zb_some, g7]
      · obtain ⟨m, rfl⟩ : ∃ z, m = z + 1 := ⟨m - 1, by omega⟩
        obtain ⟨v1, a1, a2, a3⟩ := M_wro hv
        have h27 : v.2.1 73 27 = 0 := hv.2.2.2.2.2.2.1
        refine ⟨zuI v1 73 15 0, ?_, yNs_w (yNs_mo a3 (fun a q z => Or.inl z)) (Or.inr (Or.inr ⟨rfl, Or.inl rfl⟩)), by rw [uI_at, if_pos ⟨rfl, rfl⟩], ?_⟩
        · show yTM (zfix2 yTM m) v (nI 3) = _
          unfold yTM
          rw [if_pos (show (3 : Int32) ≤ nI 3 by decide)]
          unfold yTend
          rw [gI_73 hv.1, zb_some, h27, zjn1_eq, if_pos rfl, M_tok hv, zb_some, if_neg (yMt_13 hk), fo_73 hv.1, zb_some, a1, zb_some, Tfin_w a2]
        · rw [uI_at, if_neg (by omega), a3.2.2.2 73 16 (by unfold yFM; omega)]; exact h16
  | succ k ih =>
    intro j x L hj hx hL
    have mX : ∀ a q, yFX2 t j a q → yGX t j a q := fun a q z => z.elim Or.inl (fun z => Or.inr (Or.inl ⟨z.1, by omega⟩))
    have mX' : ∀ a q, yGX t (j + 1) a q → yGX t j a q := fun a q z => z.elim Or.inl (fun z => z.elim (fun z => Or.inr (Or.inl ⟨z.1, by omega⟩)) (fun z => Or.inr (Or.inr z)))
    have mM : ∀ a q, yFM2 t j a q → yGM t j a q := fun a q z => z.elim Or.inl (fun z => Or.inr (Or.inl ⟨z.1, by omega, by omega⟩))
    have mM' : ∀ a q, yGM t (j + 1) a q → yGM t j a q := fun a q z => z.elim Or.inl (fun z => z.elim (fun z => Or.inr (Or.inl ⟨z.1, by omega, z.2.2⟩)) (fun z => Or.inr (Or.inr z)))
    rcases P_part (L := L) ht hT hB (show j < 3 by omega) hx hL with ⟨x1, N1, a1, a2, a3, a4, a5⟩ | ⟨f, a1, a2, a3⟩
    · have hL1 : (L ++ N1).length ≤ yst0 B T x1 := by rw [List.length_append]; omega
      have stX : ∀ v m, k + 1 < m → gX B T t x L v → ∃ v1 m1, k < m1 ∧ zfix2 yTX m v (nI j) = zfix2 yTX m1 v1 (nI (j + 1)) ∧ gX B T t x1 (L ++ N1) v1 ∧ v1.2.1 (41 + 4 * t) j = nI (L ++ N1).length ∧ yNs (yFX2 t j) v v1 := by
        intro v m hm hv
        obtain ⟨m, rfl⟩ : ∃ z, m = z + 1 := ⟨m - 1, by omega⟩
        obtain ⟨v1, c1, c2, c3, c4⟩ := a4 v hv
        exact ⟨v1, m, by omega, c1 (zfix2 yTX m), c2, c3, c4⟩
      have stM : ∀ v m, k + 1 < m → gM B T t x L 0 v → v.2.1 73 16 = nI t → ∃ v1 m1, k < m1 ∧ zfix2 yTM m v (nI j) = zfix2 yTM m1 v1 (nI (j + 1)) ∧ gM B T t x1 (L ++ N1) 0 v1 ∧ v1.2.1 73 16 = nI t ∧ v1.2.1 86 (3 * t + j) = nI (510 * t + L.length) ∧ v1.2.1 87 (3 * t + j) = nI (510 * t + (L ++ N1).length) ∧ yNs (yFM2 t j) v v1 := by
        intro v m hm hv h16
        obtain ⟨m, rfl⟩ : ∃ z, m = z + 1 := ⟨m - 1, by omega⟩
        obtain ⟨v1, c1, c2, c3, c4, c5⟩ := a5 v hv h16
        exact ⟨v1, m, by omega, c1 (zfix2 yTM m), c2, by rw [c5.2.2.2 73 16 (by unfold yFM2 yFM; omega)]; exact h16, c3, c4, c5⟩
      rcases ih (j + 1) x1 (L ++ N1) (by omega) a1 hL1 with ⟨S, A, N2, b1, b2, b3, b4, b5, b6⟩ | ⟨f, b1, b2, b3⟩
      · have hlen : A.length = L.length + N1.length + N2.length := by rw [b1, List.length_append, List.length_append]
        have b2' : S (j + 1) = L.length + N1.length := by rw [b2, List.length_append]
        have e0 : ∀ p, p ≤ j → (fun p => if p ≤ j then L.length else S p) p = L.length := fun p hp => if_pos hp
        have e1 : ∀ p, ¬ p ≤ j → (fun p => if p ≤ j then L.length else S p) p = S p := fun p hp => if_neg hp
        refine Or.inl ⟨fun p => if p ≤ j then L.length else S p, A, N1 ++ N2, by rw [b1, List.append_assoc], e0 j (Nat.le_refl _), b3, fun p h1 h2 => ?_, fun v m hm hv => ?_, fun v m hm hv h16 => ?_⟩
        · by_cases hp : p = j
          · subst hp
            rw [e0 p (Nat.le_refl _), e1 (p + 1) (by omega), b2']
            refine ⟨by omega, by omega, ?_⟩
            rw [show L.length + N1.length - L.length = N1.length by omega, b1, getD_mid]
            exact a3
          · rw [e1 p (by omega), e1 (p + 1) (by omega)]
            exact b4 p (by omega) h2
        · obtain ⟨v1, m1, c1, c2, c3, c4, c5⟩ := stX v m hm hv
          obtain ⟨v2, d1, d2, d3, d4, d5⟩ := b5 v1 m1 c1 c3
          refine ⟨v2, by rw [c2]; exact d1, yNs_tr (yNs_mo c5 mX) (yNs_mo d2 mX'), d3, d4, fun p h1 h2 => ?_⟩
          by_cases hp : p = j
          · subst hp
            rw [e1 (p + 1) (by omega), b2, d2.2.2.2 _ _ (by unfold yGX yFX; omega)]
            exact c4
          · rw [e1 (p + 1) (by omega)]
            exact d5 p (by omega) h2
        · obtain ⟨v1, m1, c1, c2, c3, c4, c5, c6, c7⟩ := stM v m hm hv h16
          obtain ⟨v2, d1, d2, d3, d4, d5, d6⟩ := b6 v1 m1 c1 c3 c4
          refine ⟨v2, by rw [c2]; exact d1, yNs_tr (yNs_mo c7 mM) (yNs_mo d2 mM'), d3, d4, d5, fun p h1 h2 => ?_⟩
          by_cases hp : p = j
          · subst hp
            rw [e0 p (Nat.le_refl _), e1 (p + 1) (by omega), b2, d2.2.2.2 86 _ (by unfold yGM yFM; omega), d2.2.2.2 87 _ (by unfold yGM yFM; omega)]
            exact ⟨c5, c6⟩
          · rw [e1 p (by omega), e1 (p + 1) (by omega)]
            exact d6 p (by omega) h2
      · refine Or.inr ⟨f, b1, fun v m hm hv => ?_, fun v m hm hv h16 => ?_⟩
        · obtain ⟨v1, m1, c1, c2, c3, c4, c5⟩ := stX v m hm hv
          obtain ⟨v2, d1, d2, d3⟩ := b2 v1 m1 c1 c3
          exact ⟨v2, by rw [c2]; exact d1, yNs_tr (yNs_mo c5 mX) (yNs_mo d2 mX'), d3⟩
        · obtain ⟨v1, m1, c1, c2, c3, c4, c5, c6, c7⟩ := stM v m hm hv h16
          obtain ⟨v2, d1, d2, d3, d4⟩ := b3 v1 m1 c1 c3 c4
          exact ⟨v2, by rw [c2]; exact d1, yNs_tr (yNs_mo c7 mM) (yNs_mo d2 mM'), d3, d4⟩
    · refine Or.inr ⟨f, a1, fun v m hm hv => ?_, fun v m hm hv h16 => ?_⟩
      · obtain ⟨m, rfl⟩ : ∃ z, m = z + 1 := ⟨m - 1, by omega⟩
        obtain ⟨v1, c1, c2, c3⟩ := a2 v hv
        obtain ⟨v2, d1, d2, d3⟩ := XL_w ht (show f < 2 ^ 31 by omega) k (j + 1) v1 m (by omega) (by omega) c2
        exact ⟨v2, (c1 (zfix2 yTX m)).trans d1, yNs_tr (yNs_mo c3 mX) (yNs_mo d2 mX'), d3⟩
      · obtain ⟨m, rfl⟩ : ∃ z, m = z + 2 := ⟨m - 2, by omega⟩
        obtain ⟨v1, c, c1, c2, c3⟩ := a3 v hv h16
        refine ⟨zuI v1 73 15 0, c3 (zfix2 yTM (m + 1)) (fun w c hw => TM_w (by omega) (zfix2 yTM m) hw), yNs_w (yNs_mo c2 mM) (Or.inr (Or.inr ⟨rfl, Or.inl rfl⟩)), by rw [uI_at, if_pos ⟨rfl, rfl⟩], ?_⟩
        rw [uI_at, if_neg (by omega), c2.2.2.2 73 16 (by unfold yFM2 yFM; omega)]
        exact h16
end S
