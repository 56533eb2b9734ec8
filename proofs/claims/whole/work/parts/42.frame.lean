theorem zk_some {α β γ : Type} (a : α) (b : β) (f : α → β → Option γ) : (some (a, b)).bind (zk f) = f a b := rfl
theorem zb_some {α β : Type} (a : α) (f : α → Option β) : (some a).bind f = f a := rfl
theorem zjn1_eq {α : Type} {T0 : Type} (b : (T0 → α) → α) (k : T0 → α) : zjn1 b k = b k := rfl
theorem zjn2_eq {α : Type} {T0 : Type} {T1 : Type} (b : (T0 → T1 → α) → α) (k : T0 → T1 → α) : zjn2 b k = b k := rfl
theorem zjn3_eq {α : Type} {T0 : Type} {T1 : Type} {T2 : Type} (b : (T0 → T1 → T2 → α) → α) (k : T0 → T1 → T2 → α) : zjn3 b k = b k := rfl
theorem zjn4_eq {α : Type} {T0 : Type} {T1 : Type} {T2 : Type} {T3 : Type} (b : (T0 → T1 → T2 → T3 → α) → α) (k : T0 → T1 → T2 → T3 → α) : zjn4 b k = b k := rfl
theorem zjn5_eq {α : Type} {T0 : Type} {T1 : Type} {T2 : Type} {T3 : Type} {T4 : Type} (b : (T0 → T1 → T2 → T3 → T4 → α) → α) (k : T0 → T1 → T2 → T3 → T4 → α) : zjn5 b k = b k := rfl
theorem zjn6_eq {α : Type} {T0 : Type} {T1 : Type} {T2 : Type} {T3 : Type} {T4 : Type} {T5 : Type} (b : (T0 → T1 → T2 → T3 → T4 → T5 → α) → α) (k : T0 → T1 → T2 → T3 → T4 → T5 → α) : zjn6 b k = b k := rfl
theorem zjn7_eq {α : Type} {T0 : Type} {T1 : Type} {T2 : Type} {T3 : Type} {T4 : Type} {T5 : Type} {T6 : Type} (b : (T0 → T1 → T2 → T3 → T4 → T5 → T6 → α) → α) (k : T0 → T1 → T2 → T3 → T4 → T5 → T6 → α) : zjn7 b k = b k := rfl
theorem zlet_eq {α β : Type} (e : α) (f : α → β) : zlet e f = f e := rfl
theorem fr_uI {μ : zS} {a q : Nat} {v : Int32} (h : zFr μ) : zFr (zuI μ a q v) := h
theorem fr_uJ {μ : zS} {a q : Nat} {v : Int64} (h : zFr μ) : zFr (zuJ μ a q v) := h
theorem fr_uR {μ : zS} {v : Option Nat} (h : zFr μ) : zFr (zuR μ 71 2 v) := by
  refine ⟨h.1, fun a ha k hk hn => ?_⟩
  show (if a = 71 ∧ k = 2 then v else μ.2.2.2 a k) = _
  rw [if_neg hn]; exact h.2 a ha k hk hn
theorem zob_L {μ : zS} {ci a : Nat} (h : zFr μ) (ha : zL0[a]? = some (.inr ci)) : zob μ ci (some a) = some a := by simp only [zob, h.1, ha, if_true]
theorem zix_L {μ : zS} {ty : FieldType} {a N j : Nat} (h : zFr μ) (ha : zL0[a]? = some (.inl (ty, N))) (hj : j < N) (hN : N < 2 ^ 31) : zix μ ty (some a) (nI j) = some a := by
  have h1 : ¬ nI j < 0 := nI_pos (by omega)
  have h2 : (nI j).toNatClampNeg = j := nI_clamp (by omega)
  simp only [zix, h.1, ha, h2]
  rw [if_pos ⟨trivial, h1, hj⟩]
theorem gI_L {μ : zS} {ci a q : Nat} (h : zFr μ) (ha : zL0[a]? = some (.inr ci)) : zgI μ ci (some a) q = some (μ.2.1 a q) := by simp only [zgI, zob_L h ha, Option.map_some]
theorem gR_L {μ : zS} {ci a q : Nat} {r : Option Nat} (h : zFr μ) (ha : zL0[a]? = some (.inr ci)) (ha2 : a < 104) (hq : q < 60) (hn : ¬ (a = 71 ∧ q = 2)) (hr : zR0 a q = r) : zgR μ ci (some a) q = some r := by simp only [zgR, zob_L h ha, Option.map_some, h.2 a ha2 q hq hn, hr]
theorem pI_L {μ : zS} {ci a q : Nat} {v : Int32} (h : zFr μ) (ha : zL0[a]? = some (.inr ci)) : zpI μ ci (some a) q v = some (zuI μ a q v) := by simp only [zpI, zob_L h ha, Option.map_some]
theorem pZ_L {μ : zS} {ci a q : Nat} {v : Int32} (h : zFr μ) (ha : zL0[a]? = some (.inr ci)) (hv : v = 0 ∨ v = 1) : zpZ μ ci (some a) q v = some (zuI μ a q v) := by rw [zpZ, if_pos hv, pI_L h ha]
theorem aI_L {μ : zS} {ty : FieldType} {a N j : Nat} (h : zFr μ) (ha : zL0[a]? = some (.inl (ty, N))) (hj : j < N) (hN : N < 2 ^ 31) : zaI μ ty (some a) (nI j) = some (μ.2.1 a j) := by
  rw [zaI, zix_L h ha hj hN, Option.map_some, nI_clamp (by omega)]
theorem aJ_L {μ : zS} {a N j : Nat} (h : zFr μ) (ha : zL0[a]? = some (.inl (.long, N))) (hj : j < N) (hN : N < 2 ^ 31) : zaJ μ (some a) (nI j) = some (μ.2.2.1 a j) := by
  rw [zaJ, zix_L h ha hj hN, Option.map_some, nI_clamp (by omega)]
theorem aR_L {μ : zS} {C : String} {a N j : Nat} {r : Option Nat} (h : zFr μ) (ha : zL0[a]? = some (.inl (.object C, N))) (hj : j < N) (hN : N < 60) (ha2 : a < 71) (hr : zR0 a j = r) : zaR μ C (some a) (nI j) = some r := by
  rw [zaR, zix_L h ha hj (by omega), Option.map_some, nI_clamp (by omega), h.2 a (by omega) j (by omega) (by omega), hr]
theorem sI_L {μ : zS} {a N j : Nat} {v : Int32} (h : zFr μ) (ha : zL0[a]? = some (.inl (.int, N))) (hj : j < N) (hN : N < 2 ^ 31) : zsI μ (some a) (nI j) v = some (zuI μ a j v) := by
  rw [zsI, zix_L h ha hj hN, Option.map_some, nI_clamp (by omega)]
theorem sZ_L {μ : zS} {a N j : Nat} {v : Int32} (h : zFr μ) (ha : zL0[a]? = some (.inl (.boolean, N))) (hj : j < N) (hN : N < 2 ^ 31) (hv : v = 0 ∨ v = 1) : zsZ μ (some a) (nI j) v = some (zuI μ a j v) := by
  rw [zsZ, if_pos hv, zix_L h ha hj hN, Option.map_some, nI_clamp (by omega)]
theorem sJ_L {μ : zS} {a N j : Nat} {v : Int64} (h : zFr μ) (ha : zL0[a]? = some (.inl (.long, N))) (hj : j < N) (hN : N < 2 ^ 31) : zsJ μ (some a) (nI j) v = some (zuJ μ a j v) := by
  rw [zsJ, zix_L h ha hj hN, Option.map_some, nI_clamp (by omega)]
theorem uI_at (μ : zS) (a q : Nat) (v : Int32) (b j : Nat) : (zuI μ a q v).2.1 b j = if b = a ∧ j = q then v else μ.2.1 b j := rfl
theorem uI_J (μ : zS) (a q : Nat) (v : Int32) : (zuI μ a q v).2.2.1 = μ.2.2.1 := rfl
theorem uI_R (μ : zS) (a q : Nat) (v : Int32) : (zuI μ a q v).2.2.2 = μ.2.2.2 := rfl
theorem uJ_I (μ : zS) (a q : Nat) (v : Int64) : (zuJ μ a q v).2.1 = μ.2.1 := rfl
theorem uJ_at (μ : zS) (a q : Nat) (v : Int64) (b j : Nat) : (zuJ μ a q v).2.2.1 b j = if b = a ∧ j = q then v else μ.2.2.1 b j := rfl
theorem fo_0 {μ : zS} (h : zFr μ) : zob μ 8 (some 0) = some 0 := zob_L h rfl
theorem gI_0 {μ : zS} {q : Nat} (h : zFr μ) : zgI μ 8 (some 0) q = some (μ.2.1 0 q) := gI_L h rfl
theorem pI_0 {μ : zS} {q : Nat} {v : Int32} (h : zFr μ) : zpI μ 8 (some 0) q v = some (zuI μ 0 q v) := pI_L h rfl
theorem pZ_0 {μ : zS} {q : Nat} {v : Int32} (h : zFr μ) (hv : v = 0 ∨ v = 1) : zpZ μ 8 (some 0) q v = some (zuI μ 0 q v) := pZ_L h rfl hv
theorem fo_1 {μ : zS} (h : zFr μ) : zob μ 2 (some 1) = some 1 := zob_L h rfl
theorem gI_1 {μ : zS} {q : Nat} (h : zFr μ) : zgI μ 2 (some 1) q = some (μ.2.1 1 q) := gI_L h rfl
theorem pI_1 {μ : zS} {q : Nat} {v : Int32} (h : zFr μ) : zpI μ 2 (some 1) q v = some (zuI μ 1 q v) := pI_L h rfl
theorem pZ_1 {μ : zS} {q : Nat} {v : Int32} (h : zFr μ) (hv : v = 0 ∨ v = 1) : zpZ μ 2 (some 1) q v = some (zuI μ 1 q v) := pZ_L h rfl hv
theorem fo_6 {μ : zS} (h : zFr μ) : zob μ 1 (some 6) = some 6 := zob_L h rfl
theorem gI_6 {μ : zS} {q : Nat} (h : zFr μ) : zgI μ 1 (some 6) q = some (μ.2.1 6 q) := gI_L h rfl
theorem pI_6 {μ : zS} {q : Nat} {v : Int32} (h : zFr μ) : zpI μ 1 (some 6) q v = some (zuI μ 6 q v) := pI_L h rfl
theorem pZ_6 {μ : zS} {q : Nat} {v : Int32} (h : zFr μ) (hv : v = 0 ∨ v = 1) : zpZ μ 1 (some 6) q v = some (zuI μ 6 q v) := pZ_L h rfl hv
theorem fo_9 {μ : zS} (h : zFr μ) : zob μ 4 (some 9) = some 9 := zob_L h rfl
theorem gI_9 {μ : zS} {q : Nat} (h : zFr μ) : zgI μ 4 (some 9) q = some (μ.2.1 9 q) := gI_L h rfl
theorem pI_9 {μ : zS} {q : Nat} {v : Int32} (h : zFr μ) : zpI μ 4 (some 9) q v = some (zuI μ 9 q v) := pI_L h rfl
theorem pZ_9 {μ : zS} {q : Nat} {v : Int32} (h : zFr μ) (hv : v = 0 ∨ v = 1) : zpZ μ 4 (some 9) q v = some (zuI μ 9 q v) := pZ_L h rfl hv
theorem fo_13 {μ : zS} (h : zFr μ) : zob μ 0 (some 13) = some 13 := zob_L h rfl
theorem gI_13 {μ : zS} {q : Nat} (h : zFr μ) : zgI μ 0 (some 13) q = some (μ.2.1 13 q) := gI_L h rfl
theorem pI_13 {μ : zS} {q : Nat} {v : Int32} (h : zFr μ) : zpI μ 0 (some 13) q v = some (zuI μ 13 q v) := pI_L h rfl
theorem pZ_13 {μ : zS} {q : Nat} {v : Int32} (h : zFr μ) (hv : v = 0 ∨ v = 1) : zpZ μ 0 (some 13) q v = some (zuI μ 13 q v) := pZ_L h rfl hv
theorem fo_71 {μ : zS} (h : zFr μ) : zob μ 5 (some 71) = some 71 := zob_L h rfl
theorem gI_71 {μ : zS} {q : Nat} (h : zFr μ) : zgI μ 5 (some 71) q = some (μ.2.1 71 q) := gI_L h rfl
theorem pI_71 {μ : zS} {q : Nat} {v : Int32} (h : zFr μ) : zpI μ 5 (some 71) q v = some (zuI μ 71 q v) := pI_L h rfl
theorem pZ_71 {μ : zS} {q : Nat} {v : Int32} (h : zFr μ) (hv : v = 0 ∨ v = 1) : zpZ μ 5 (some 71) q v = some (zuI μ 71 q v) := pZ_L h rfl hv
theorem fo_73 {μ : zS} (h : zFr μ) : zob μ 9 (some 73) = some 73 := zob_L h rfl
theorem gI_73 {μ : zS} {q : Nat} (h : zFr μ) : zgI μ 9 (some 73) q = some (μ.2.1 73 q) := gI_L h rfl
theorem pI_73 {μ : zS} {q : Nat} {v : Int32} (h : zFr μ) : zpI μ 9 (some 73) q v = some (zuI μ 73 q v) := pI_L h rfl
theorem pZ_73 {μ : zS} {q : Nat} {v : Int32} (h : zFr μ) (hv : v = 0 ∨ v = 1) : zpZ μ 9 (some 73) q v = some (zuI μ 73 q v) := pZ_L h rfl hv
theorem gR_0_0 {μ : zS} (h : zFr μ) : zgR μ 8 (some 0) 0 = some (some 1) := gR_L h rfl (by decide) (by decide) (by decide) rfl
theorem gR_0_1 {μ : zS} (h : zFr μ) : zgR μ 8 (some 0) 1 = some (some 3) := gR_L h rfl (by decide) (by decide) (by decide) rfl
theorem gR_0_3 {μ : zS} (h : zFr μ) : zgR μ 8 (some 0) 3 = some (some 71) := gR_L h rfl (by decide) (by decide) (by decide) rfl
theorem gR_0_4 {μ : zS} (h : zFr μ) : zgR μ 8 (some 0) 4 = some (some 4) := gR_L h rfl (by decide) (by decide) (by decide) rfl
theorem gR_0_7 {μ : zS} (h : zFr μ) : zgR μ 8 (some 0) 7 = some (some 5) := gR_L h rfl (by decide) (by decide) (by decide) rfl
theorem gR_0_8 {μ : zS} (h : zFr μ) : zgR μ 8 (some 0) 8 = some (some 6) := gR_L h rfl (by decide) (by decide) (by decide) rfl
theorem gR_0_9 {μ : zS} (h : zFr μ) : zgR μ 8 (some 0) 9 = some (some 9) := gR_L h rfl (by decide) (by decide) (by decide) rfl
theorem gR_0_10 {μ : zS} (h : zFr μ) : zgR μ 8 (some 0) 10 = some (some 13) := gR_L h rfl (by decide) (by decide) (by decide) rfl
theorem gR_0_11 {μ : zS} (h : zFr μ) : zgR μ 8 (some 0) 11 = some (some 17) := gR_L h rfl (by decide) (by decide) (by decide) rfl
theorem gR_1_2 {μ : zS} (h : zFr μ) : zgR μ 2 (some 1) 2 = some (some 2) := gR_L h rfl (by decide) (by decide) (by decide) rfl
theorem gR_6_1 {μ : zS} (h : zFr μ) : zgR μ 1 (some 6) 1 = some (some 7) := gR_L h rfl (by decide) (by decide) (by decide) rfl
theorem gR_6_2 {μ : zS} (h : zFr μ) : zgR μ 1 (some 6) 2 = some (some 8) := gR_L h rfl (by decide) (by decide) (by decide) rfl
theorem gR_9_2 {μ : zS} (h : zFr μ) : zgR μ 4 (some 9) 2 = some (some 10) := gR_L h rfl (by decide) (by decide) (by decide) rfl
theorem gR_9_3 {μ : zS} (h : zFr μ) : zgR μ 4 (some 9) 3 = some (some 11) := gR_L h rfl (by decide) (by decide) (by decide) rfl
theorem gR_9_4 {μ : zS} (h : zFr μ) : zgR μ 4 (some 9) 4 = some (some 12) := gR_L h rfl (by decide) (by decide) (by decide) rfl
theorem gR_13_1 {μ : zS} (h : zFr μ) : zgR μ 0 (some 13) 1 = some (some 14) := gR_L h rfl (by decide) (by decide) (by decide) rfl
theorem gR_13_2 {μ : zS} (h : zFr μ) : zgR μ 0 (some 13) 2 = some (some 15) := gR_L h rfl (by decide) (by decide) (by decide) rfl
theorem gR_13_3 {μ : zS} (h : zFr μ) : zgR μ 0 (some 13) 3 = some (some 16) := gR_L h rfl (by decide) (by decide) (by decide) rfl
theorem gR_71_1 {μ : zS} (h : zFr μ) : zgR μ 5 (some 71) 1 = some (some 72) := gR_L h rfl (by decide) (by decide) (by decide) rfl
theorem gR_73_2 {μ : zS} (h : zFr μ) : zgR μ 9 (some 73) 2 = some (some 74) := gR_L h rfl (by decide) (by decide) (by decide) rfl
theorem gR_73_3 {μ : zS} (h : zFr μ) : zgR μ 9 (some 73) 3 = some (some 75) := gR_L h rfl (by decide) (by decide) (by decide) rfl
theorem gR_73_5 {μ : zS} (h : zFr μ) : zgR μ 9 (some 73) 5 = some (some 76) := gR_L h rfl (by decide) (by decide) (by decide) rfl
theorem gR_73_6 {μ : zS} (h : zFr μ) : zgR μ 9 (some 73) 6 = some (some 77) := gR_L h rfl (by decide) (by decide) (by decide) rfl
theorem gR_73_7 {μ : zS} (h : zFr μ) : zgR μ 9 (some 73) 7 = some (some 78) := gR_L h rfl (by decide) (by decide) (by decide) rfl
theorem gR_73_8 {μ : zS} (h : zFr μ) : zgR μ 9 (some 73) 8 = some (some 79) := gR_L h rfl (by decide) (by decide) (by decide) rfl
theorem gR_73_9 {μ : zS} (h : zFr μ) : zgR μ 9 (some 73) 9 = some (some 80) := gR_L h rfl (by decide) (by decide) (by decide) rfl
theorem gR_73_11 {μ : zS} (h : zFr μ) : zgR μ 9 (some 73) 11 = some (some 81) := gR_L h rfl (by decide) (by decide) (by decide) rfl
theorem gR_73_12 {μ : zS} (h : zFr μ) : zgR μ 9 (some 73) 12 = some (some 82) := gR_L h rfl (by decide) (by decide) (by decide) rfl
theorem gR_73_13 {μ : zS} (h : zFr μ) : zgR μ 9 (some 73) 13 = some (some 83) := gR_L h rfl (by decide) (by decide) (by decide) rfl
theorem gR_73_14 {μ : zS} (h : zFr μ) : zgR μ 9 (some 73) 14 = some (some 84) := gR_L h rfl (by decide) (by decide) (by decide) rfl
theorem gR_73_18 {μ : zS} (h : zFr μ) : zgR μ 9 (some 73) 18 = some (some 85) := gR_L h rfl (by decide) (by decide) (by decide) rfl
theorem gR_73_19 {μ : zS} (h : zFr μ) : zgR μ 9 (some 73) 19 = some (some 86) := gR_L h rfl (by decide) (by decide) (by decide) rfl
theorem gR_73_20 {μ : zS} (h : zFr μ) : zgR μ 9 (some 73) 20 = some (some 87) := gR_L h rfl (by decide) (by decide) (by decide) rfl
theorem gR_73_29 {μ : zS} (h : zFr μ) : zgR μ 9 (some 73) 29 = some (some 88) := gR_L h rfl (by decide) (by decide) (by decide) rfl
theorem gR_73_30 {μ : zS} (h : zFr μ) : zgR μ 9 (some 73) 30 = some (some 89) := gR_L h rfl (by decide) (by decide) (by decide) rfl
theorem gR_73_31 {μ : zS} (h : zFr μ) : zgR μ 9 (some 73) 31 = some (some 90) := gR_L h rfl (by decide) (by decide) (by decide) rfl
theorem gR_73_32 {μ : zS} (h : zFr μ) : zgR μ 9 (some 73) 32 = some (some 91) := gR_L h rfl (by decide) (by decide) (by decide) rfl
theorem gR_73_33 {μ : zS} (h : zFr μ) : zgR μ 9 (some 73) 33 = some (some 92) := gR_L h rfl (by decide) (by decide) (by decide) rfl
theorem gR_73_34 {μ : zS} (h : zFr μ) : zgR μ 9 (some 73) 34 = some (some 93) := gR_L h rfl (by decide) (by decide) (by decide) rfl
theorem gR_73_35 {μ : zS} (h : zFr μ) : zgR μ 9 (some 73) 35 = some (some 94) := gR_L h rfl (by decide) (by decide) (by decide) rfl
theorem gR_73_45 {μ : zS} (h : zFr μ) : zgR μ 9 (some 73) 45 = some (some 95) := gR_L h rfl (by decide) (by decide) (by decide) rfl
theorem gR_73_46 {μ : zS} (h : zFr μ) : zgR μ 9 (some 73) 46 = some (some 96) := gR_L h rfl (by decide) (by decide) (by decide) rfl
theorem gR_73_47 {μ : zS} (h : zFr μ) : zgR μ 9 (some 73) 47 = some (some 97) := gR_L h rfl (by decide) (by decide) (by decide) rfl
theorem gR_73_48 {μ : zS} (h : zFr μ) : zgR μ 9 (some 73) 48 = some (some 98) := gR_L h rfl (by decide) (by decide) (by decide) rfl
theorem gR_73_49 {μ : zS} (h : zFr μ) : zgR μ 9 (some 73) 49 = some (some 99) := gR_L h rfl (by decide) (by decide) (by decide) rfl
theorem gR_73_50 {μ : zS} (h : zFr μ) : zgR μ 9 (some 73) 50 = some (some 100) := gR_L h rfl (by decide) (by decide) (by decide) rfl
theorem gR_73_51 {μ : zS} (h : zFr μ) : zgR μ 9 (some 73) 51 = some (some 101) := gR_L h rfl (by decide) (by decide) (by decide) rfl
theorem gR_73_52 {μ : zS} (h : zFr μ) : zgR μ 9 (some 73) 52 = some (some 102) := gR_L h rfl (by decide) (by decide) (by decide) rfl
theorem lay_P : ∀ w, w < 7 → zL0[18 + 3 * w]? = some (.inr 3) := by decide
theorem fo_P {μ : zS} {w : Nat} (h : zFr μ) (hw : w < 7) : zob μ 3 (some (18 + 3 * w)) = some (18 + 3 * w) := zob_L h (lay_P _ hw)
theorem gI_P {μ : zS} {w q : Nat} (h : zFr μ) (hw : w < 7) : zgI μ 3 (some (18 + 3 * w)) q = some (μ.2.1 (18 + 3 * w) q) := gI_L h (lay_P _ hw)
theorem pI_P {μ : zS} {w q : Nat} {v : Int32} (h : zFr μ) (hw : w < 7) : zpI μ 3 (some (18 + 3 * w)) q v = some (zuI μ (18 + 3 * w) q v) := pI_L h (lay_P _ hw)
theorem rr_P_5 : ∀ w, w < 7 → zR0 (18 + 3 * w) 5 = some (19 + 3 * w) := by decide
theorem gR_P_5 {μ : zS} {w : Nat} (h : zFr μ) (hw : w < 7) : zgR μ 3 (some (18 + 3 * w)) 5 = some (some (19 + 3 * w)) := gR_L h (lay_P _ hw) (by omega) (by decide) (by omega) (rr_P_5 _ hw)
theorem lay_P_5 : ∀ w, w < 7 → zL0[19 + 3 * w]? = some (.inl (.int, 6)) := by decide
theorem aI_P_5 {μ : zS} {w j : Nat} (h : zFr μ) (hw : w < 7) (hj : j < 6) : zaI μ .int (some (19 + 3 * w)) (nI j) = some (μ.2.1 (19 + 3 * w) j) := aI_L h (lay_P_5 _ hw) hj (by decide)
theorem sI_P_5 {μ : zS} {w j : Nat} {v : Int32} (h : zFr μ) (hw : w < 7) (hj : j < 6) : zsI μ (some (19 + 3 * w)) (nI j) v = some (zuI μ (19 + 3 * w) j v) := sI_L h (lay_P_5 _ hw) hj (by decide)
theorem rr_P_8 : ∀ w, w < 7 → zR0 (18 + 3 * w) 8 = some (20 + 3 * w) := by decide
theorem gR_P_8 {μ : zS} {w : Nat} (h : zFr μ) (hw : w < 7) : zgR μ 3 (some (18 + 3 * w)) 8 = some (some (20 + 3 * w)) := gR_L h (lay_P _ hw) (by omega) (by decide) (by omega) (rr_P_8 _ hw)
theorem lay_P_8 : ∀ w, w < 7 → zL0[20 + 3 * w]? = some (.inl (.int, 6)) := by decide
theorem aI_P_8 {μ : zS} {w j : Nat} (h : zFr μ) (hw : w < 7) (hj : j < 6) : zaI μ .int (some (20 + 3 * w)) (nI j) = some (μ.2.1 (20 + 3 * w) j) := aI_L h (lay_P_8 _ hw) hj (by decide)
theorem sI_P_8 {μ : zS} {w j : Nat} {v : Int32} (h : zFr μ) (hw : w < 7) (hj : j < 6) : zsI μ (some (20 + 3 * w)) (nI j) v = some (zuI μ (20 + 3 * w) j v) := sI_L h (lay_P_8 _ hw) hj (by decide)
theorem lay_T : ∀ t, t < 6 → zL0[39 + 4 * t]? = some (.inr 7) := by decide
theorem fo_T {μ : zS} {t : Nat} (h : zFr μ) (hw : t < 6) : zob μ 7 (some (39 + 4 * t)) = some (39 + 4 * t) := zob_L h (lay_T _ hw)
theorem gI_T {μ : zS} {t q : Nat} (h : zFr μ) (hw : t < 6) : zgI μ 7 (some (39 + 4 * t)) q = some (μ.2.1 (39 + 4 * t) q) := gI_L h (lay_T _ hw)
theorem pI_T {μ : zS} {t q : Nat} {v : Int32} (h : zFr μ) (hw : t < 6) : zpI μ 7 (some (39 + 4 * t)) q v = some (zuI μ (39 + 4 * t) q v) := pI_L h (lay_T _ hw)
theorem rr_T_0 : ∀ t, t < 6 → zR0 (39 + 4 * t) 0 = some (40 + 4 * t) := by decide
theorem gR_T_0 {μ : zS} {t : Nat} (h : zFr μ) (hw : t < 6) : zgR μ 7 (some (39 + 4 * t)) 0 = some (some (40 + 4 * t)) := gR_L h (lay_T _ hw) (by omega) (by decide) (by omega) (rr_T_0 _ hw)
theorem lay_T_0 : ∀ t, t < 6 → zL0[40 + 4 * t]? = some (.inl (.int, 160)) := by decide
theorem aI_T_0 {μ : zS} {t j : Nat} (h : zFr μ) (hw : t < 6) (hj : j < 160) : zaI μ .int (some (40 + 4 * t)) (nI j) = some (μ.2.1 (40 + 4 * t) j) := aI_L h (lay_T_0 _ hw) hj (by decide)
theorem sI_T_0 {μ : zS} {t j : Nat} {v : Int32} (h : zFr μ) (hw : t < 6) (hj : j < 160) : zsI μ (some (40 + 4 * t)) (nI j) v = some (zuI μ (40 + 4 * t) j v) := sI_L h (lay_T_0 _ hw) hj (by decide)
theorem rr_T_2 : ∀ t, t < 6 → zR0 (39 + 4 * t) 2 = some (41 + 4 * t) := by decide
theorem gR_T_2 {μ : zS} {t : Nat} (h : zFr μ) (hw : t < 6) : zgR μ 7 (some (39 + 4 * t)) 2 = some (some (41 + 4 * t)) := gR_L h (lay_T _ hw) (by omega) (by decide) (by omega) (rr_T_2 _ hw)
theorem lay_T_2 : ∀ t, t < 6 → zL0[41 + 4 * t]? = some (.inl (.int, 3)) := by decide
theorem aI_T_2 {μ : zS} {t j : Nat} (h : zFr μ) (hw : t < 6) (hj : j < 3) : zaI μ .int (some (41 + 4 * t)) (nI j) = some (μ.2.1 (41 + 4 * t) j) := aI_L h (lay_T_2 _ hw) hj (by decide)
theorem sI_T_2 {μ : zS} {t j : Nat} {v : Int32} (h : zFr μ) (hw : t < 6) (hj : j < 3) : zsI μ (some (41 + 4 * t)) (nI j) v = some (zuI μ (41 + 4 * t) j v) := sI_L h (lay_T_2 _ hw) hj (by decide)
theorem rr_T_3 : ∀ t, t < 6 → zR0 (39 + 4 * t) 3 = some (42 + 4 * t) := by decide
theorem gR_T_3 {μ : zS} {t : Nat} (h : zFr μ) (hw : t < 6) : zgR μ 7 (some (39 + 4 * t)) 3 = some (some (42 + 4 * t)) := gR_L h (lay_T _ hw) (by omega) (by decide) (by omega) (rr_T_3 _ hw)
theorem lay_T_3 : ∀ t, t < 6 → zL0[42 + 4 * t]? = some (.inl (.int, 40)) := by decide
theorem aI_T_3 {μ : zS} {t j : Nat} (h : zFr μ) (hw : t < 6) (hj : j < 40) : zaI μ .int (some (42 + 4 * t)) (nI j) = some (μ.2.1 (42 + 4 * t) j) := aI_L h (lay_T_3 _ hw) hj (by decide)
theorem sI_T_3 {μ : zS} {t j : Nat} {v : Int32} (h : zFr μ) (hw : t < 6) (hj : j < 40) : zsI μ (some (42 + 4 * t)) (nI j) v = some (zuI μ (42 + 4 * t) j v) := sI_L h (lay_T_3 _ hw) hj (by decide)
theorem lay_S : ∀ d, d < 4 → zL0[63 + 2 * d]? = some (.inr 6) := by decide
theorem fo_S {μ : zS} {d : Nat} (h : zFr μ) (hw : d < 4) : zob μ 6 (some (63 + 2 * d)) = some (63 + 2 * d) := zob_L h (lay_S _ hw)
theorem gI_S {μ : zS} {d q : Nat} (h : zFr μ) (hw : d < 4) : zgI μ 6 (some (63 + 2 * d)) q = some (μ.2.1 (63 + 2 * d) q) := gI_L h (lay_S _ hw)
theorem pI_S {μ : zS} {d q : Nat} {v : Int32} (h : zFr μ) (hw : d < 4) : zpI μ 6 (some (63 + 2 * d)) q v = some (zuI μ (63 + 2 * d) q v) := pI_L h (lay_S _ hw)
theorem rr_S_2 : ∀ d, d < 4 → zR0 (63 + 2 * d) 2 = some (64 + 2 * d) := by decide
theorem gR_S_2 {μ : zS} {d : Nat} (h : zFr μ) (hw : d < 4) : zgR μ 6 (some (63 + 2 * d)) 2 = some (some (64 + 2 * d)) := gR_L h (lay_S _ hw) (by omega) (by decide) (by omega) (rr_S_2 _ hw)
theorem lay_S_2 : ∀ d, d < 4 → zL0[64 + 2 * d]? = some (.inl (.int, 40)) := by decide
theorem aI_S_2 {μ : zS} {d j : Nat} (h : zFr μ) (hw : d < 4) (hj : j < 40) : zaI μ .int (some (64 + 2 * d)) (nI j) = some (μ.2.1 (64 + 2 * d) j) := aI_L h (lay_S_2 _ hw) hj (by decide)
theorem sI_S_2 {μ : zS} {d j : Nat} {v : Int32} (h : zFr μ) (hw : d < 4) (hj : j < 40) : zsI μ (some (64 + 2 * d)) (nI j) v = some (zuI μ (64 + 2 * d) j v) := sI_L h (lay_S_2 _ hw) hj (by decide)
theorem ra_3 : ∀ w, w < 7 → zR0 3 w = some (18 + 3 * w) := by decide
theorem aR_3 {μ : zS} {w : Nat} (h : zFr μ) (hw : w < 7) : zaR μ "PostsFilled$Person" (some 3) (nI w) = some (some (18 + 3 * w)) := aR_L h rfl hw (by decide) (by decide) (ra_3 _ hw)
theorem ra_4 : ∀ w, w < 6 → zR0 4 w = some (39 + 4 * w) := by decide
theorem aR_4 {μ : zS} {w : Nat} (h : zFr μ) (hw : w < 6) : zaR μ "PostsFilled$Text" (some 4) (nI w) = some (some (39 + 4 * w)) := aR_L h rfl hw (by decide) (by decide) (ra_4 _ hw)
theorem ra_17 : ∀ w, w < 4 → zR0 17 w = some (63 + 2 * w) := by decide
theorem aR_17 {μ : zS} {w : Nat} (h : zFr μ) (hw : w < 4) : zaR μ "PostsFilled$Sheet" (some 17) (nI w) = some (some (63 + 2 * w)) := aR_L h rfl hw (by decide) (by decide) (ra_17 _ hw)
theorem aI_2 {μ : zS} {j : Nat} (h : zFr μ) (hj : j < 6) : zaI μ .int (some 2) (nI j) = some (μ.2.1 2 j) := aI_L h rfl hj (by decide)
theorem sI_2 {μ : zS} {j : Nat} {v : Int32} (h : zFr μ) (hj : j < 6) : zsI μ (some 2) (nI j) v = some (zuI μ 2 j v) := sI_L h rfl hj (by decide)
theorem aI_5 {μ : zS} {j : Nat} (h : zFr μ) (hj : j < 6) : zaI μ .int (some 5) (nI j) = some (μ.2.1 5 j) := aI_L h rfl hj (by decide)
theorem sI_5 {μ : zS} {j : Nat} {v : Int32} (h : zFr μ) (hj : j < 6) : zsI μ (some 5) (nI j) v = some (zuI μ 5 j v) := sI_L h rfl hj (by decide)
theorem aI_7 {μ : zS} {j : Nat} (h : zFr μ) (hj : j < 6) : zaI μ .int (some 7) (nI j) = some (μ.2.1 7 j) := aI_L h rfl hj (by decide)
theorem sI_7 {μ : zS} {j : Nat} {v : Int32} (h : zFr μ) (hj : j < 6) : zsI μ (some 7) (nI j) v = some (zuI μ 7 j v) := sI_L h rfl hj (by decide)
theorem aI_8 {μ : zS} {j : Nat} (h : zFr μ) (hj : j < 64) : zaI μ .int (some 8) (nI j) = some (μ.2.1 8 j) := aI_L h rfl hj (by decide)
theorem sI_8 {μ : zS} {j : Nat} {v : Int32} (h : zFr μ) (hj : j < 64) : zsI μ (some 8) (nI j) v = some (zuI μ 8 j v) := sI_L h rfl hj (by decide)
theorem aI_10 {μ : zS} {j : Nat} (h : zFr μ) (hj : j < 42) : zaI μ .int (some 10) (nI j) = some (μ.2.1 10 j) := aI_L h rfl hj (by decide)
theorem sI_10 {μ : zS} {j : Nat} {v : Int32} (h : zFr μ) (hj : j < 42) : zsI μ (some 10) (nI j) v = some (zuI μ 10 j v) := sI_L h rfl hj (by decide)
theorem aI_11 {μ : zS} {j : Nat} (h : zFr μ) (hj : j < 896) : zaI μ .int (some 11) (nI j) = some (μ.2.1 11 j) := aI_L h rfl hj (by decide)
theorem sI_11 {μ : zS} {j : Nat} {v : Int32} (h : zFr μ) (hj : j < 896) : zsI μ (some 11) (nI j) v = some (zuI μ 11 j v) := sI_L h rfl hj (by decide)
theorem aI_12 {μ : zS} {j : Nat} (h : zFr μ) (hj : j < 6) : zaI μ .int (some 12) (nI j) = some (μ.2.1 12 j) := aI_L h rfl hj (by decide)
theorem sI_12 {μ : zS} {j : Nat} {v : Int32} (h : zFr μ) (hj : j < 6) : zsI μ (some 12) (nI j) v = some (zuI μ 12 j v) := sI_L h rfl hj (by decide)
theorem aI_14 {μ : zS} {j : Nat} (h : zFr μ) (hj : j < 42) : zaI μ .int (some 14) (nI j) = some (μ.2.1 14 j) := aI_L h rfl hj (by decide)
theorem sI_14 {μ : zS} {j : Nat} {v : Int32} (h : zFr μ) (hj : j < 42) : zsI μ (some 14) (nI j) v = some (zuI μ 14 j v) := sI_L h rfl hj (by decide)
theorem aI_15 {μ : zS} {j : Nat} (h : zFr μ) (hj : j < 42) : zaI μ .int (some 15) (nI j) = some (μ.2.1 15 j) := aI_L h rfl hj (by decide)
theorem sI_15 {μ : zS} {j : Nat} {v : Int32} (h : zFr μ) (hj : j < 42) : zsI μ (some 15) (nI j) v = some (zuI μ 15 j v) := sI_L h rfl hj (by decide)
theorem aI_72 {μ : zS} {j : Nat} (h : zFr μ) (hj : j < 160) : zaI μ .int (some 72) (nI j) = some (μ.2.1 72 j) := aI_L h rfl hj (by decide)
theorem sI_72 {μ : zS} {j : Nat} {v : Int32} (h : zFr μ) (hj : j < 160) : zsI μ (some 72) (nI j) v = some (zuI μ 72 j v) := sI_L h rfl hj (by decide)
theorem aI_74 {μ : zS} {j : Nat} (h : zFr μ) (hj : j < 6) : zaI μ .boolean (some 74) (nI j) = some (μ.2.1 74 j) := aI_L h rfl hj (by decide)
theorem sZ_74 {μ : zS} {j : Nat} {v : Int32} (h : zFr μ) (hj : j < 6) (hv : v = 0 ∨ v = 1) : zsZ μ (some 74) (nI j) v = some (zuI μ 74 j v) := sZ_L h rfl hj (by decide) hv
theorem aI_75 {μ : zS} {j : Nat} (h : zFr μ) (hj : j < 6) : zaI μ .int (some 75) (nI j) = some (μ.2.1 75 j) := aI_L h rfl hj (by decide)
theorem sI_75 {μ : zS} {j : Nat} {v : Int32} (h : zFr μ) (hj : j < 6) : zsI μ (some 75) (nI j) v = some (zuI μ 75 j v) := sI_L h rfl hj (by decide)
theorem aI_76 {μ : zS} {j : Nat} (h : zFr μ) (hj : j < 7) : zaI μ .int (some 76) (nI j) = some (μ.2.1 76 j) := aI_L h rfl hj (by decide)
theorem sI_76 {μ : zS} {j : Nat} {v : Int32} (h : zFr μ) (hj : j < 7) : zsI μ (some 76) (nI j) v = some (zuI μ 76 j v) := sI_L h rfl hj (by decide)
theorem aI_77 {μ : zS} {j : Nat} (h : zFr μ) (hj : j < 7) : zaI μ .int (some 77) (nI j) = some (μ.2.1 77 j) := aI_L h rfl hj (by decide)
theorem sI_77 {μ : zS} {j : Nat} {v : Int32} (h : zFr μ) (hj : j < 7) : zsI μ (some 77) (nI j) v = some (zuI μ 77 j v) := sI_L h rfl hj (by decide)
theorem aI_78 {μ : zS} {j : Nat} (h : zFr μ) (hj : j < 7) : zaI μ .int (some 78) (nI j) = some (μ.2.1 78 j) := aI_L h rfl hj (by decide)
theorem sI_78 {μ : zS} {j : Nat} {v : Int32} (h : zFr μ) (hj : j < 7) : zsI μ (some 78) (nI j) v = some (zuI μ 78 j v) := sI_L h rfl hj (by decide)
theorem aI_79 {μ : zS} {j : Nat} (h : zFr μ) (hj : j < 7) : zaI μ .int (some 79) (nI j) = some (μ.2.1 79 j) := aI_L h rfl hj (by decide)
theorem sI_79 {μ : zS} {j : Nat} {v : Int32} (h : zFr μ) (hj : j < 7) : zsI μ (some 79) (nI j) v = some (zuI μ 79 j v) := sI_L h rfl hj (by decide)
theorem aI_80 {μ : zS} {j : Nat} (h : zFr μ) (hj : j < 7) : zaI μ .int (some 80) (nI j) = some (μ.2.1 80 j) := aI_L h rfl hj (by decide)
theorem sI_80 {μ : zS} {j : Nat} {v : Int32} (h : zFr μ) (hj : j < 7) : zsI μ (some 80) (nI j) v = some (zuI μ 80 j v) := sI_L h rfl hj (by decide)
theorem aI_81 {μ : zS} {j : Nat} (h : zFr μ) (hj : j < 42) : zaI μ .int (some 81) (nI j) = some (μ.2.1 81 j) := aI_L h rfl hj (by decide)
theorem sI_81 {μ : zS} {j : Nat} {v : Int32} (h : zFr μ) (hj : j < 42) : zsI μ (some 81) (nI j) v = some (zuI μ 81 j v) := sI_L h rfl hj (by decide)
theorem aI_82 {μ : zS} {j : Nat} (h : zFr μ) (hj : j < 42) : zaI μ .boolean (some 82) (nI j) = some (μ.2.1 82 j) := aI_L h rfl hj (by decide)
theorem sZ_82 {μ : zS} {j : Nat} {v : Int32} (h : zFr μ) (hj : j < 42) (hv : v = 0 ∨ v = 1) : zsZ μ (some 82) (nI j) v = some (zuI μ 82 j v) := sZ_L h rfl hj (by decide) hv
theorem aI_83 {μ : zS} {j : Nat} (h : zFr μ) (hj : j < 42) : zaI μ .boolean (some 83) (nI j) = some (μ.2.1 83 j) := aI_L h rfl hj (by decide)
theorem sZ_83 {μ : zS} {j : Nat} {v : Int32} (h : zFr μ) (hj : j < 42) (hv : v = 0 ∨ v = 1) : zsZ μ (some 83) (nI j) v = some (zuI μ 83 j v) := sZ_L h rfl hj (by decide) hv
theorem aI_84 {μ : zS} {j : Nat} (h : zFr μ) (hj : j < 160) : zaI μ .int (some 84) (nI j) = some (μ.2.1 84 j) := aI_L h rfl hj (by decide)
theorem sI_84 {μ : zS} {j : Nat} {v : Int32} (h : zFr μ) (hj : j < 160) : zsI μ (some 84) (nI j) v = some (zuI μ 84 j v) := sI_L h rfl hj (by decide)
theorem aI_85 {μ : zS} {j : Nat} (h : zFr μ) (hj : j < 3570) : zaI μ .int (some 85) (nI j) = some (μ.2.1 85 j) := aI_L h rfl hj (by decide)
theorem sI_85 {μ : zS} {j : Nat} {v : Int32} (h : zFr μ) (hj : j < 3570) : zsI μ (some 85) (nI j) v = some (zuI μ 85 j v) := sI_L h rfl hj (by decide)
theorem aI_86 {μ : zS} {j : Nat} (h : zFr μ) (hj : j < 21) : zaI μ .int (some 86) (nI j) = some (μ.2.1 86 j) := aI_L h rfl hj (by decide)
theorem sI_86 {μ : zS} {j : Nat} {v : Int32} (h : zFr μ) (hj : j < 21) : zsI μ (some 86) (nI j) v = some (zuI μ 86 j v) := sI_L h rfl hj (by decide)
theorem aI_87 {μ : zS} {j : Nat} (h : zFr μ) (hj : j < 21) : zaI μ .int (some 87) (nI j) = some (μ.2.1 87 j) := aI_L h rfl hj (by decide)
theorem sI_87 {μ : zS} {j : Nat} {v : Int32} (h : zFr μ) (hj : j < 21) : zsI μ (some 87) (nI j) v = some (zuI μ 87 j v) := sI_L h rfl hj (by decide)
theorem aI_88 {μ : zS} {j : Nat} (h : zFr μ) (hj : j < 60) : zaI μ .char (some 88) (nI j) = some (μ.2.1 88 j) := aI_L h rfl hj (by decide)
theorem aI_89 {μ : zS} {j : Nat} (h : zFr μ) (hj : j < 170) : zaI μ .int (some 89) (nI j) = some (μ.2.1 89 j) := aI_L h rfl hj (by decide)
theorem sI_89 {μ : zS} {j : Nat} {v : Int32} (h : zFr μ) (hj : j < 170) : zsI μ (some 89) (nI j) v = some (zuI μ 89 j v) := sI_L h rfl hj (by decide)
theorem aI_90 {μ : zS} {j : Nat} (h : zFr μ) (hj : j < 6) : zaI μ .int (some 90) (nI j) = some (μ.2.1 90 j) := aI_L h rfl hj (by decide)
theorem sI_90 {μ : zS} {j : Nat} {v : Int32} (h : zFr μ) (hj : j < 6) : zsI μ (some 90) (nI j) v = some (zuI μ 90 j v) := sI_L h rfl hj (by decide)
theorem aI_91 {μ : zS} {j : Nat} (h : zFr μ) (hj : j < 7) : zaI μ .int (some 91) (nI j) = some (μ.2.1 91 j) := aI_L h rfl hj (by decide)
theorem sI_91 {μ : zS} {j : Nat} {v : Int32} (h : zFr μ) (hj : j < 7) : zsI μ (some 91) (nI j) v = some (zuI μ 91 j v) := sI_L h rfl hj (by decide)
theorem aI_92 {μ : zS} {j : Nat} (h : zFr μ) (hj : j < 42) : zaI μ .int (some 92) (nI j) = some (μ.2.1 92 j) := aI_L h rfl hj (by decide)
theorem sI_92 {μ : zS} {j : Nat} {v : Int32} (h : zFr μ) (hj : j < 42) : zsI μ (some 92) (nI j) v = some (zuI μ 92 j v) := sI_L h rfl hj (by decide)
theorem aI_93 {μ : zS} {j : Nat} (h : zFr μ) (hj : j < 6) : zaI μ .int (some 93) (nI j) = some (μ.2.1 93 j) := aI_L h rfl hj (by decide)
theorem sI_93 {μ : zS} {j : Nat} {v : Int32} (h : zFr μ) (hj : j < 6) : zsI μ (some 93) (nI j) v = some (zuI μ 93 j v) := sI_L h rfl hj (by decide)
theorem aI_94 {μ : zS} {j : Nat} (h : zFr μ) (hj : j < 6) : zaI μ .int (some 94) (nI j) = some (μ.2.1 94 j) := aI_L h rfl hj (by decide)
theorem sI_94 {μ : zS} {j : Nat} {v : Int32} (h : zFr μ) (hj : j < 6) : zsI μ (some 94) (nI j) v = some (zuI μ 94 j v) := sI_L h rfl hj (by decide)
theorem aI_95 {μ : zS} {j : Nat} (h : zFr μ) (hj : j < 42) : zaI μ .int (some 95) (nI j) = some (μ.2.1 95 j) := aI_L h rfl hj (by decide)
theorem sI_95 {μ : zS} {j : Nat} {v : Int32} (h : zFr μ) (hj : j < 42) : zsI μ (some 95) (nI j) v = some (zuI μ 95 j v) := sI_L h rfl hj (by decide)
theorem aI_96 {μ : zS} {j : Nat} (h : zFr μ) (hj : j < 42) : zaI μ .boolean (some 96) (nI j) = some (μ.2.1 96 j) := aI_L h rfl hj (by decide)
theorem sZ_96 {μ : zS} {j : Nat} {v : Int32} (h : zFr μ) (hj : j < 42) (hv : v = 0 ∨ v = 1) : zsZ μ (some 96) (nI j) v = some (zuI μ 96 j v) := sZ_L h rfl hj (by decide) hv
theorem aI_97 {μ : zS} {j : Nat} (h : zFr μ) (hj : j < 42) : zaI μ .boolean (some 97) (nI j) = some (μ.2.1 97 j) := aI_L h rfl hj (by decide)
theorem sZ_97 {μ : zS} {j : Nat} {v : Int32} (h : zFr μ) (hj : j < 42) (hv : v = 0 ∨ v = 1) : zsZ μ (some 97) (nI j) v = some (zuI μ 97 j v) := sZ_L h rfl hj (by decide) hv
theorem aI_98 {μ : zS} {j : Nat} (h : zFr μ) (hj : j < 7) : zaI μ .int (some 98) (nI j) = some (μ.2.1 98 j) := aI_L h rfl hj (by decide)
theorem sI_98 {μ : zS} {j : Nat} {v : Int32} (h : zFr μ) (hj : j < 7) : zsI μ (some 98) (nI j) v = some (zuI μ 98 j v) := sI_L h rfl hj (by decide)
theorem aI_99 {μ : zS} {j : Nat} (h : zFr μ) (hj : j < 4) : zaI μ .int (some 99) (nI j) = some (μ.2.1 99 j) := aI_L h rfl hj (by decide)
theorem sI_99 {μ : zS} {j : Nat} {v : Int32} (h : zFr μ) (hj : j < 4) : zsI μ (some 99) (nI j) v = some (zuI μ 99 j v) := sI_L h rfl hj (by decide)
theorem aI_100 {μ : zS} {j : Nat} (h : zFr μ) (hj : j < 4) : zaI μ .int (some 100) (nI j) = some (μ.2.1 100 j) := aI_L h rfl hj (by decide)
theorem sI_100 {μ : zS} {j : Nat} {v : Int32} (h : zFr μ) (hj : j < 4) : zsI μ (some 100) (nI j) v = some (zuI μ 100 j v) := sI_L h rfl hj (by decide)
theorem aI_101 {μ : zS} {j : Nat} (h : zFr μ) (hj : j < 160) : zaI μ .int (some 101) (nI j) = some (μ.2.1 101 j) := aI_L h rfl hj (by decide)
theorem sI_101 {μ : zS} {j : Nat} {v : Int32} (h : zFr μ) (hj : j < 160) : zsI μ (some 101) (nI j) v = some (zuI μ 101 j v) := sI_L h rfl hj (by decide)
theorem aI_102 {μ : zS} {j : Nat} (h : zFr μ) (hj : j < 40) : zaI μ .int (some 102) (nI j) = some (μ.2.1 102 j) := aI_L h rfl hj (by decide)
theorem sI_102 {μ : zS} {j : Nat} {v : Int32} (h : zFr μ) (hj : j < 40) : zsI μ (some 102) (nI j) v = some (zuI μ 102 j v) := sI_L h rfl hj (by decide)
theorem aI_103 {μ : zS} {j : Nat} (h : zFr μ) (hj : j < 17) : zaI μ .int (some 103) (nI j) = some (μ.2.1 103 j) := aI_L h rfl hj (by decide)
theorem sI_103 {μ : zS} {j : Nat} {v : Int32} (h : zFr μ) (hj : j < 17) : zsI μ (some 103) (nI j) v = some (zuI μ 103 j v) := sI_L h rfl hj (by decide)
theorem aJ_16 {μ : zS} {j : Nat} (h : zFr μ) (hj : j < 42) : zaJ μ (some 16) (nI j) = some (μ.2.2.1 16 j) := aJ_L h rfl hj (by decide)
theorem sJ_16 {μ : zS} {j : Nat} {v : Int64} (h : zFr μ) (hj : j < 42) : zsJ μ (some 16) (nI j) v = some (zuJ μ 16 j v) := sJ_L h rfl hj (by decide)
