-- ===== the law's script =====
def zsc (L : Nat) (xs : Nat → Int32) (i : Int32) : Option Int32 := if ¬ i < 0 ∧ i.toNatClampNeg < L then some (xs i.toNatClampNeg) else none
section ZR
variable {τ : Type} {g : zG} {y : zY} {d mc ms : Nat} {w : τ → Option Value × zS} {o : τ} {k n pc : Nat} {ls : List (Option Value)} {st : List Value} {μ : zS} {f : Option τ}
theorem zj_sld {b L : Nat} {xs : Nat → Int32} {i : Int32} {f : Int32 → Option τ} (hO : (b, L, xs) ∈ g.2.2.2.2.1) (hd : decode y.2.1 pc = .ok (.iaload, 1)) (kk : ∀ v, zJ g y d mc ms w o k n (pc + 1) ls (.int v :: st) μ (f v)) : zJ g y d mc ms w o k n pc ls (.int i :: .ref b :: st) μ ((zsc L xs i).bind f) := by
  intro hf p e s m args below meth c H locs A hC hR hS hl hk
  obtain ⟨v, h1, hf2⟩ := zbind_some hf
  unfold zsc at h1
  by_cases hc : ¬ i < 0 ∧ i.toNatClampNeg < L
  · rw [if_pos hc] at h1
    exact va_ti hC.1 hC.2.1 (hC.2.2.2.2.2.2.2.2.2.2.1 _ hO) hS (fun hh => hh.elim hc.1 (fun h4 => by dsimp only at h4; omega)) (v := .int v) (by rw [← Option.some.inj h1]) hd (kk v hf2 p e s m args below meth c H locs A hC hR hS hl hk)
  · rw [if_neg hc] at h1; cases h1
theorem zj_slen {b L : Nat} {xs : Nat → Int32} (hO : (b, L, xs) ∈ g.2.2.2.2.1) (hd : decode y.2.1 pc = .ok (.arraylength, 1)) (kk : zJ g y d mc ms w o k n (pc + 1) ls (.int (nI L) :: st) μ f) : zJ g y d mc ms w o k n pc ls (.ref b :: st) μ f := by
  intro hf p e s m args below meth c H locs A hC hR hS hl hk
  exact va_tlen hC.1 hC.2.1 (hC.2.2.2.2.2.2.2.2.2.2.1 _ hO) hS rfl hd (kk hf p e s m args below meth c H locs A hC hR hS hl hk)
end ZR
