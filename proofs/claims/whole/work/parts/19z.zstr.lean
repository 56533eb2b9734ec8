-- ===== String constants =====
def zch (j : Nat) (i : Int32) : Option Int32 := if ¬ i < 0 ∧ i.toNatClampNeg < zlen.getD j 0 then some ((zbyt.getD j []).getD i.toNatClampNeg 0 &&& 255) else none
section ZR
variable {τ : Type} {g : zG} {y : zY} {d mc ms : Nat} {w : τ → Option Value × zS} {o : τ} {k n pc : Nat} {ls : List (Option Value)} {st : List Value} {μ : zS} {f : Option τ}
theorem zj_strlen0 {idx : Nat} (hl : Cond.methodLink y.1.cls idx zy_String_length.1 ∈ gtbl) (hd : decode y.2.1 pc = .ok (.invokevirtual idx, 3)) (kk : zJ g y d mc ms w o k n (pc + 3) ls (.int 75 :: st) μ f) : zJ g y d mc ms w o k n pc ls (.ref (g.2.2.2.2.2.2.1 0) :: st) μ f := sorry
theorem zj_strlen1 {idx : Nat} (hl : Cond.methodLink y.1.cls idx zy_String_length.1 ∈ gtbl) (hd : decode y.2.1 pc = .ok (.invokevirtual idx, 3)) (kk : zJ g y d mc ms w o k n (pc + 3) ls (.int 60 :: st) μ f) : zJ g y d mc ms w o k n pc ls (.ref (g.2.2.2.2.2.2.1 1) :: st) μ f := sorry
theorem zj_strch0 {idx : Nat} {i : Int32} {f : Int32 → Option τ} (hl : Cond.methodLink y.1.cls idx zy_String_charAt.1 ∈ gtbl) (hd : decode y.2.1 pc = .ok (.invokevirtual idx, 3)) (kk : ∀ v, zJ g y d mc ms w o k n (pc + 3) ls (.int v :: st) μ (f v)) : zJ g y d mc ms w o k n pc ls (.int i :: .ref (g.2.2.2.2.2.2.1 0) :: st) μ ((zch 0 i).bind f) := sorry
theorem zj_strch1 {idx : Nat} {i : Int32} {f : Int32 → Option τ} (hl : Cond.methodLink y.1.cls idx zy_String_charAt.1 ∈ gtbl) (hd : decode y.2.1 pc = .ok (.invokevirtual idx, 3)) (kk : ∀ v, zJ g y d mc ms w o k n (pc + 3) ls (.int v :: st) μ (f v)) : zJ g y d mc ms w o k n pc ls (.int i :: .ref (g.2.2.2.2.2.2.1 1) :: st) μ ((zch 1 i).bind f) := sorry
end ZR
-- ===== Math =====
def zmax (x y : Int32) : Int32 := if x < y then y else x
def zmin (x y : Int32) : Int32 := if y < x then y else x
def zabs (x : Int32) : Int32 := if 0 ≤ x then x else 0 - x
section ZR
variable {τ : Type} {g : zG} {y : zY} {d mc ms : Nat} {w : τ → Option Value × zS} {o : τ} {k n pc : Nat} {ls : List (Option Value)} {st : List Value} {μ : zS} {f : Option τ}
theorem zj_mmax {idx : Nat} {a b : Int32} (hl : Cond.methodLink y.1.cls idx Lib.Math.max.name ∈ gtbl) (h1 : Cond.static Lib.Math.max.name ∈ gtbl) (h2 : Cond.initialized "java/lang/Math" ∈ gtbl) (h3 : Cond.code Lib.Math.max.name Lib.Math.max.code 2 (some .int) ∈ gtbl) (hd1 : 1 ≤ d) (hb : k ≤ mc ∧ n ≤ ms) (h8 : (st.map fun v => v.category).sum ≤ 8) (hd : decode y.2.1 pc = .ok (.invokestatic idx, 3)) (kk : zJ g y d mc ms w o k n (pc + 3) ls (.int (zmax a b) :: st) μ f) : zJ g y d mc ms w o k n pc ls (.int b :: .int a :: st) μ f := by
  intro hf p e s m args below meth c H locs A hC hR hS hlA hk
  have hts := hC.2.2.2.2.2.1
  exact va_mmax hC.1 hC.2.1 (hC.2.2.2.1.trans hlA.1.symm) hC.2.2.2.2.1 (hts _ hl) (hts _ h1) (hts _ h2) (hts _ h3) hd1 (by show _ ≤ 80 * d; omega) hb.1 hb.2 hd (kk hf p e s m args below meth c H locs A hC hR hS hlA hk)
theorem zj_mmin {idx : Nat} {a b : Int32} (hl : Cond.methodLink y.1.cls idx Lib.Math.min.name ∈ gtbl) (h1 : Cond.static Lib.Math.min.name ∈ gtbl) (h2 : Cond.initialized "java/lang/Math" ∈ gtbl) (h3 : Cond.code Lib.Math.min.name Lib.Math.min.code 2 (some .int) ∈ gtbl) (hd1 : 1 ≤ d) (hb : k ≤ mc ∧ n ≤ ms) (h8 : (st.map fun v => v.category).sum ≤ 8) (hd : decode y.2.1 pc = .ok (.invokestatic idx, 3)) (kk : zJ g y d mc ms w o k n (pc + 3) ls (.int (zmin a b) :: st) μ f) : zJ g y d mc ms w o k n pc ls (.int b :: .int a :: st) μ f := by
  intro hf p e s m args below meth c H locs A hC hR hS hlA hk
  have hts := hC.2.2.2.2.2.1
  exact va_mmin hC.1 hC.2.1 (hC.2.2.2.1.trans hlA.1.symm) hC.2.2.2.2.1 (hts _ hl) (hts _ h1) (hts _ h2) (hts _ h3) hd1 (by show _ ≤ 80 * d; omega) hb.1 hb.2 hd (kk hf p e s m args below meth c H locs A hC hR hS hlA hk)
theorem zj_mabs {idx : Nat} {a : Int32} (hl : Cond.methodLink y.1.cls idx Lib.Math.abs.name ∈ gtbl) (h1 : Cond.static Lib.Math.abs.name ∈ gtbl) (h2 : Cond.initialized "java/lang/Math" ∈ gtbl) (h3 : Cond.code Lib.Math.abs.name Lib.Math.abs.code 1 (some .int) ∈ gtbl) (hd1 : 1 ≤ d) (hb : k ≤ mc ∧ n ≤ ms) (h8 : (st.map fun v => v.category).sum ≤ 8) (hd : decode y.2.1 pc = .ok (.invokestatic idx, 3)) (kk : zJ g y d mc ms w o k n (pc + 3) ls (.int (zabs a) :: st) μ f) : zJ g y d mc ms w o k n pc ls (.int a :: st) μ f := by
  intro hf p e s m args below meth c H locs A hC hR hS hlA hk
  have hts := hC.2.2.2.2.2.1
  exact va_mabs hC.1 hC.2.1 (hC.2.2.2.1.trans hlA.1.symm) hC.2.2.2.2.1 (hts _ hl) (hts _ h1) (hts _ h2) (hts _ h3) hd1 (by show _ ≤ 80 * d; omega) hb.1 hb.2 hd (kk hf p e s m args below meth c H locs A hC hR hS hlA hk)
end ZR
