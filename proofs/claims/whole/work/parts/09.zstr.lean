-- ===== String constants =====
def zch (j : Nat) (i : Int32) : Option Int32 := if ¬ i < 0 ∧ i.toNatClampNeg < zlen.getD j 0 then some ((zbyt.getD j []).getD i.toNatClampNeg 0 &&& 255) else none
section ZR
variable {τ : Type} {g : zG} {y : zY} {d mc ms : Nat} {w : τ → Option Value × zS} {o : τ} {k n pc : Nat} {ls : List (Option Value)} {st : List Value} {μ : zS} {f : Option τ}
theorem zj_strlen0 {idx : Nat} (hl : Cond.methodLink y.1.cls idx zy_String_length.1 ∈ gtbl) (hd : decode y.2.1 pc = .ok (.invokevirtual idx, 3)) (kk : zJ g y d mc ms w o k n (pc + 3) ls (.int 75 :: st) μ f) : zJ g y d mc ms w o k n pc ls (.ref (g.2.2.2.2.2.2.1 0) :: st) μ f := sorry
theorem zj_strlen1 {idx : Nat} (hl : Cond.methodLink y.1.cls idx zy_String_length.1 ∈ gtbl) (hd : decode y.2.1 pc = .ok (.invokevirtual idx, 3)) (kk : zJ g y d mc ms w o k n (pc + 3) ls (.int 60 :: st) μ f) : zJ g y d mc ms w o k n pc ls (.ref (g.2.2.2.2.2.2.1 1) :: st) μ f := sorry
theorem zj_strch0 {idx : Nat} {i : Int32} {f : Int32 → Option τ} (hl : Cond.methodLink y.1.cls idx zy_String_charAt.1 ∈ gtbl) (hd : decode y.2.1 pc = .ok (.invokevirtual idx, 3)) (kk : ∀ v, zJ g y d mc ms w o k n (pc + 3) ls (.int v :: st) μ (f v)) : zJ g y d mc ms w o k n pc ls (.int i :: .ref (g.2.2.2.2.2.2.1 0) :: st) μ ((zch 0 i).bind f) := sorry
theorem zj_strch1 {idx : Nat} {i : Int32} {f : Int32 → Option τ} (hl : Cond.methodLink y.1.cls idx zy_String_charAt.1 ∈ gtbl) (hd : decode y.2.1 pc = .ok (.invokevirtual idx, 3)) (kk : ∀ v, zJ g y d mc ms w o k n (pc + 3) ls (.int v :: st) μ (f v)) : zJ g y d mc ms w o k n pc ls (.int i :: .ref (g.2.2.2.2.2.2.1 1) :: st) μ ((zch 1 i).bind f) := sorry
end ZR
