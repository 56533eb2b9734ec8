-- ===== what holds between the calls =====
def z00 : zS := ([], fun _ _ => 0, fun _ _ => 0, fun _ _ => none)
/-- a number from 0 to m -/
def zRg (x : Int32) (m : Nat) : Prop := x.toNatClampNeg ≤ m ∧ x = nI x.toNatClampNeg
/-- an act of the reference's, as a step of the class's -/
def ztr (a : Int32) : Int32 := if a < (-99) then (if a = (-100) then 20001 else if a = (-101) then 20000 else if a = (-103) then 20002 else if a = (-102) then 20003 else if a = (-160) then 20004 else if a = (-161) then 20005 else if a = (-143) then 20006 else if a = (-145) then 20007 else 20008) else if a < 0 then 9999 - a else a
/-- how deep the pile is behind some acts; none: they aren't right -/
def zrun : List Int32 → Nat → Option Nat
  | [], d => some d
  | a :: l, d => if (-6) ≤ a ∧ a ≤ 9999 then (if d < 40 then zrun l (d + 1) else none) else if a = (-100) ∨ a = (-101) then (if 1 ≤ d then zrun l d else none)
    else if a = (-102) ∨ a = (-103) ∨ a = (-160) ∨ a = (-161) ∨ a = (-143) ∨ a = (-145) ∨ a = (-142) then (if 2 ≤ d then zrun l (d - 1) else none) else none
def zP (n : Nat) (e : Nat → Nat → Int32) : Prop := n ≤ 6 ∧ e 1 0 = nI n ∧ e 73 1 = nI n ∧ (∀ q, q < 6 → e 74 q = 0 ∨ e 74 q = 1) ∧ (∀ q, q < 6 → n ≤ q → e 74 q = 0) ∧ zRg (e 1 1) 63 ∧ (∀ q, q < 6 → (e 1 1).toNatClampNeg.testBit q = decide (e 74 q = 1)) ∧ ∀ q, q < 6 → q < n → e 2 q = e 75 q ∧ zRg (e 75 q) 99
def zPe (n p : Nat) (e : Nat → Nat → Int32) : Prop := p ≤ 7 ∧ e 0 2 = nI p ∧ e 73 4 = nI p ∧ ∀ w, w < 7 → w < p → e (18 + 3 * w) 0 = e 76 w ∧ zRg (e 76 w) 5 ∧ e (18 + 3 * w) 1 = e 77 w ∧ zRg (e 77 w) 5 ∧ (e 77 w).toNatClampNeg < n ∧ e (18 + 3 * w) 2 = e 78 w ∧ zRg (e 78 w) 9 ∧ e (18 + 3 * w) 3 = e 79 w ∧ zRg (e 79 w) 9
def zAs (p c : Nat) (e : Nat → Nat → Int32) : Prop := ∀ w, w < 7 → e (18 + 3 * w) 4 = e 80 w ∧ zRg (e 80 w) (6 * c) ∧ (p ≤ w → e 80 w = 0)
/-- what was taught: the class's rows against the reference's -/
def zTb (n : Nat) (lx t s : Int32) (q : Nat) : Prop := (t = 0 ∧ lx = (-1)) ∨ (t = 1 ∧ lx = s ∧ zRg s 99 ∧ q < n)
def zTa (n p : Nat) (e : Nat → Nat → Int32) : Prop := ∀ w, w < 7 → ∀ q, q < 6 → zTb n (e (19 + 3 * w) q) (e 82 (6 * w + q)) (e 81 (6 * w + q)) q ∧ (p ≤ w → e 82 (6 * w + q) = 0)
def zBb (bx : Int32) (b : Nat → Int32) : Prop := zRg bx 63 ∧ ∀ q, q < 6 → (b q = 0 ∨ b q = 1) ∧ bx.toNatClampNeg.testBit q = decide (b q = 1)
def zBa (p : Nat) (e : Nat → Nat → Int32) : Prop := ∀ w, w < 7 → zBb (e (18 + 3 * w) 6) (fun q => e 83 (6 * w + q)) ∧ (p ≤ w → e (18 + 3 * w) 6 = 0)
def zYr (yr : Nat) (e : Nat → Nat → Int32) : Prop := yr ≤ 99 ∧ e 1 3 = nI yr ∧ e 73 10 = nI yr
def zTp (tp : Nat) (e : Nat → Nat → Int32) : Prop := tp ≤ 160 ∧ e 71 0 = nI tp ∧ e 73 15 = nI tp ∧ ∀ k, k < 160 → k < tp → e 72 k = e 84 k ∧ zRg (e 84 k) 255
/-- a part of a text: its steps, its acts -/
def zPt (e : Nat → Nat → Int32) (t part : Nat) (s0 s1 f0 f1 : Nat) : Prop := s0 ≤ s1 ∧ s1 ≤ 160 ∧ 510 * t ≤ f0 ∧ f1 = f0 + (s1 - s0) ∧ f1 ≤ 510 * (t + 1) ∧ (∀ j, j < 160 → j < s1 - s0 → e (40 + 4 * t) (s0 + j) = ztr (e 85 (f0 + j))) ∧ zrun ((List.range (s1 - s0)).map (fun j => e 85 (f0 + j))) 0 = some 1
def zTt (e : Nat → Nat → Int32) (t : Nat) : Prop := ∀ part, part < 3 → zRg (e (41 + 4 * t) part) 160 ∧ zRg (e 86 (3 * t + part)) 3060 ∧ zRg (e 87 (3 * t + part)) 3060 ∧ zPt e t part (if part = 0 then 0 else (e (41 + 4 * t) (part - 1)).toNatClampNeg) (e (41 + 4 * t) part).toNatClampNeg (e 86 (3 * t + part)).toNatClampNeg (e 87 (3 * t + part)).toNatClampNeg
def zTx (tx rl : Nat) (e : Nat → Nat → Int32) : Prop := 1 ≤ tx ∧ tx ≤ 6 ∧ e 0 5 = nI tx ∧ e 73 16 = nI tx ∧ rl < tx ∧ e 0 6 = nI rl ∧ e 73 17 = nI rl ∧ ∀ t, t < 6 → t < tx → zTt e t
def zIm (n p tx c : Nat) (e : Nat → Nat → Int32) : Prop := e 0 12 = e 73 41 ∧ (e 0 12 = 0 ∨ e 0 12 = 1) ∧ (e 0 12 = 1 → e 0 13 = e 73 43 ∧ zRg (e 73 43) 99 ∧ e 0 14 = e 73 44 ∧ zRg (e 73 44) 5 ∧ (e 73 44).toNatClampNeg < tx ∧ e 0 15 = e 73 42 ∧ zRg (e 73 42) 7 ∧ (e 73 42).toNatClampNeg ≤ p ∧
  ∀ w, w < 7 → w < (e 73 42).toNatClampNeg → e (18 + 3 * w) 7 = e 98 w ∧ zRg (e 98 w) (6 * c) ∧ zBb (e (18 + 3 * w) 9) (fun q => e 97 (6 * w + q)) ∧ ∀ q, q < 6 → zTb n (e (20 + 3 * w) q) (e 96 (6 * w + q)) (e 95 (6 * w + q)) q)
def zSh (e : Nat → Nat → Int32) : Prop := ∀ d, d < 4 → e (63 + 2 * d) 0 = e 99 d ∧ (e 99 d = (-1) ∨ e 99 d = 0 ∨ e 99 d = 1 ∨ e 99 d = 2) ∧ e (63 + 2 * d) 1 = e 100 d ∧ zRg (e 100 d) 40 ∧ ∀ k, k < 40 → e (64 + 2 * d) k = e 101 (40 * d + k)
def zLt (e : Nat → Nat → Int32) : Prop := e 8 0 = 0 ∧ ∀ k, k < 60 → e 88 k = (zbyt.getD 1 []).getD k 0
/-- all of it: posts, people, years, texts, the rule, bytes of the tape, calls so far -/
def zRel (n p yr tx rl tp c : Nat) (e : Nat → Nat → Int32) : Prop := zP n e ∧ zPe n p e ∧ zAs p c e ∧ zTa n p e ∧ zBa p e ∧ zYr yr e ∧ zTp tp e ∧ zTx tx rl e ∧ zIm n p tx c e ∧ zSh e ∧ zLt e
def zSt (n p yr tx rl tp c : Nat) (μ : zS) : Prop := zFr μ ∧ zRel n p yr tx rl tp c μ.2.1
/-- the places that matter -/
def zess (tx a k : Nat) : Prop := (a = 0 ∧ (k = 2 ∨ k = 5 ∨ k = 6 ∨ 12 ≤ k ∧ k ≤ 15)) ∨ (a = 1 ∧ (k = 0 ∨ k = 1 ∨ k = 3)) ∨ a = 2 ∨ (18 ≤ a ∧ a ≤ 38) ∨ (39 ≤ a ∧ a ≤ 62 ∧ (a - 39) % 4 ≠ 3 ∧ (a - 39) / 4 < tx) ∨ (63 ≤ a ∧ a ≤ 70) ∨ (a = 71 ∧ k = 0) ∨ a = 72 ∨
  (a = 73 ∧ (k = 1 ∨ k = 4 ∨ k = 10 ∨ 15 ≤ k ∧ k ≤ 17 ∨ 41 ≤ k ∧ k ≤ 44)) ∨ (74 ≤ a ∧ a ≤ 84) ∨ (a = 85 ∧ k < 510 * tx) ∨ ((a = 86 ∨ a = 87) ∧ k < 3 * tx) ∨ a = 88 ∨ (95 ≤ a ∧ a ≤ 101) ∨ (a = 8 ∧ k = 0)
def dRg (x : Int32) (m : Nat) : Decidable (zRg x m) := by unfold zRg; infer_instance
def dFr (μ : zS) : Decidable (zFr μ) := by unfold zFr; infer_instance
def dP (n : Nat) (e : Nat → Nat → Int32) : Decidable (zP n e) := by haveI := dRg; unfold zP; infer_instance
def dPe (n p : Nat) (e : Nat → Nat → Int32) : Decidable (zPe n p e) := by haveI := dRg; unfold zPe; infer_instance
def dAs (p c : Nat) (e : Nat → Nat → Int32) : Decidable (zAs p c e) := by haveI := dRg; unfold zAs; infer_instance
def dTb (n : Nat) (lx t s : Int32) (q : Nat) : Decidable (zTb n lx t s q) := by haveI := dRg; unfold zTb; infer_instance
def dTa (n p : Nat) (e : Nat → Nat → Int32) : Decidable (zTa n p e) := by haveI := dTb; unfold zTa; infer_instance
def dBb (bx : Int32) (b : Nat → Int32) : Decidable (zBb bx b) := by haveI := dRg; unfold zBb; infer_instance
def dBa (p : Nat) (e : Nat → Nat → Int32) : Decidable (zBa p e) := by haveI := dBb; unfold zBa; infer_instance
def dYr (yr : Nat) (e : Nat → Nat → Int32) : Decidable (zYr yr e) := by unfold zYr; infer_instance
def dTp (tp : Nat) (e : Nat → Nat → Int32) : Decidable (zTp tp e) := by haveI := dRg; unfold zTp; infer_instance
def dPt (e : Nat → Nat → Int32) (t part s0 s1 f0 f1 : Nat) : Decidable (zPt e t part s0 s1 f0 f1) := by unfold zPt; infer_instance
def dTt (e : Nat → Nat → Int32) (t : Nat) : Decidable (zTt e t) := by haveI := dRg; haveI := dPt; unfold zTt; infer_instance
def dTx (tx rl : Nat) (e : Nat → Nat → Int32) : Decidable (zTx tx rl e) := by haveI := dTt; unfold zTx; infer_instance
def dIm (n p tx c : Nat) (e : Nat → Nat → Int32) : Decidable (zIm n p tx c e) := by haveI := dRg; haveI := dTb; haveI := dBb; unfold zIm; infer_instance
def dSh (e : Nat → Nat → Int32) : Decidable (zSh e) := by haveI := dRg; unfold zSh; infer_instance
def dLt (e : Nat → Nat → Int32) : Decidable (zLt e) := by unfold zLt; infer_instance
def dSt (n p yr tx rl tp c : Nat) (μ : zS) : Decidable (zSt n p yr tx rl tp c μ) := by
  haveI := dFr μ; haveI := dP n μ.2.1; haveI := dPe n p μ.2.1; haveI := dAs p c μ.2.1; haveI := dTa n p μ.2.1; haveI := dBa p μ.2.1; haveI := dYr yr μ.2.1; haveI := dTp tp μ.2.1; haveI := dTx tx rl μ.2.1; haveI := dIm n p tx c μ.2.1; haveI := dSh μ.2.1; haveI := dLt μ.2.1
  unfold zSt zRel; infer_instance
theorem zrel0 : (match zStart z00 with | some μ => @decide (zSt 0 0 0 1 0 0 0 μ) (dSt 0 0 0 1 0 0 0 μ) | none => false) = true := by decide +kernel
/-- THE BEGINNING: both constructors come to their ends, and all holds -/
theorem zbegin : ∃ μ, zStart z00 = some μ ∧ zSt 0 0 0 1 0 0 0 μ := by
  have h := zrel0
  cases hs : zStart z00 with
  | none => rw [hs] at h; cases h
  | some μ => rw [hs] at h; exact ⟨μ, rfl, @of_decide_eq_true _ (dSt 0 0 0 1 0 0 0 μ) h⟩
