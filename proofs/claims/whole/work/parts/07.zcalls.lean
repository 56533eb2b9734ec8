-- ===== rows =====
def zk {α β γ : Type} (f : α → β → γ) (q : α × β) : γ := f q.1 q.2
theorem zE_uI {g : zG} {μ : zS} {a i n : Nat} {v : Int32} {ty : FieldType} (hz : ∀ (μ : zS), zar g μ a ty = .inl (μ.2.1 a)) : zE g (zuI μ a i v) a (.inl (ty, n)) = .inl (g.2.2.1 ty, n, .inl (upd (μ.2.1 a) i v)) := by
  simp only [zE, hz]
  refine congrArg (fun z => Sum.inl (g.2.2.1 ty, n, Sum.inl z)) ?_
  funext j
  by_cases h : j = i
  · simp [zuI, upd, h]
  · simp [zuI, upd, h]
section ZR
variable {τ : Type} {g : zG} {y : zY} {d mc ms : Nat} {w : τ → Option Value × zS} {o : τ} {k n pc : Nat} {ls : List (Option Value)} {st : List Value} {μ : zS} {f : Option τ}
theorem zj_iaload {r : Option Nat} {i : Int32} {f : Int32 → Option τ} (hd : decode y.2.1 pc = .ok (.iaload, 1)) (kk : ∀ v, zJ g y d mc ms w o k n (pc + 1) ls (.int v :: st) μ (f v)) : zJ g y d mc ms w o k n pc ls (.int i :: zr g r :: st) μ ((zaI μ .int r i).bind f) := by
  intro hf p e s m args below meth c H locs A hC hR hS hl hk
  obtain ⟨v, h1, hf2⟩ := zbind_some hf
  obtain ⟨a, h2, h3⟩ := zmap_some h1
  obtain ⟨rfl, N, hL, hin⟩ := zix_some h2
  subst h3
  exact va_iald hC.1 hC.2.1 hC.2.2.2.2.2.2.1 hR.2 a 0 (zWs_get hL) rfl hin hd (kk _ hf2 p e s m args below meth c H locs A hC hR hS hl hk)
theorem zj_zaload {r : Option Nat} {i : Int32} {f : Int32 → Option τ} (hd : decode y.2.1 pc = .ok (.baload, 1)) (kk : ∀ v, zJ g y d mc ms w o k n (pc + 1) ls (.int v :: st) μ (f v)) : zJ g y d mc ms w o k n pc ls (.int i :: zr g r :: st) μ ((zaI μ .boolean r i).bind f) := by
  intro hf p e s m args below meth c H locs A hC hR hS hl hk
  obtain ⟨v, h1, hf2⟩ := zbind_some hf
  obtain ⟨a, h2, h3⟩ := zmap_some h1
  obtain ⟨rfl, N, hL, hin⟩ := zix_some h2
  subst h3
  exact va_zald hC.1 hC.2.1 hC.2.2.2.2.2.2.1 hR.2 a 1 (zWs_get hL) rfl hin hd (kk _ hf2 p e s m args below meth c H locs A hC hR hS hl hk)
theorem zj_caload {r : Option Nat} {i : Int32} {f : Int32 → Option τ} (hd : decode y.2.1 pc = .ok (.caload, 1)) (kk : ∀ v, zJ g y d mc ms w o k n (pc + 1) ls (.int v :: st) μ (f v)) : zJ g y d mc ms w o k n pc ls (.int i :: zr g r :: st) μ ((zaI μ .char r i).bind f) := by
  intro hf p e s m args below meth c H locs A hC hR hS hl hk
  obtain ⟨v, h1, hf2⟩ := zbind_some hf
  obtain ⟨a, h2, h3⟩ := zmap_some h1
  obtain ⟨rfl, N, hL, hin⟩ := zix_some h2
  subst h3
  exact va_cald hC.1 hC.2.1 hC.2.2.2.2.2.2.1 hR.2 a 2 (zWs_get hL) rfl hin hd (kk _ hf2 p e s m args below meth c H locs A hC hR hS hl hk)
theorem zj_laload {r : Option Nat} {i : Int32} {f : Int64 → Option τ} (hd : decode y.2.1 pc = .ok (.laload, 1)) (kk : ∀ v, zJ g y d mc ms w o k n (pc + 1) ls (.long v :: st) μ (f v)) : zJ g y d mc ms w o k n pc ls (.int i :: zr g r :: st) μ ((zaJ μ r i).bind f) := by
  intro hf p e s m args below meth c H locs A hC hR hS hl hk
  obtain ⟨v, h1, hf2⟩ := zbind_some hf
  obtain ⟨a, h2, h3⟩ := zmap_some h1
  obtain ⟨rfl, N, hL, hin⟩ := zix_some h2
  subst h3
  exact va_lald hC.1 hC.2.1 hC.2.2.2.2.2.2.1 hR.2 a 3 (zWs_get hL) rfl hin hd (kk _ hf2 p e s m args below meth c H locs A hC hR hS hl hk)
theorem zj_aaload {C : String} {r : Option Nat} {i : Int32} {f : Option Nat → Option τ} (t0 : Nat) (ht : (ztys g)[t0]? = some (g.2.2.1 (.object C), .object C)) (hd : decode y.2.1 pc = .ok (.aaload, 1)) (kk : ∀ v, zJ g y d mc ms w o k n (pc + 1) ls (zr g v :: st) μ (f v)) : zJ g y d mc ms w o k n pc ls (.int i :: zr g r :: st) μ ((zaR μ C r i).bind f) := by
  intro hf p e s m args below meth c H locs A hC hR hS hl hk
  obtain ⟨v, h1, hf2⟩ := zbind_some hf
  obtain ⟨a, h2, h3⟩ := zmap_some h1
  obtain ⟨rfl, N, hL, hin⟩ := zix_some h2
  subst h3
  exact va_aldq hC.1 hC.2.1 hC.2.2.2.2.2.2.1 hR.2 a t0 (zWs_get hL) ht hin hd (kk _ hf2 p e s m args below meth c H locs A hC hR hS hl hk)
theorem zj_alen {ty : FieldType} {r : Option Nat} {f : Int32 → Option τ} (t0 : Nat) (ht : (ztys g)[t0]? = some (g.2.2.1 ty, ty)) (hd : decode y.2.1 pc = .ok (.arraylength, 1)) (kk : ∀ v, zJ g y d mc ms w o k n (pc + 1) ls (.int v :: st) μ (f v)) : zJ g y d mc ms w o k n pc ls (zr g r :: st) μ ((zln μ ty r).bind f) := by
  intro hf p e s m args below meth c H locs A hC hR hS hl hk
  obtain ⟨v, h1, hf2⟩ := zbind_some hf
  cases r with
  | none => cases h1
  | some a =>
    simp only [zln] at h1
    cases hb : μ.1[a]? with
    | none => rw [hb] at h1; cases h1
    | some K =>
      rw [hb] at h1
      cases K with
      | inr ci => cases h1
      | inl q =>
        obtain ⟨t, N⟩ := q
        dsimp only at h1
        by_cases hc : t = ty
        · rw [if_pos hc] at h1
          subst hc
          exact va_alen (D := g.2.1) (cl := vwCl) hC.1 hC.2.1 hC.2.2.2.2.2.2.1 hR.2 a t0 (zWs_get hb) ht (Option.some.inj h1) hd (kk v hf2 p e s m args below meth c H locs A hC hR hS hl hk)
        · rw [if_neg hc] at h1; cases h1
theorem zj_old {t : Nat} {i : Int32} {f : Int32 → Option τ} (hd : decode y.2.1 pc = .ok (.iaload, 1)) (kk : ∀ v, zJ g y d mc ms w o k n (pc + 1) ls (.int v :: st) μ (f v)) : zJ g y d mc ms w o k n pc ls (.int i :: .ref t :: st) μ ((zol g t i).bind f) := by
  intro hf p e s m args below meth c H locs A hC hR hS hl hk
  obtain ⟨v, h1, hf2⟩ := zbind_some hf
  unfold zol at h1
  cases hq : g.2.2.2.2.1.find? (fun q => q.1 == t) with
  | none => rw [hq] at h1; cases h1
  | some q =>
    rw [hq] at h1
    dsimp only at h1
    by_cases hc : ¬ i < 0 ∧ i.toNatClampNeg < q.2.1
    · rw [if_pos hc] at h1
      have hm := List.mem_of_find?_eq_some hq
      have he : q.1 = t := by simpa using List.find?_some hq
      have hT := hC.2.2.2.2.2.2.2.2.2.2.1 q hm
      rw [he] at hT
      exact va_ti hC.1 hC.2.1 hT hS (fun hh => hh.elim hc.1 (fun h4 => by omega)) (v := .int v) (by rw [← Option.some.inj h1]) hd (kk v hf2 p e s m args below meth c H locs A hC hR hS hl hk)
    · rw [if_neg hc] at h1; cases h1
theorem zj_under {idx : Nat} (hc : y.1.cls = "PostsFilled$Person" ∧ Cond.fieldLink y.1.cls idx "PostsFilled$Person" "UNDER" "[I" ∈ gtbl) (hd : decode y.2.1 pc = .ok (.getstatic idx, 3)) (kk : zJ g y d mc ms w o k n (pc + 3) ls (.ref g.2.2.2.2.2.1 :: st) μ f) : zJ g y d mc ms w o k n pc ls st μ f := by
  intro hf p e s m args below meth c H locs A hC hR hS hl hk
  exact va_gets hC.1 hC.2.1 hC.2.2.2.2.2.2.2.2.2.2.2.1.1 hS hC.2.2.2.2.1 (hC.2.2.2.2.2.1 _ hc.2) (fun _ h => h) hd (kk hf p e s m args below meth c H locs A hC hR hS hl hk)
def zun (i : Int32) : Option Int32 := if ¬ i < 0 ∧ i.toNatClampNeg < 6 then some (zUnd i.toNatClampNeg) else none
theorem zj_uald {i : Int32} {f : Int32 → Option τ} (hd : decode y.2.1 pc = .ok (.iaload, 1)) (kk : ∀ v, zJ g y d mc ms w o k n (pc + 1) ls (.int v :: st) μ (f v)) : zJ g y d mc ms w o k n pc ls (.int i :: .ref g.2.2.2.2.2.1 :: st) μ ((zun i).bind f) := by
  intro hf p e s m args below meth c H locs A hC hR hS hl hk
  obtain ⟨v, h1, hf2⟩ := zbind_some hf
  unfold zun at h1
  by_cases hc : ¬ i < 0 ∧ i.toNatClampNeg < 6
  · rw [if_pos hc] at h1
    exact va_ti hC.1 hC.2.1 hC.2.2.2.2.2.2.2.2.2.2.2.1.2 hS (fun hh => hh.elim hc.1 (fun h4 => by omega)) (v := .int v) (by rw [← Option.some.inj h1]) hd (kk v hf2 p e s m args below meth c H locs A hC hR hS hl hk)
  · rw [if_neg hc] at h1; cases h1
theorem zj_iastore {r : Option Nat} {i v : Int32} {f : zS → Option τ} (hd : decode y.2.1 pc = .ok (.iastore, 1)) (kk : ∀ μ', zJ g y d mc ms w o k n (pc + 1) ls st μ' (f μ')) : zJ g y d mc ms w o k n pc ls (.int v :: .int i :: zr g r :: st) μ ((zsI μ r i v).bind f) := by
  intro hf p e s m args below meth c H locs A hC hR hS hl hk
  obtain ⟨μ', h1, hf2⟩ := zbind_some hf
  obtain ⟨a, h2, h3⟩ := zmap_some h1
  obtain ⟨rfl, N, hL, hin⟩ := zix_some h2
  subst h3
  refine va_iast hC.1 hC.2.1 hC.2.2.2.2.2.2.1 hR.2 (zD μ) hS a 0 (zWs_get hL) rfl hin hd (fun H1 locs1 hP1 _ hS1 => ?_)
  rw [zWs_uI hL (zE_uI (fun _ => rfl))] at hP1
  exact zsz (μ := zuI μ a i.toNatClampNeg v) hk hC.2.2.2.2.2.2.2.2.2.1 hP1 hS1 (fun hR1 => kk _ hf2 p e s m args below meth c H1 locs1 A hC hR1 hS1 hl hk)
theorem zj_zastore {r : Option Nat} {i v : Int32} {f : zS → Option τ} (hd : decode y.2.1 pc = .ok (.bastore, 1)) (kk : ∀ μ', zJ g y d mc ms w o k n (pc + 1) ls st μ' (f μ')) : zJ g y d mc ms w o k n pc ls (.int v :: .int i :: zr g r :: st) μ ((zsZ μ r i v).bind f) := by
  intro hf p e s m args below meth c H locs A hC hR hS hl hk
  obtain ⟨μ', h1, hf2⟩ := zbind_some hf
  unfold zsZ at h1
  by_cases hv : v = 0 ∨ v = 1
  · rw [if_pos hv] at h1
    obtain ⟨a, h2, h3⟩ := zmap_some h1
    obtain ⟨rfl, N, hL, hin⟩ := zix_some h2
    subst h3
    refine va_zast hC.1 hC.2.1 hC.2.2.2.2.2.2.1 hR.2 (zD μ) hS a 1 (zWs_get hL) rfl hin hd (fun H1 locs1 hP1 _ hS1 => ?_)
    have hnv : vp_nar .boolean v = v := by rcases hv with h | h <;> (have h : v = _ := h) <;> rw [h] <;> decide
    rw [hnv, zWs_uI hL (zE_uI (fun _ => rfl))] at hP1
    exact zsz (μ := zuI μ a i.toNatClampNeg v) hk hC.2.2.2.2.2.2.2.2.2.1 hP1 hS1 (fun hR1 => kk _ hf2 p e s m args below meth c H1 locs1 A hC hR1 hS1 hl hk)
  · rw [if_neg hv] at h1; cases h1
theorem zj_castore {r : Option Nat} {i v : Int32} {f : zS → Option τ} (hd : decode y.2.1 pc = .ok (.castore, 1)) (kk : ∀ μ', zJ g y d mc ms w o k n (pc + 1) ls st μ' (f μ')) : zJ g y d mc ms w o k n pc ls (.int v :: .int i :: zr g r :: st) μ ((zsC μ r i v).bind f) := by
  intro hf p e s m args below meth c H locs A hC hR hS hl hk
  obtain ⟨μ', h1, hf2⟩ := zbind_some hf
  unfold zsC at h1
  by_cases hv : vp_nar .char v = v
  · rw [if_pos hv] at h1
    obtain ⟨a, h2, h3⟩ := zmap_some h1
    obtain ⟨rfl, N, hL, hin⟩ := zix_some h2
    subst h3
    refine va_cast hC.1 hC.2.1 hC.2.2.2.2.2.2.1 hR.2 (zD μ) hS a 2 (zWs_get hL) rfl hin hd (fun H1 locs1 hP1 _ hS1 => ?_)
    rw [hv, zWs_uI hL (zE_uI (fun _ => rfl))] at hP1
    exact zsz (μ := zuI μ a i.toNatClampNeg v) hk hC.2.2.2.2.2.2.2.2.2.1 hP1 hS1 (fun hR1 => kk _ hf2 p e s m args below meth c H1 locs1 A hC hR1 hS1 hl hk)
  · rw [if_neg hv] at h1; cases h1
theorem zj_lastore {r : Option Nat} {i : Int32} {v : Int64} {f : zS → Option τ} (hd : decode y.2.1 pc = .ok (.lastore, 1)) (kk : ∀ μ', zJ g y d mc ms w o k n (pc + 1) ls st μ' (f μ')) : zJ g y d mc ms w o k n pc ls (.long v :: .int i :: zr g r :: st) μ ((zsJ μ r i v).bind f) := by
  intro hf p e s m args below meth c H locs A hC hR hS hl hk
  obtain ⟨μ', h1, hf2⟩ := zbind_some hf
  obtain ⟨a, h2, h3⟩ := zmap_some h1
  obtain ⟨rfl, N, hL, hin⟩ := zix_some h2
  subst h3
  refine va_last hC.1 hC.2.1 hC.2.2.2.2.2.2.1 hR.2 (zD μ) hS a 3 (zWs_get hL) rfl hin hd (fun H1 locs1 hP1 _ hS1 => ?_)
  rw [zWs_uJ (q := i.toNatClampNeg) (v := v) hL (e := .inl (g.2.2.1 .long, N, .inr (.inl (vp_updL (μ.2.2.1 a) i.toNatClampNeg v)))) (by
    simp only [zE, zar]
    refine congrArg (fun z => Sum.inl (g.2.2.1 .long, N, Sum.inr (Sum.inl z))) ?_
    funext j
    by_cases h : j = i.toNatClampNeg
    · simp [zuJ, vp_updL, h]
    · simp [zuJ, vp_updL, h])] at hP1
  exact zsz (μ := zuJ μ a i.toNatClampNeg v) hk hC.2.2.2.2.2.2.2.2.2.1 hP1 hS1 (fun hR1 => kk _ hf2 p e s m args below meth c H1 locs1 A hC hR1 hS1 hl hk)
theorem zj_aastore {C : String} {ci : Nat} {T : u_T} {N0 : Nat} {r v : Option Nat} {i : Int32} {f : zS → Option τ} (t0 : Nat) (ht : (ztys g)[t0]? = some (g.2.2.1 (.object C), .object C)) (hc : vwCl[ci]? = some (C, T, N0)) (hd : decode y.2.1 pc = .ok (.aastore, 1)) (kk : ∀ μ', zJ g y d mc ms w o k n (pc + 1) ls st μ' (f μ')) : zJ g y d mc ms w o k n pc ls (zr g v :: .int i :: zr g r :: st) μ ((zsR μ C ci r i v).bind f) := by
  intro hf p e s m args below meth c H locs A hC hR hS hl hk
  obtain ⟨μ', h1, hf2⟩ := zbind_some hf
  obtain ⟨b, h4, h1⟩ := zbind_some h1
  obtain ⟨rfl, hb⟩ := zob_some h4
  obtain ⟨a, h2, h3⟩ := zmap_some h1
  obtain ⟨rfl, N, hL, hin⟩ := zix_some h2
  subst h3
  refine va_astq (r := (C, T, N0)) hC.1 hC.2.1 hC.2.2.2.2.2.2.1 hR.2 (zD μ) hS a t0 b ci (zWs_get hL) ht (zWs_get hb) hc hin hd (fun H1 locs1 hP1 _ hS1 => ?_)
  rw [zWs_uR (v := some b) (q := i.toNatClampNeg) hL (by
    simp only [zE, zar]
    refine congrArg (fun z => Sum.inl (g.2.2.1 (.object C), N, Sum.inr (Sum.inr (Sum.inr (Sum.inr z))))) ?_
    funext j
    by_cases h : j = i.toNatClampNeg
    · simp [zuR, va_up, h]
    · simp [zuR, va_up, h])] at hP1
  exact zsz (μ := zuR μ a i.toNatClampNeg (some b)) hk hC.2.2.2.2.2.2.2.2.2.1 hP1 hS1 (fun hR1 => kk _ hf2 p e s m args below meth c H1 locs1 A hC hR1 hS1 hl hk)
end ZR
-- ===== calls =====
theorem zOld.calling {g : zG} {U : State} {fr : JFrame} {mk : MethodId} {a : Array Value} (h : zOld g U) : zOld g (U.calling fr mk a) := by
  obtain ⟨h1, h2, h3, h4, h5, h6, h7, h8, h9, h10, v11, h11, h12⟩ := h
  have hal : U.vm.Alike (U.calling fr mk a).vm := Vm.Alike.refl U.vm
  exact ⟨fun q hq => (h1 q hq).moved hal, ⟨h2.1.moved hal, h2.2.moved hal⟩, h3.moved hal, h4.moved hal, h5.same rfl, h6.same rfl, fun a i x h hw => (h7 a i x h hw).same rfl rfl, h8.moved hal, h9.moved hal, h10.moved hal, v11, h11, h12.moved hal⟩
theorem zU.blind {g : zG} {μ : zS} {av : List Value} : FrameBlind (va_Pc av (zU g μ)) := by
  rintro a U fr mk ⟨h1, h2, h3, h4, h5⟩
  exact ⟨h1, h2, h3, va_K.moved (u := U) (U := U.calling fr mk a) (Vm.Alike.refl U.vm) h4, h5.calling⟩
theorem zGood {y : zY} (h : Cond.code y.1 y.2.1 y.2.2.1 y.2.2.2 ∈ gtbl) : GoodIn gtbl (zws y) := by
  intro w hw
  have hm : w ∈ gtbl := by
    rcases List.mem_cons.mp hw with rfl | h2
    · exact h
    · exact h2
  exact ⟨hm, good_of_word (List.mem_filter.mp hm).2⟩
theorem zU.at {g : zG} {μ : zS} {s U : State} {H : Heap} {locs : List Loc} (hB : zB g ≤ s.heap.size) (hR : zR g μ H) (hS : va_S (zA g) s.heap H locs) (hK : va_K g.2.1 vwCl (ztys g) s) (hO : zOld g s) (hU : U.heap = H) (hW : s.WarmedH U.vm) : zU g μ U := by
  subst hU
  exact ⟨Nat.le_trans hB hS.1, hR, va_K.moved hW.alike hK, hO.moved hW hS⟩
section ZR
variable {τ : Type} {g : zG} {y : zY} {d mc ms : Nat} {w : τ → Option Value × zS} {o : τ} {k n pc : Nat} {ls : List (Option Value)} {st stk : List Value} {μ : zS} {f : Option τ}
theorem zcall_end {p : Program} {e : Env} {s : State} {m : MethodId} {args : Array Value} {below : List Frame} {meth : Method} {c : Code} {H : Heap} {locs : List Loc} {A : Array Slot} {mc2 ms2 : Nat} {ov : Option Value} {μ' : zS} {av : Array Value} {R : Room} {Q : State → Prop} {st' : List Value}
    (hr : va_Run p g.1 e R s m args below meth c H locs k n mc2 ms2 (F0 m pc A stk) st (zQ g mc2 ov μ' av) (zA g)) (hR : zR g μ H) (hS : va_S (zA g) s.heap H locs) (hk : s.heap.size + k ≤ zB g + μ.1.length) (hst : ov.toList ++ st = st')
    (kk : ∀ (H1 : Heap) (locs1 : List Loc), zR g μ' H1 → va_S (zA g) s.heap H1 locs1 → s.heap.size + (k + mc2) ≤ zB g + μ'.1.length → W p g.1 e R s m args below meth c H1 locs1 (k + mc2) (n + ms2) Q (F0 m (pc + 3) A st')) : W p g.1 e R s m args below meth c H locs k n Q (F0 m pc A stk) := by
  intro T hT X
  obtain ⟨v, st0, t, T', L, e0, X', hL, eh, ev, ⟨hq1, hq2, hq3, hq4⟩, goes⟩ := hr T hT X
  cases hq1
  subst hst
  have hS1 : va_S (zA g) s.heap T'.heap (locs ++ L) := by
    refine ⟨Nat.le_trans hS.1 (by rw [eh, ← e0]; exact hq3.1), fun q h1 h2 => ?_, fun q hq => ?_⟩
    · rw [eh, hq3.2 q (by rw [e0]; exact Nat.lt_of_lt_of_le h1 hS.1) h2, e0]
      exact hS.2.1 q h1 h2
    · rcases List.mem_append.mp hq with h | h
      · exact hS.2.2 q h
      · exact hL q h
  have hsz : s.heap.size + (k + mc2) ≤ zB g + μ'.1.length := by
    have h1 := hq2.1
    have h2 := hR.1
    rw [e0] at hq4
    omega
  obtain ⟨t2, a1, b1⟩ := kk T'.heap (locs ++ L) (by rw [eh]; exact hq2) hS1 hsz T' rfl X'
  exact ⟨t2, goes t2 a1, b1⟩
theorem zrm_ok {d2 d mL mc2 ms2 mc ms : Nat} (hL : mL ≤ 50) (hd : d2 + 1 ≤ d) : (zRm d2 mc2 ms2).frames + 1 ≤ (zRm d mc ms).frames ∧ 8 + (mL + 11) + (zRm d2 mc2 ms2).locals ≤ (zRm d mc ms).locals := by
  refine ⟨hd, ?_⟩
  show 8 + (mL + 11) + 80 * d2 ≤ 80 * d
  omega
/-- a call of a method of an object -/
theorem zj_callV {y2 : zY} {n2 d2 idx ci : Nat} {τ2 : Type} {w2 : τ2 → Option Value × zS} {F : Nat → Option τ2} {f : τ2 → Option τ} {T : u_T} {N : Nat} {r : Option Nat} (As : List Value) (hy : zVir y2 n2) (hl : Cond.methodLink y.1.cls idx y2.1 ∈ gtbl) (hc : vwCl[ci]? = some (y2.1.cls, T, N)) (hM : ∀ a o2, μ.1[a]? = some (.inr ci) → F a = some o2 → zMt g y2 d2 0 0 (zr g (some a) :: As) μ (w2 o2).1 (w2 o2).2) (hd2 : d2 + 1 ≤ d) (hb : k ≤ mc ∧ n ≤ ms) (hn : As.length = n2) (hs : stk = As.reverse ++ zr g r :: st) (h8 : (st.map fun v => v.category).sum ≤ 8) (hd : decode y.2.1 pc = .ok (.invokevirtual idx, 3)) (kk : ∀ q, zJ g y d mc ms w o k n (pc + 3) ls ((w2 q).1.toList ++ st) (w2 q).2 (f q)) : zJ g y d mc ms w o k n pc ls stk μ ((zob μ ci r).bind (fun a => (F a).bind f)) := by
  intro hf p e s m args below meth c H locs A hC hR hS hlA hk
  obtain ⟨a, h1, hf1⟩ := zbind_some hf
  obtain ⟨rfl, hL⟩ := zob_some h1
  obtain ⟨o2, h2, hf2⟩ := zbind_some hf1
  obtain ⟨⟨m1, m2, m3, m4, m5, m6⟩, v1, v2⟩ := hy
  have hts := hC.2.2.2.2.2.1
  have cb : CallB (zRm d mc ms) s args y.1.cls idx y2.1 y2.2.1 y2.2.2.1 y2.2.2.2 (zws y2) (zRm d2 0 0) 0 0 n2 := callB_of n2 hts (zGood m1) rfl rfl rfl (hts _ m2) (hts _ hl) ⟨m3, m4, m5⟩ (zrm_ok m6 hd2)
  have hr := va_runV (p := p) (l := g.1) (e := e) (R := zRm d mc ms) (below := below) (meth := meth) (H := H) (locs := locs) (cells := k) (slots := n) (C := y2.1.cls) (g := F0 m pc A stk) (rest := st) (b := zB g + a) (As := As) ⟨hC.1, hC.2.1, hC.2.2.2.1, hC.2.2.2.2.1, hts⟩ (hM a o2 hL h2) ⟨cb, hts _ v1, hts _ v2⟩ ⟨zU.blind, va_recv hC.2.2.2.2.2.2.1 hR.2 hc (zWs_get hL), fun U hU hW => ⟨rfl, zU.at hC.2.2.2.2.2.2.2.2.2.1 hR hS hC.2.2.2.2.2.2.1 hC.2.2.2.2.2.2.2.2.2.2 hU hW⟩⟩ rfl hn hlA.1 hs (lv_room (m := m) (pc := pc) (ls := A) (rest := stk) h8) hd hb
  exact zcall_end hr hR hS hk rfl (fun H1 locs1 hR1 hS1 hk1 => kk o2 hf2 p e s m args below meth c H1 locs1 A hC hR1 hS1 hlA hk1)
/-- a call of a static method -/
theorem zj_callS {y2 : zY} {n2 d2 idx : Nat} {τ2 : Type} {w2 : τ2 → Option Value × zS} {F : Option τ2} {f : τ2 → Option τ} (As : List Value) (hy : zSta y2 n2) (hl : Cond.methodLink y.1.cls idx y2.1 ∈ gtbl) (hM : ∀ o2, F = some o2 → zMt g y2 d2 0 0 As μ (w2 o2).1 (w2 o2).2) (hd2 : d2 + 1 ≤ d) (hb : k ≤ mc ∧ n ≤ ms) (hn : As.length = n2) (hs : stk = As.reverse ++ st) (h8 : (st.map fun v => v.category).sum ≤ 8) (hd : decode y.2.1 pc = .ok (.invokestatic idx, 3)) (kk : ∀ q, zJ g y d mc ms w o k n (pc + 3) ls ((w2 q).1.toList ++ st) (w2 q).2 (f q)) : zJ g y d mc ms w o k n pc ls stk μ (F.bind f) := by
  intro hf p e s m args below meth c H locs A hC hR hS hlA hk
  obtain ⟨o2, h2, hf2⟩ := zbind_some hf
  obtain ⟨⟨m1, m2, m3, m4, m5, m6⟩, v1⟩ := hy
  have hts := hC.2.2.2.2.2.1
  have cb : CallB (zRm d mc ms) s args y.1.cls idx y2.1 y2.2.1 y2.2.2.1 y2.2.2.2 (zws y2) (zRm d2 0 0) 0 0 n2 := callB_of n2 hts (zGood m1) rfl rfl rfl (hts _ m2) (hts _ hl) ⟨m3, m4, m5⟩ (zrm_ok m6 hd2)
  have hr := va_runS (p := p) (l := g.1) (e := e) (R := zRm d mc ms) (below := below) (meth := meth) (H := H) (locs := locs) (cells := k) (slots := n) (g := F0 m pc A stk) (rest := st) (As := As) ⟨hC.1, hC.2.1, hC.2.2.2.1, hC.2.2.2.2.1, hts⟩ (hM o2 h2) ⟨cb, hts _ v1⟩ ⟨zU.blind, fun U hU hW => ⟨rfl, zU.at hC.2.2.2.2.2.2.2.2.2.1 hR hS hC.2.2.2.2.2.2.1 hC.2.2.2.2.2.2.2.2.2.2 hU hW⟩⟩ rfl hn hlA.1 hs (lv_room (m := m) (pc := pc) (ls := A) (rest := stk) h8) hd hb
  exact zcall_end hr hR hS hk rfl (fun H1 locs1 hR1 hS1 hk1 => kk o2 hf2 p e s m args below meth c H1 locs1 A hC hR1 hS1 hlA hk1)
theorem zj_cVI {y2 : zY} {n2 d2 idx ci : Nat} {T : u_T} {N : Nat} {r : Option Nat} {F : Nat → Option (Int32 × zS)} {f : Int32 → zS → Option τ} (As : List Value) (hy : zVir y2 n2) (hl : Cond.methodLink y.1.cls idx y2.1 ∈ gtbl) (hc : vwCl[ci]? = some (y2.1.cls, T, N)) (hM : ∀ a o2, F a = some o2 → zMt g y2 d2 0 0 (zr g (some a) :: As) μ (some (.int o2.1)) o2.2) (hd2 : d2 + 1 ≤ d) (hb : k ≤ mc ∧ n ≤ ms) (hn : As.length = n2) (hs : stk = As.reverse ++ zr g r :: st) (h8 : (st.map fun v => v.category).sum ≤ 8) (hd : decode y.2.1 pc = .ok (.invokevirtual idx, 3)) (kk : ∀ v μ', zJ g y d mc ms w o k n (pc + 3) ls (.int v :: st) μ' (f v μ')) : zJ g y d mc ms w o k n pc ls stk μ ((zob μ ci r).bind (fun a => (F a).bind (zk f))) := zj_callV (w2 := zwI) As hy hl hc (fun a o2 _ h => hM a o2 h) hd2 hb hn hs h8 hd (fun q => kk q.1 q.2)
theorem zj_cSI {y2 : zY} {n2 d2 idx : Nat} {F : Option (Int32 × zS)} {f : Int32 → zS → Option τ} (As : List Value) (hy : zSta y2 n2) (hl : Cond.methodLink y.1.cls idx y2.1 ∈ gtbl) (hM : ∀ o2, F = some o2 → zMt g y2 d2 0 0 As μ (some (.int o2.1)) o2.2) (hd2 : d2 + 1 ≤ d) (hb : k ≤ mc ∧ n ≤ ms) (hn : As.length = n2) (hs : stk = As.reverse ++ st) (h8 : (st.map fun v => v.category).sum ≤ 8) (hd : decode y.2.1 pc = .ok (.invokestatic idx, 3)) (kk : ∀ v μ', zJ g y d mc ms w o k n (pc + 3) ls (.int v :: st) μ' (f v μ')) : zJ g y d mc ms w o k n pc ls stk μ (F.bind (zk f)) := zj_callS (w2 := zwI) As hy hl (fun o2 h => hM o2 h) hd2 hb hn hs h8 hd (fun q => kk q.1 q.2)
theorem zj_cVJ {y2 : zY} {n2 d2 idx ci : Nat} {T : u_T} {N : Nat} {r : Option Nat} {F : Nat → Option (Int64 × zS)} {f : Int64 → zS → Option τ} (As : List Value) (hy : zVir y2 n2) (hl : Cond.methodLink y.1.cls idx y2.1 ∈ gtbl) (hc : vwCl[ci]? = some (y2.1.cls, T, N)) (hM : ∀ a o2, F a = some o2 → zMt g y2 d2 0 0 (zr g (some a) :: As) μ (some (.long o2.1)) o2.2) (hd2 : d2 + 1 ≤ d) (hb : k ≤ mc ∧ n ≤ ms) (hn : As.length = n2) (hs : stk = As.reverse ++ zr g r :: st) (h8 : (st.map fun v => v.category).sum ≤ 8) (hd : decode y.2.1 pc = .ok (.invokevirtual idx, 3)) (kk : ∀ v μ', zJ g y d mc ms w o k n (pc + 3) ls (.long v :: st) μ' (f v μ')) : zJ g y d mc ms w o k n pc ls stk μ ((zob μ ci r).bind (fun a => (F a).bind (zk f))) := zj_callV (w2 := zwJ) As hy hl hc (fun a o2 _ h => hM a o2 h) hd2 hb hn hs h8 hd (fun q => kk q.1 q.2)
theorem zj_cSJ {y2 : zY} {n2 d2 idx : Nat} {F : Option (Int64 × zS)} {f : Int64 → zS → Option τ} (As : List Value) (hy : zSta y2 n2) (hl : Cond.methodLink y.1.cls idx y2.1 ∈ gtbl) (hM : ∀ o2, F = some o2 → zMt g y2 d2 0 0 As μ (some (.long o2.1)) o2.2) (hd2 : d2 + 1 ≤ d) (hb : k ≤ mc ∧ n ≤ ms) (hn : As.length = n2) (hs : stk = As.reverse ++ st) (h8 : (st.map fun v => v.category).sum ≤ 8) (hd : decode y.2.1 pc = .ok (.invokestatic idx, 3)) (kk : ∀ v μ', zJ g y d mc ms w o k n (pc + 3) ls (.long v :: st) μ' (f v μ')) : zJ g y d mc ms w o k n pc ls stk μ (F.bind (zk f)) := zj_callS (w2 := zwJ) As hy hl (fun o2 h => hM o2 h) hd2 hb hn hs h8 hd (fun q => kk q.1 q.2)
theorem zj_cVU {y2 : zY} {n2 d2 idx ci : Nat} {T : u_T} {N : Nat} {r : Option Nat} {F : Nat → Option (zS)} {f : zS → Option τ} (As : List Value) (hy : zVir y2 n2) (hl : Cond.methodLink y.1.cls idx y2.1 ∈ gtbl) (hc : vwCl[ci]? = some (y2.1.cls, T, N)) (hM : ∀ a o2, F a = some o2 → zMt g y2 d2 0 0 (zr g (some a) :: As) μ none o2) (hd2 : d2 + 1 ≤ d) (hb : k ≤ mc ∧ n ≤ ms) (hn : As.length = n2) (hs : stk = As.reverse ++ zr g r :: st) (h8 : (st.map fun v => v.category).sum ≤ 8) (hd : decode y.2.1 pc = .ok (.invokevirtual idx, 3)) (kk : ∀ μ', zJ g y d mc ms w o k n (pc + 3) ls st μ' (f μ')) : zJ g y d mc ms w o k n pc ls stk μ ((zob μ ci r).bind (fun a => (F a).bind f)) := zj_callV (w2 := zwV) As hy hl hc (fun a o2 _ h => hM a o2 h) hd2 hb hn hs h8 hd kk
theorem zj_cSU {y2 : zY} {n2 d2 idx : Nat} {F : Option (zS)} {f : zS → Option τ} (As : List Value) (hy : zSta y2 n2) (hl : Cond.methodLink y.1.cls idx y2.1 ∈ gtbl) (hM : ∀ o2, F = some o2 → zMt g y2 d2 0 0 As μ none o2) (hd2 : d2 + 1 ≤ d) (hb : k ≤ mc ∧ n ≤ ms) (hn : As.length = n2) (hs : stk = As.reverse ++ st) (h8 : (st.map fun v => v.category).sum ≤ 8) (hd : decode y.2.1 pc = .ok (.invokestatic idx, 3)) (kk : ∀ μ', zJ g y d mc ms w o k n (pc + 3) ls st μ' (f μ')) : zJ g y d mc ms w o k n pc ls stk μ (F.bind f) := zj_callS (w2 := zwV) As hy hl (fun o2 h => hM o2 h) hd2 hb hn hs h8 hd kk
theorem zj_cVIp {y2 : zY} {n2 d2 idx ci : Nat} {T : u_T} {N : Nat} {r : Option Nat} {F : Nat → Option (Int32)} {f : Int32 → Option τ} (As : List Value) (hy : zVir y2 n2) (hl : Cond.methodLink y.1.cls idx y2.1 ∈ gtbl) (hc : vwCl[ci]? = some (y2.1.cls, T, N)) (hM : ∀ a o2, F a = some o2 → zMt g y2 d2 0 0 (zr g (some a) :: As) μ (some (.int o2)) μ) (hd2 : d2 + 1 ≤ d) (hb : k ≤ mc ∧ n ≤ ms) (hn : As.length = n2) (hs : stk = As.reverse ++ zr g r :: st) (h8 : (st.map fun v => v.category).sum ≤ 8) (hd : decode y.2.1 pc = .ok (.invokevirtual idx, 3)) (kk : ∀ v, zJ g y d mc ms w o k n (pc + 3) ls (.int v :: st) μ (f v)) : zJ g y d mc ms w o k n pc ls stk μ ((zob μ ci r).bind (fun a => (F a).bind f)) := zj_callV (w2 := (zwIp μ)) As hy hl hc (fun a o2 _ h => hM a o2 h) hd2 hb hn hs h8 hd kk
theorem zj_cSIp {y2 : zY} {n2 d2 idx : Nat} {F : Option (Int32)} {f : Int32 → Option τ} (As : List Value) (hy : zSta y2 n2) (hl : Cond.methodLink y.1.cls idx y2.1 ∈ gtbl) (hM : ∀ o2, F = some o2 → zMt g y2 d2 0 0 As μ (some (.int o2)) μ) (hd2 : d2 + 1 ≤ d) (hb : k ≤ mc ∧ n ≤ ms) (hn : As.length = n2) (hs : stk = As.reverse ++ st) (h8 : (st.map fun v => v.category).sum ≤ 8) (hd : decode y.2.1 pc = .ok (.invokestatic idx, 3)) (kk : ∀ v, zJ g y d mc ms w o k n (pc + 3) ls (.int v :: st) μ (f v)) : zJ g y d mc ms w o k n pc ls stk μ (F.bind f) := zj_callS (w2 := (zwIp μ)) As hy hl (fun o2 h => hM o2 h) hd2 hb hn hs h8 hd kk
theorem zj_cVJp {y2 : zY} {n2 d2 idx ci : Nat} {T : u_T} {N : Nat} {r : Option Nat} {F : Nat → Option (Int64)} {f : Int64 → Option τ} (As : List Value) (hy : zVir y2 n2) (hl : Cond.methodLink y.1.cls idx y2.1 ∈ gtbl) (hc : vwCl[ci]? = some (y2.1.cls, T, N)) (hM : ∀ a o2, F a = some o2 → zMt g y2 d2 0 0 (zr g (some a) :: As) μ (some (.long o2)) μ) (hd2 : d2 + 1 ≤ d) (hb : k ≤ mc ∧ n ≤ ms) (hn : As.length = n2) (hs : stk = As.reverse ++ zr g r :: st) (h8 : (st.map fun v => v.category).sum ≤ 8) (hd : decode y.2.1 pc = .ok (.invokevirtual idx, 3)) (kk : ∀ v, zJ g y d mc ms w o k n (pc + 3) ls (.long v :: st) μ (f v)) : zJ g y d mc ms w o k n pc ls stk μ ((zob μ ci r).bind (fun a => (F a).bind f)) := zj_callV (w2 := (zwJp μ)) As hy hl hc (fun a o2 _ h => hM a o2 h) hd2 hb hn hs h8 hd kk
theorem zj_cSJp {y2 : zY} {n2 d2 idx : Nat} {F : Option (Int64)} {f : Int64 → Option τ} (As : List Value) (hy : zSta y2 n2) (hl : Cond.methodLink y.1.cls idx y2.1 ∈ gtbl) (hM : ∀ o2, F = some o2 → zMt g y2 d2 0 0 As μ (some (.long o2)) μ) (hd2 : d2 + 1 ≤ d) (hb : k ≤ mc ∧ n ≤ ms) (hn : As.length = n2) (hs : stk = As.reverse ++ st) (h8 : (st.map fun v => v.category).sum ≤ 8) (hd : decode y.2.1 pc = .ok (.invokestatic idx, 3)) (kk : ∀ v, zJ g y d mc ms w o k n (pc + 3) ls (.long v :: st) μ (f v)) : zJ g y d mc ms w o k n pc ls stk μ (F.bind f) := zj_callS (w2 := (zwJp μ)) As hy hl (fun o2 h => hM o2 h) hd2 hb hn hs h8 hd kk
/-- a constructor's call -/
theorem zj_callI {y2 : zY} {n2 d2 mc2 ms2 idx : Nat} {F : Option zS} {f : zS → Option τ} {a : Nat} (As : List Value) (hy : zIni y2 n2) (hret : y2.2.2.2 = none) (hl : Cond.methodLink y.1.cls idx y2.1 ∈ gtbl) (hM : ∀ o2, F = some o2 → zMt g y2 d2 mc2 ms2 (zr g (some a) :: As) μ none o2) (hd2 : d2 + 1 ≤ d) (hb : k + mc2 ≤ mc ∧ n + ms2 ≤ ms) (hn : As.length = n2) (hs : stk = As.reverse ++ zr g (some a) :: st) (h8 : (st.map fun v => v.category).sum ≤ 8) (hd : decode y.2.1 pc = .ok (.invokespecial idx, 3)) (kk : ∀ μ', zJ g y d mc ms w o (k + mc2) (n + ms2) (pc + 3) ls st μ' (f μ')) : zJ g y d mc ms w o k n pc ls stk μ (F.bind f) := by
  intro hf p e s m args below meth c H locs A hC hR hS hlA hk
  obtain ⟨o2, h2, hf2⟩ := zbind_some hf
  obtain ⟨⟨m1, m2, m3, m4, m5, m6⟩, v1, v2⟩ := hy
  have hts := hC.2.2.2.2.2.1
  have cb : CallB (zRm d mc ms) s args y.1.cls idx y2.1 y2.2.1 y2.2.2.1 y2.2.2.2 (zws y2) (zRm d2 mc2 ms2) mc2 ms2 n2 := callB_of n2 hts (zGood m1) rfl rfl rfl (hts _ m2) (hts _ hl) ⟨m3, m4, m5⟩ (zrm_ok m6 hd2)
  rw [hret] at cb
  have hr := va_runI (p := p) (l := g.1) (e := e) (R := zRm d mc ms) (below := below) (meth := meth) (H := H) (locs := locs) (cells := k) (slots := n) (g := F0 m pc A stk) (rest := st) (b := zB g + a) (As := As) ⟨hC.1, hC.2.1, hC.2.2.2.1, hC.2.2.2.2.1, hts⟩ (hM o2 h2) ⟨cb, v2, hts _ v1⟩ ⟨zU.blind, fun U hU hW => ⟨rfl, zU.at hC.2.2.2.2.2.2.2.2.2.1 hR hS hC.2.2.2.2.2.2.1 hC.2.2.2.2.2.2.2.2.2.2 hU hW⟩⟩ rfl hn hlA.1 hs (lv_room (m := m) (pc := pc) (ls := A) (rest := stk) h8) hd hb
  exact zcall_end hr hR hS hk rfl (fun H1 locs1 hR1 hS1 hk1 => kk o2 hf2 p e s m args below meth c H1 locs1 A hC hR1 hS1 hlA hk1)
theorem zj_callIN {y2 : zY} {n2 d2 mc2 ms2 idx : Nat} {host : String} {F : Option zS} {f : zS → Option τ} {a : Nat} (As : List Value) (hy : zIni y2 n2) (hret : y2.2.2.2 = none) (hl : Cond.methodLinkNest y.1.cls idx y2.1 host ∈ lw_tbl) (hM : ∀ o2, F = some o2 → zMt g y2 d2 mc2 ms2 (zr g (some a) :: As) μ none o2) (hd2 : d2 + 1 ≤ d) (hb : k + mc2 ≤ mc ∧ n + ms2 ≤ ms) (hn : As.length = n2) (hs : stk = As.reverse ++ zr g (some a) :: st) (h8 : (st.map fun v => v.category).sum ≤ 8) (hd : decode y.2.1 pc = .ok (.invokespecial idx, 3)) (kk : ∀ μ', zJ g y d mc ms w o (k + mc2) (n + ms2) (pc + 3) ls st μ' (f μ')) : zJ g y d mc ms w o k n pc ls stk μ (F.bind f) := by
  intro hf p e s m args below meth c H locs A hC hR hS hlA hk
  obtain ⟨o2, h2, hf2⟩ := zbind_some hf
  obtain ⟨⟨m1, m2, m3, m4, m5, m6⟩, v1, v2⟩ := hy
  have hts := hC.2.2.2.2.2.1
  have hnw : va_Nw (.methodLinkNest y.1.cls idx y2.1 host) s := hC.2.2.2.2.2.2.2.2.2.2.2.2.2.2.2.2.1 _ _ _ _ hl
  have cb : va_CN (zRm d mc ms) s args y.1.cls idx y2.1 host y2.2.1 y2.2.2.1 y2.2.2.2 (zws y2) (zRm d2 mc2 ms2) mc2 ms2 n2 := va_cnB n2 hts (zGood m1) rfl rfl rfl hnw (hts _ m2) ⟨m3, m4, m5⟩ (zrm_ok m6 hd2)
  rw [hret] at cb
  have hr := va_runIN (p := p) (l := g.1) (e := e) (R := zRm d mc ms) (below := below) (meth := meth) (H := H) (locs := locs) (cells := k) (slots := n) (g := F0 m pc A stk) (rest := st) (b := zB g + a) (As := As) ⟨hC.1, hC.2.1, hC.2.2.2.1, hC.2.2.2.2.1, hts⟩ (hM o2 h2) ⟨cb, v2, hts _ v1⟩ ⟨zU.blind, fun U hU hW => ⟨rfl, zU.at hC.2.2.2.2.2.2.2.2.2.1 hR hS hC.2.2.2.2.2.2.1 hC.2.2.2.2.2.2.2.2.2.2 hU hW⟩⟩ rfl hn hlA.1 hs (lv_room (m := m) (pc := pc) (ls := A) (rest := stk) h8) hd hb
  exact zcall_end hr hR hS hk rfl (fun H1 locs1 hR1 hS1 hk1 => kk o2 hf2 p e s m args below meth c H1 locs1 A hC hR1 hS1 hlA hk1)
end ZR
-- ===== entry =====
def zal : List Value → List (Option Value)
  | [] => []
  | v :: r => if v.category = 2 then some v :: none :: zal r else some v :: zal r
theorem zlv_args : ∀ (vs : List Value) (j i : Nat) (v : Value), (zal vs)[i]? = some (some v) → (j + i, v) ∈ lv_args j vs
  | [], _, _, _, h => by simp [zal] at h
  | x :: r, j, i, v, h => by
    unfold zal at h
    unfold lv_args
    by_cases hc : x.category = 2
    · rw [if_pos hc] at h
      match i, h with
      | 0, h => simp at h; simp [h]
      | 1, h => simp at h
      | i + 2, h =>
        simp at h
        have := zlv_args r (j + 2) i v h
        simp [hc]
        rw [show j + (i + 2) = j + 2 + i by omega]; exact this
    · rw [if_neg hc] at h
      match i, h with
      | 0, h => simp at h; simp [h]
      | i + 1, h =>
        simp at h
        have := zlv_args r (j + 1) i v h
        have h1 : x.category = 1 := (lv_cat x).resolve_right hc
        simp [h1]
        rw [show j + (i + 1) = j + 1 + i by omega]; exact this
/-- a method's contract out of its body -/
theorem zMt_of {g : zG} {y : zY} {d mc ms : Nat} {av : List Value} {μ : zS} {ov : Option Value} {μ1 : zS} {ls : List (Option Value)} (hy : plainName y.1.cls = true) (hlen : (lg_sl av).length ≤ y.2.2.1) (hls : ∀ (i : Nat) (v : Value), ls[i]? = some (some v) → (zal av)[i]? = some (some v)) (h : zW g y d mc ms ov μ1 0 0 0 ls [] μ) : zMt g y d mc ms av μ ov μ1 := by
  refine Met.ofW (cc := y.2.1) (maxL := y.2.2.1) (ret := y.2.2.2) hy rfl ?_
  intro p e s m args below meth c s₁ B hml hv
  obtain ⟨rfl, hB, hR, hK, hO⟩ := hv
  have hts := atoms_spec (ws := zws y) B.pre
  have hown : s.vm.findClass y.1.cls = some m.cls := findClass_of_methodNamed B.named
  have hC : zC g y p s m av.toArray meth c := ⟨B.exec, B.bytes, B.returns, hml, hown, fun w hw => hts w (List.mem_cons_of_mem _ hw), hK, B.notSynchronized, (name_of_methodNamed B.named B.method).1, hB, hO⟩
  have hl := lv_entry av (n := y.2.2.1) hlen
  rw [lg_entry_eq]
  refine h p e s m av.toArray below meth c s.heap [] _ hC hR va_S.rf ⟨hl.1, hl.2.1, fun i v hi => ?_⟩ (by rw [hR.1]; exact Nat.le_refl _)
  have h1 := zlv_args av 0 i v (hls i v hi)
  rw [Nat.zero_add] at h1
  exact hl.2.2 (i, v) h1
