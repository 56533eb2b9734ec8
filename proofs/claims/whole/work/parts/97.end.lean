/-! THE CLAIM OUT OF ONE WALK OF THE LAW'S BODY. Your part is whole_start (and what it stands on); all else here is the same for every law, but numbers. -/
def R_law : String := "PostsFilledLaw"
def lw_P (b : Addr) (xs : List Int32) (args : Array Value) (s : State) : Prop := args = #[.ref b] ∧ s.IntsAt b xs ∧ xs.length ≤ 3072 ∧ (Jvm.Cond.and given_1 narrow_1).before args s = true
def lw_Q (_ : Array Value) (s : State) (o : Outcome) (t : State) : Prop := o = .returned (some (.int 1)) ∧ Framed s o t [] 600000 7302250
def lw_Z (below : List Frame) (a : Array Value) (s : State) : State → Prop := fun t => ∃ o, t.status = .running ∧ Ended t below o ∧ lw_Q a s o t
/-- the law's own end, with 1 on the stack, nothing written that was there before, its room as the claim has it -/
theorem lw_ret {p : Program} {l : Launch} {e : Env} {s : State} {m : MethodId} {below : List Frame} {meth : Method} {c : Code} {b : Nat} (hx : p.tables.exec = Jvm.exec) (hb : c.code = code) (hr : meth.sig.returnType = ret) (hlocks : meth.locks = false) {pc : Nat} {H : Heap} {ls : Array Slot} (hdg : decode code pc = .ok (.ireturn, 1)) : W p l e room_1 s m #[Value.ref b] below meth c H [] 600000 7302250 (lw_Z below #[Value.ref b] s) (F0 m pc ls [.int 1]) := by
  intro T hT X
  obtain ⟨fs, hret, hrun, hended, hW, hframe⟩ := X.leave (v := some (.int 1)) (hlocks := hlocks) (fun h => by rw [hr] at h; cases h)
  have hmeth' : T.vm.method? m = some meth := X.method'
  refine ⟨T.setFrames fs, ?_, .returned (some (.int 1)), hrun, hended, rfl, ⟨_, rfl⟩, hW, hframe⟩
  jvm_step X.here [X.here.top, hx, hb, hdg, hmeth', hr, ret, narrow_b1]
  (try refine ⟨rfl, ?_⟩); (try refine ⟨rfl, ?_⟩)
  first | (intro acts; rw [hret _ acts rfl rfl rfl]) | rw [hret _ _ rfl rfl rfl]
  exact Steps.refl _
/-- what holds at the law's entry: the machine, the code, the tables' words (any of lw_tbl by 'hts w (by decide +kernel)'), the script of L ints xs at the cell b, what the Statement gives of the start (any of its parts by flat_of_before) -/
def lw_At (p : Program) (s : State) (m : MethodId) (meth : Method) (c : Code) (b L : Nat) (xs : Nat → Int32) : Prop :=
  p.tables.exec = Jvm.exec ∧ c.code = code ∧ meth.sig.returnType = ret ∧ c.maxLocals = 4 ∧ s.vm.findClass R_law = some m.cls ∧ (∀ w ∈ lw_tbl, w.before #[Value.ref b] s = true) ∧ va_X b L xs s s.heap ∧ b < s.heap.size ∧ meth.locks = false ∧ (Jvm.Cond.and given_1 narrow_1).before #[Value.ref b] s = true ∧ meth.name = x.name

theorem zroom {s : State} {pl : Platform} {R R2 : Room} (h1 : R2.frames ≤ R.frames) (h2 : R2.cells ≤ R.cells) (h3 : R2.slots ≤ R.slots) (h4 : R2.locals ≤ R.locals) (h : s.hasRoom pl R = true) : s.hasRoom pl R2 = true := by
  simp only [State.hasRoom, Bool.and_eq_true, decide_eq_true_eq] at h ⊢
  obtain ⟨⟨⟨⟨a1, a2, a3, a4, a5, a6⟩, a7⟩, a8⟩, a9⟩ := h
  refine ⟨⟨⟨⟨?_, ?_, ?_, ?_, ?_, a6⟩, ?_⟩, ?_⟩, a9⟩ <;> omega
theorem zW_room {p : Program} {l : Launch} {e : Env} {R R2 : Room} {s : State} {m : MethodId} {args : Array Value} {below : List Frame} {meth : Method} {c : Code} {H : Heap} {locs : List Loc} {k n : Nat} {Q Q2 : State → Prop} {F : JFrame} (h1 : R2.frames ≤ R.frames) (h2 : R2.cells ≤ R.cells) (h3 : R2.slots ≤ R.slots) (h4 : R2.locals ≤ R.locals) (hq : ∀ t, Q t → Q2 t) (h : W p l e R2 s m args below meth c H locs k n Q F) : W p l e R s m args below meth c H locs k n Q2 F := by
  intro T hT X
  obtain ⟨t, a, b⟩ := h T hT { X with room := zroom h1 h2 h3 h4 X.room }
  exact ⟨t, a, hq t b⟩
theorem zstr_el0 : (List.range 75).map (fun j => Cond.eq (.elem (.field (.string "PostsFilled" 94) "java/lang/String" "value" "[B") (.int (Int32.ofNat j))) (.int ((zbyt.getD 0 []).getD j 0))) = ((flatC (Jvm.Cond.and given_1 narrow_1)).drop 52).take 75 := by decide +kernel
theorem zstr_el1 : (List.range 60).map (fun j => Cond.eq (.elem (.field (.string "PostsFilled$Reader" 100) "java/lang/String" "value" "[B") (.int (Int32.ofNat j))) (.int ((zbyt.getD 1 []).getD j 0))) = ((flatC (Jvm.Cond.and given_1 narrow_1)).drop 131).take 60 := by decide +kernel
theorem zund_el : (List.range 6).map (fun j => Cond.eq (.elem (.static "PostsFilled$Person" "UNDER" "[I") (.int (Int32.ofNat j))) (.int (zUnd j))) = ((flatC (Jvm.Cond.and given_1 narrow_1)).drop 12).take 6 := by decide +kernel
theorem zarr_prim {args : Array Value} {s : State} {ty : FieldType} (h : (Cond.arrayClass ty).before args s = true) (hty : ∀ C, ty ≠ .object C) : ∃ cA : ClassId, ArrOfT s cA ty ∧ va_RA s cA ty := by
  obtain ⟨c, k, comp, h1, h2, h3⟩ := Cond.arrayClass_spec h
  refine ⟨c, fun n z => ⟨fun k h => (by cases h), k, h2, comp, h3⟩, ?_⟩
  cases ty with
  | object C => exact absurd rfl (hty C)
  | _ => exact h1
theorem zarr_obj {args : Array Value} {s : State} {C : String} (h : (Cond.arrayOver (.object C)).before args s = true) : ∃ cA : ClassId, ArrOfT s cA (.object C) ∧ va_RA s cA (.object C) := by
  obtain ⟨comp, c, k, h1, -, h2, h3, h4⟩ := Cond.arrayOver_spec h
  exact ⟨c, fun n z => ⟨fun k h => (by cases h), k, h2, comp, h3⟩, k, comp, h2, h3, h1, h4⟩
theorem znl_tbl (i : Nat) {w : Cond} (h : lw_tbl[i]? = some w) : w ∈ lw_tbl := List.mem_of_getElem? h
set_option maxHeartbeats 4000000 in
set_option maxRecDepth 100000 in
/-- THE LAW, from its entry, out of what its function says -/
theorem zwhole {p : Program} {e : Env} {s : State} {m : MethodId} {below : List Frame} {meth : Method} {c : Code} (l : Launch) {b L : Nat} {xs : Nat → Int32} (hL : L ≤ 3072) (C0 : lw_At p s m meth c b L xs) {μ1 : zS} (hF : F_L_law L xs z00 = some (1, μ1)) : W p l e room_1 s m #[Value.ref b] below meth c s.heap [] 0 0 (lw_Z below #[Value.ref b] s) (entryFrame m ([Value.ref b] : List Value).toArray 4) := by
  obtain ⟨hx, hb, hr, hml, hown, hts, hX, hbl, hlocks, hgv, hname⟩ := C0
  have hs := flat_of_before _ hgv
  have hsm : ∀ (i : Nat) {w : Cond}, (flatC (Jvm.Cond.and given_1 narrow_1))[i]? = some w → w.before #[Value.ref b] s = true := fun i _ h => hs _ (List.mem_of_getElem? h)
  have hA : ∀ a : Nat, a < s.heap.size → ¬ (fun a => s.heap.size ≤ a) a := fun a h => Nat.not_le.mpr h
  obtain ⟨c0, i0, k0⟩ := u_known (C := zn0) (T := zT0) (N := 7) (n := 7) (fun w hw => hts w (List.mem_filter.mp hw).1) zcls0.2.2.2.2 (hts (.instantiable zn0 7) (znl_tbl 178 (by decide +kernel)))
  obtain ⟨c1, i1, k1⟩ := u_known (C := zn1) (T := zT1) (N := 3) (n := 3) (fun w hw => hts w (List.mem_filter.mp hw).1) zcls1.2.2.2.2 (hts (.instantiable zn1 3) (znl_tbl 133 (by decide +kernel)))
  obtain ⟨c2, i2, k2⟩ := u_known (C := zn2) (T := zT2) (N := 4) (n := 4) (fun w hw => hts w (List.mem_filter.mp hw).1) zcls2.2.2.2.2 (hts (.instantiable zn2 4) (znl_tbl 102 (by decide +kernel)))
  obtain ⟨c3, i3, k3⟩ := u_known (C := zn3) (T := zT3) (N := 10) (n := 10) (fun w hw => hts w (List.mem_filter.mp hw).1) zcls3.2.2.2.2 (hts (.instantiable zn3 10) (znl_tbl 211 (by decide +kernel)))
  obtain ⟨c4, i4, k4⟩ := u_known (C := zn4) (T := zT4) (N := 5) (n := 5) (fun w hw => hts w (List.mem_filter.mp hw).1) zcls4.2.2.2.2 (hts (.instantiable zn4 5) (znl_tbl 151 (by decide +kernel)))
  obtain ⟨c5, i5, k5⟩ := u_known (C := zn5) (T := zT5) (N := 8) (n := 8) (fun w hw => hts w (List.mem_filter.mp hw).1) zcls5.2.2.2.2 (hts (.instantiable zn5 8) (znl_tbl 293 (by decide +kernel)))
  obtain ⟨c6, i6, k6⟩ := u_known (C := zn6) (T := zT6) (N := 3) (n := 3) (fun w hw => hts w (List.mem_filter.mp hw).1) zcls6.2.2.2.2 (hts (.instantiable zn6 3) (znl_tbl 274 (by decide +kernel)))
  obtain ⟨c7, i7, k7⟩ := u_known (C := zn7) (T := zT7) (N := 4) (n := 4) (fun w hw => hts w (List.mem_filter.mp hw).1) zcls7.2.2.2.2 (hts (.instantiable zn7 4) (znl_tbl 256 (by decide +kernel)))
  obtain ⟨c8, i8, k8⟩ := u_known (C := zn8) (T := zT8) (N := 16) (n := 16) (fun w hw => hts w (List.mem_filter.mp hw).1) zcls8.2.2.2.2 (hts (.instantiable zn8 16) (znl_tbl 94 (by decide +kernel)))
  obtain ⟨c9, i9, k9⟩ := u_known (C := zn9) (T := zT9) (N := 53) (n := 53) (fun w hw => hts w (List.mem_filter.mp hw).1) zcls9.2.2.2.2 (hts (.instantiable zn9 53) (znl_tbl 905 (by decide +kernel)))
  obtain ⟨dC, dI, hKc⟩ : ∃ (dC : Nat → ClassId) (dI : Nat → Nat → Nat), ∀ (k : Nat) (q : vw_C), vwCl[k]? = some q → u_Kn s q.1 q.2.1 q.2.2 (dC k) (dI k) := by
    refine ⟨fun k => if k = 0 then c0 else if k = 1 then c1 else if k = 2 then c2 else if k = 3 then c3 else if k = 4 then c4 else if k = 5 then c5 else if k = 6 then c6 else if k = 7 then c7 else if k = 8 then c8 else c9, fun k => if k = 0 then i0 else if k = 1 then i1 else if k = 2 then i2 else if k = 3 then i3 else if k = 4 then i4 else if k = 5 then i5 else if k = 6 then i6 else if k = 7 then i7 else if k = 8 then i8 else i9, ?_⟩
    intro k q hq
    match k, hq with
    | 0, hq => cases hq; exact k0
    | 1, hq => cases hq; exact k1
    | 2, hq => cases hq; exact k2
    | 3, hq => cases hq; exact k3
    | 4, hq => cases hq; exact k4
    | 5, hq => cases hq; exact k5
    | 6, hq => cases hq; exact k6
    | 7, hq => cases hq; exact k7
    | 8, hq => cases hq; exact k8
    | 9, hq => cases hq; exact k9
    | k + 10, hq => simp [vwCl] at hq
  obtain ⟨cI, aI⟩ := zarr_prim (hts (.arrayClass .int) (znl_tbl 127 (by decide +kernel))) (fun _ h => by cases h)
  obtain ⟨cZ, aZ⟩ := zarr_prim (hts (.arrayClass .boolean) (znl_tbl 1069 (by decide +kernel))) (fun _ h => by cases h)
  obtain ⟨cH, aH⟩ := zarr_prim (hts (.arrayClass .char) (znl_tbl 1070 (by decide +kernel))) (fun _ h => by cases h)
  obtain ⟨cJ, aJ⟩ := zarr_prim (hts (.arrayClass .long) (znl_tbl 208 (by decide +kernel))) (fun _ h => by cases h)
  obtain ⟨cP, aP⟩ := zarr_obj (hts (.arrayOver (.object "PostsFilled$Person")) (znl_tbl 129 (by decide +kernel)))
  obtain ⟨cT, aT⟩ := zarr_obj (hts (.arrayOver (.object "PostsFilled$Text")) (znl_tbl 131 (by decide +kernel)))
  obtain ⟨cS, aS⟩ := zarr_obj (hts (.arrayOver (.object "PostsFilled$Sheet")) (znl_tbl 210 (by decide +kernel)))
  obtain ⟨ua, hua, huT⟩ := va_Tof (args := #[Value.ref b]) (s := s) (tm := .static "PostsFilled$Person" "UNDER" "[I") (ty := .int) (N := 6) (f := fun j => .int (zUnd j)) (A := fun a => s.heap.size ≤ a) (by decide) (hsm 10 (by decide +kernel)) (va_eqv (u := .int 6) (hsm 11 (by decide +kernel)) rfl) (fun j hj => va_eqv (hs _ (va_run zund_el j hj)) rfl) hA
  obtain ⟨adK, adV, hvS, hadK⟩ := vk_Sof (args := #[Value.ref b]) (s := s) (N := 2) (tm := fun i => if i = 0 then .string "PostsFilled" 94 else .string "PostsFilled$Reader" 100) (len := zlen) (byt := zbyt) (A := fun a => s.heap.size ≤ a)
    (fun i hi => by rcases (show i = 0 ∨ i = 1 by omega) with rfl | rfl <;> decide)
    (fun i hi => by rcases (show i = 0 ∨ i = 1 by omega) with rfl | rfl; exact hsm 48 (by decide +kernel); exact hsm 127 (by decide +kernel))
    (fun i hi => by rcases (show i = 0 ∨ i = 1 by omega) with rfl | rfl; exact hsm 49 (by decide +kernel); exact hsm 128 (by decide +kernel))
    (fun i hi => by rcases (show i = 0 ∨ i = 1 by omega) with rfl | rfl; exact hsm 50 (by decide +kernel); exact hsm 129 (by decide +kernel))
    (fun i hi => by rcases (show i = 0 ∨ i = 1 by omega) with rfl | rfl; exact hsm 51 (by decide +kernel); exact hsm 130 (by decide +kernel))
    (fun i hi j hj => by rcases (show i = 0 ∨ i = 1 by omega) with rfl | rfl; exact hs _ (va_run zstr_el0 j hj); exact hs _ (va_run zstr_el1 j hj))
    (fun i j hi hj hij => by
      have hn := hsm 191 (w := .not (.eq (.string "PostsFilled" 94) (.string "PostsFilled$Reader" 100))) (by decide +kernel)
      rcases (show (i = 0 ∧ j = 1) ∨ (i = 1 ∧ j = 0) by omega) with ⟨rfl, rfl⟩ | ⟨rfl, rfl⟩
      · exact Or.inl hn
      · exact Or.inr hn) hA
  obtain ⟨vS, hvS1, hvS2⟩ := Cond.isRef_spec (hsm 5 (w := .isRef (.static "jdk/internal/util/Preconditions" "SIOOBE_FORMATTER" "Ljava/util/function/BiFunction;")) (by decide +kernel))
  let g : zG := (l, (dC, dI), (fun ty => match ty with | .int => cI | .boolean => cZ | .char => cH | .long => cJ | .object C => if C = "PostsFilled$Person" then cP else if C = "PostsFilled$Text" then cT else cS | _ => cI), s.heap.size, [(b, L, xs)], ua, adK, adV)
  have hK : va_K g.2.1 vwCl (ztys g) s := by
    refine ⟨hKc, fun k q h => ?_⟩
    match k, h with
    | 0, h => cases h; exact aI
    | 1, h => cases h; exact aZ
    | 2, h => cases h; exact aH
    | 3, h => cases h; exact aJ
    | 4, h => cases h; exact aP
    | 5, h => cases h; exact aT
    | 6, h => cases h; exact aS
    | k + 7, h => simp [ztys] at h
  obtain ⟨scr, x1, x2, x3, x4, x5⟩ := hX
  have hO : zOld g s := by
    refine ⟨fun q hq => ?_, ⟨va_Zof (hts (.laysStatic "PostsFilled$Person" "UNDER" "[I") (znl_tbl 575 (by decide +kernel))) (hts (.initialized "PostsFilled$Person") (znl_tbl 80 (by decide +kernel))) hua hA, huT⟩,
      va_Zof (hts (.laysStatic "java/lang/String" "COMPACT_STRINGS" "Z") (znl_tbl 334 (by decide +kernel))) (hts (.initialized "java/lang/String") (znl_tbl 85 (by decide +kernel))) (va_eqv (u := .int 1) (hsm 4 (by decide +kernel)) rfl) hA,
      hvS, vk_R.of (hts (.stringRef "PostsFilled" 94 zt1) (znl_tbl 324 (by decide +kernel))) (hadK 0 (by decide)), vk_R.of (hts (.stringRef "PostsFilled$Reader" 100 zt2) (znl_tbl 400 (by decide +kernel))) (hadK 1 (by decide)),
      fun a i x h hw => va_Nw.of rfl (hts _ hw), va_AO.of (hts _ (znl_tbl 129 (by decide +kernel))), va_AO.of (hts _ (znl_tbl 131 (by decide +kernel))), va_AO.of (hts _ (znl_tbl 210 (by decide +kernel))),
      vS, ?_, va_Zof (hts (.laysStatic "jdk/internal/util/Preconditions" "SIOOBE_FORMATTER" "Ljava/util/function/BiFunction;") (znl_tbl 350 (by decide +kernel))) (hts (.initialized "jdk/internal/util/Preconditions") (znl_tbl 87 (by decide +kernel))) hvS1 hA⟩
    · rw [List.mem_singleton.mp hq]
      exact ⟨scr, x1, x2, x3, by rw [x4]; exact Nat.le_refl _, by rw [x4], x5, hA b hbl⟩
    · cases vS <;> first | exact Or.inl rfl | exact Or.inr ⟨_, rfl⟩ | (exact absurd hvS2 (by simp [Value.isRef]))
  have hC : zC g zy_L_law p s m #[Value.ref b] meth c := ⟨hx, hb, hr, hml, hown, fun w hw => hts w (List.mem_filter.mp hw).1, hK, hlocks, hname, Nat.le_refl _, hO⟩
  have hw := B_L_law g 922 (b := b) (L := L) (xs := xs) (by exact List.mem_singleton.mpr rfl) hF
  have hl := lv_entry ([.ref b]) (n := 4) (Nat.le_of_ble_eq_true rfl)
  rw [lg_entry_eq]
  have hR : zR g z00 s.heap := ⟨by show s.heap.size = s.heap.size + 0; rfl, fun k q h => by simp [zWs, z00] at h⟩
  have h1 := hw p e s m #[Value.ref b] below meth c s.heap [] _ hC hR va_S.rf ⟨hl.1, hl.2.1, fun i v hi => ?_⟩ (by show s.heap.size + 0 ≤ s.heap.size + 0; exact Nat.le_refl _)
  · refine zW_room (R2 := zRm (922 + 78) 104 7593) (Nat.le_of_ble_eq_true rfl) (Nat.le_of_ble_eq_true rfl) (Nat.le_of_ble_eq_true rfl) (Nat.le_of_ble_eq_true rfl) (fun t ht => ?_) h1
    obtain ⟨o, t1, t2, ⟨t3, -, -, -⟩, LL, ⟨t5, t6, t7⟩, t8⟩ := ht
    subst t3
    refine ⟨_, t1, t2, rfl, ⟨_, rfl⟩, t6, ?_⟩
    exact t7.weaken (fun y hy hlt => absurd hlt (Nat.not_lt.mpr (t8 y hy))) (Nat.le_of_ble_eq_true rfl) (Nat.le_of_ble_eq_true rfl)
  · match i, hi with
    | 0, hi => cases hi; exact hl.2.2 (0, .ref b) (by simp [lv_args])
    | 1, hi => cases hi
    | 2, hi => cases hi
    | 3, hi => cases hi
    | i + 4, hi => simp at hi
