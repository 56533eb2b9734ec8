-- ===== String constants =====
def zch (j : Nat) (i : Int32) : Option Int32 := if ¬ i < 0 ∧ i.toNatClampNeg < zlen.getD j 0 then some ((zbyt.getD j []).getD i.toNatClampNeg 0 &&& 255) else none
section ZR
variable {τ : Type} {g : zG} {y : zY} {d mc ms : Nat} {w : τ → Option Value × zS} {o : τ} {k n pc : Nat} {ls : List (Option Value)} {st stk : List Value} {μ : zS} {f : Option τ}
abbrev zKa (g : zG) (j : Nat) : Nat := g.2.2.2.2.2.2.1 j
abbrev zVa (g : zG) (j : Nat) : Nat := g.2.2.2.2.2.2.2 j
theorem zj_nret {ty : FieldType} {v : Int32} {t : τ} (hnv : narrow ty (.int v) = .int v) (hw : w t = (some (.int v), μ)) (hr : y.2.2.2 = some ty) (hkm : k = mc) (hn : n = ms) (hd : decode y.2.1 pc = .ok (.ireturn, 1)) : zJ g y d mc ms w o k n pc ls [.int v] μ (some t) := by
  intro hf p e s m args below meth c H locs A hC hR hS hl hk
  cases hf; subst hkm; subst hn
  have hlocks : meth.locks = false := hC.2.2.2.2.2.2.2.1
  rw [hw]
  exact W.zret hC.1 hC.2.1 (hC.2.2.1.trans hr) hnv (fun t ht _ => ⟨rfl, by rw [ht]; exact hR, hS.F ht, by rw [ht, hR.1]; exact hk⟩) hS.2.2 hd hlocks
theorem zj_oval {j idx : Nat} (hj : j < 2) (hl : Cond.fieldLink y.1.cls idx "java/lang/String" "value" "[B" ∈ gtbl) (hd : decode y.2.1 pc = .ok (.getfield idx, 3)) (kk : zJ g y d mc ms w o k n (pc + 3) ls (.ref (zVa g j) :: st) μ f) : zJ g y d mc ms w o k n pc ls (.ref (zKa g j) :: st) μ f := by
  intro hf p e s m args below meth c H locs A hC hR hS hlA hk
  exact vk_getf hC.1 hC.2.1 (hC.2.2.2.2.2.2.2.2.2.2.2.2.2.1.1 j hj).2.2.1 hS hC.2.2.2.2.1 (hC.2.2.2.2.2.1 _ hl) (fun _ h => h) hd (kk hf p e s m args below meth c H locs A hC hR hS hlA hk)
theorem zj_ocod {j idx : Nat} (hj : j < 2) (hl : Cond.fieldLink y.1.cls idx "java/lang/String" "coder" "B" ∈ gtbl) (hd : decode y.2.1 pc = .ok (.getfield idx, 3)) (kk : zJ g y d mc ms w o k n (pc + 3) ls (.int 0 :: st) μ f) : zJ g y d mc ms w o k n pc ls (.ref (zKa g j) :: st) μ f := by
  intro hf p e s m args below meth c H locs A hC hR hS hlA hk
  exact vk_getf hC.1 hC.2.1 (hC.2.2.2.2.2.2.2.2.2.2.2.2.2.1.1 j hj).2.1 hS hC.2.2.2.2.1 (hC.2.2.2.2.2.1 _ hl) (fun _ h => h) hd (kk hf p e s m args below meth c H locs A hC hR hS hlA hk)
theorem zj_ocom {idx : Nat} (hl : Cond.fieldLink y.1.cls idx "java/lang/String" "COMPACT_STRINGS" "Z" ∈ gtbl) (hd : decode y.2.1 pc = .ok (.getstatic idx, 3)) (kk : zJ g y d mc ms w o k n (pc + 3) ls (.int 1 :: st) μ f) : zJ g y d mc ms w o k n pc ls st μ f := by
  intro hf p e s m args below meth c H locs A hC hR hS hlA hk
  exact va_gets hC.1 hC.2.1 hC.2.2.2.2.2.2.2.2.2.2.2.2.1 hS hC.2.2.2.2.1 (hC.2.2.2.2.2.1 _ hl) (fun _ h => h) hd (kk hf p e s m args below meth c H locs A hC hR hS hlA hk)
theorem zj_osio {idx : Nat} (hl : Cond.fieldLink y.1.cls idx "jdk/internal/util/Preconditions" "SIOOBE_FORMATTER" "Ljava/util/function/BiFunction;" ∈ gtbl) (hd : decode y.2.1 pc = .ok (.getstatic idx, 3)) (kk : ∀ v : Value, v.category = 1 → zJ g y d mc ms w o k n (pc + 3) ls (v :: st) μ f) : zJ g y d mc ms w o k n pc ls st μ f := by
  intro hf p e s m args below meth c H locs A hC hR hS hlA hk
  obtain ⟨v, hv, hz⟩ := hC.2.2.2.2.2.2.2.2.2.2.2.2.2.2.2.2.2.2.2.2
  exact va_gets hC.1 hC.2.1 hz hS hC.2.2.2.2.1 (hC.2.2.2.2.2.1 _ hl) (fun _ h => h) hd (kk v (by rcases hv with rfl | ⟨a, rfl⟩ <;> rfl) hf p e s m args below meth c H locs A hC hR hS hlA hk)
theorem zj_olen {j : Nat} (hj : j < 2) (hd : decode y.2.1 pc = .ok (.arraylength, 1)) (kk : zJ g y d mc ms w o k n (pc + 1) ls (.int (Int32.ofNat (zlen.getD j 0)) :: st) μ f) : zJ g y d mc ms w o k n pc ls (.ref (zVa g j) :: st) μ f := by
  intro hf p e s m args below meth c H locs A hC hR hS hlA hk
  exact va_tlen hC.1 hC.2.1 (hC.2.2.2.2.2.2.2.2.2.2.2.2.2.1.1 j hj).2.2.2 hS rfl hd (kk hf p e s m args below meth c H locs A hC hR hS hlA hk)
theorem zj_obal {j : Nat} {i : Int32} (hj : j < 2) (hi : ¬ i < 0 ∧ i.toNatClampNeg < zlen.getD j 0) (hd : decode y.2.1 pc = .ok (.baload, 1)) (kk : zJ g y d mc ms w o k n (pc + 1) ls (.int ((zbyt.getD j []).getD i.toNatClampNeg 0) :: st) μ f) : zJ g y d mc ms w o k n pc ls (.int i :: .ref (zVa g j) :: st) μ f := by
  intro hf p e s m args below meth c H locs A hC hR hS hlA hk
  exact va_tb hC.1 hC.2.1 (hC.2.2.2.2.2.2.2.2.2.2.2.2.2.1.1 j hj).2.2.2 hS (fun hh => hh.elim hi.1 (fun h4 => by omega)) (v := .int ((zbyt.getD j []).getD i.toNatClampNeg 0)) rfl hd (kk hf p e s m args below meth c H locs A hC hR hS hlA hk)
theorem zj_cO {y2 : zY} {n2 d2 idx j : Nat} (hj : j < 2) (hcl : y2.1.cls = "java/lang/String") (As : List Value) (hy : zVir y2 n2) (hl : Cond.methodLink y.1.cls idx y2.1 ∈ gtbl) {v : Int32} (hM : zMt g y2 d2 0 0 (.ref (zKa g j) :: As) μ (some (.int v)) μ) (hd2 : d2 + 1 ≤ d) (hb : k ≤ mc ∧ n ≤ ms) (hn : As.length = n2) (hs : stk = As.reverse ++ .ref (zKa g j) :: st) (h8 : (st.map fun v => v.category).sum ≤ 8) (hd : decode y.2.1 pc = .ok (.invokevirtual idx, 3)) (kk : zJ g y d mc ms w o k n (pc + 3) ls (.int v :: st) μ f) : zJ g y d mc ms w o k n pc ls stk μ f := by
  intro hf p e s m args below meth c H locs A hC hR hS hlA hk
  obtain ⟨⟨m1, m2, m3, m4, m5, m6⟩, v1, v2⟩ := hy
  have hts := hC.2.2.2.2.2.1
  have cb : CallB (zRm d mc ms) s args y.1.cls idx y2.1 y2.2.1 y2.2.2.1 y2.2.2.2 (zws y2) (zRm d2 0 0) 0 0 n2 := callB_of n2 hts (zGood m1) rfl rfl rfl (hts _ m2) (hts _ hl) ⟨m3, m4, m5⟩ (zrm_ok m6 hd2)
  have hr := va_runV (p := p) (l := g.1) (e := e) (R := zRm d mc ms) (below := below) (meth := meth) (H := H) (locs := locs) (cells := k) (slots := n) (C := y2.1.cls) (g := F0 m pc A stk) (rest := st) (b := zKa g j) (As := As) ⟨hC.1, hC.2.1, hC.2.2.2.1, hC.2.2.2.2.1, hts⟩ hM ⟨cb, hts _ v1, hts _ v2⟩ ⟨zU.blind, by rw [hcl]; exact vk_recv hC.2.2.2.2.2.2.2.2.2.2.2.2.2.1 hj hS, fun U hU hW => ⟨rfl, zU.at hC.2.2.2.2.2.2.2.2.2.1 hR hS hC.2.2.2.2.2.2.1 hC.2.2.2.2.2.2.2.2.2.2 hU hW⟩⟩ rfl hn hlA.1 hs (lv_room (m := m) (pc := pc) (ls := A) (rest := stk) h8) hd hb
  exact zcall_end hr hR hS hk rfl (fun H1 locs1 hR1 hS1 hk1 => kk hf p e s m args below meth c H1 locs1 A hC hR1 hS1 hlA hk1)
theorem zj_cSN {y2 : zY} {n2 d2 idx : Nat} (As : List Value) (hy : zSta y2 n2) (hl : Cond.methodLink y.1.cls idx y2.1 ∈ gtbl) (ov : Option Value) (hM : zMt g y2 d2 0 0 As μ ov μ) (hd2 : d2 + 1 ≤ d) (hb : k ≤ mc ∧ n ≤ ms) (hn : As.length = n2) (hs : stk = As.reverse ++ st) (h8 : (st.map fun v => v.category).sum ≤ 8) (hd : decode y.2.1 pc = .ok (.invokestatic idx, 3)) {st2 : List Value} (hst : ov.toList ++ st = st2) (kk : zJ g y d mc ms w o k n (pc + 3) ls st2 μ f) : zJ g y d mc ms w o k n pc ls stk μ f := by
  intro hf p e s m args below meth c H locs A hC hR hS hlA hk
  obtain ⟨⟨m1, m2, m3, m4, m5, m6⟩, v1⟩ := hy
  have hts := hC.2.2.2.2.2.1
  have cb : CallB (zRm d mc ms) s args y.1.cls idx y2.1 y2.2.1 y2.2.2.1 y2.2.2.2 (zws y2) (zRm d2 0 0) 0 0 n2 := callB_of n2 hts (zGood m1) rfl rfl rfl (hts _ m2) (hts _ hl) ⟨m3, m4, m5⟩ (zrm_ok m6 hd2)
  have hr := va_runS (p := p) (l := g.1) (e := e) (R := zRm d mc ms) (below := below) (meth := meth) (H := H) (locs := locs) (cells := k) (slots := n) (g := F0 m pc A stk) (rest := st) (As := As) ⟨hC.1, hC.2.1, hC.2.2.2.1, hC.2.2.2.2.1, hts⟩ hM ⟨cb, hts _ v1⟩ ⟨zU.blind, fun U hU hW => ⟨rfl, zU.at hC.2.2.2.2.2.2.2.2.2.1 hR hS hC.2.2.2.2.2.2.1 hC.2.2.2.2.2.2.2.2.2.2 hU hW⟩⟩ rfl hn hlA.1 hs (lv_room (m := m) (pc := pc) (ls := A) (rest := stk) h8) hd hb
  exact zcall_end hr hR hS hk hst (fun H1 locs1 hR1 hS1 hk1 => kk hf p e s m args below meth c H1 locs1 A hC hR1 hS1 hlA hk1)
end ZR
theorem fs_9 : Cond.fieldLink "java/lang/String" 9 "java/lang/String" "value" "[B" ∈ gtbl := zin 1386 (by decide +kernel) (by decide +kernel)
theorem fs_15 : Cond.fieldLink "java/lang/String" 15 "java/lang/String" "coder" "B" ∈ gtbl := zin 1387 (by decide +kernel) (by decide +kernel)
theorem fs_38 : Cond.fieldLink "java/lang/String" 38 "java/lang/String" "COMPACT_STRINGS" "Z" ∈ gtbl := zin 333 (by decide +kernel) (by decide +kernel)
theorem fs_1053 : Cond.fieldLink "java/lang/String" 1053 "jdk/internal/util/Preconditions" "SIOOBE_FORMATTER" "Ljava/util/function/BiFunction;" ∈ gtbl := zin 349 (by decide +kernel) (by decide +kernel)
theorem B_s_coder (g : zG) (d : Nat) {u0 : zS} {j : Nat} (hj : j < 2) : zMt g zy_String_coder (d + 1) 0 0 [.ref (zKa g j)] u0 (some (.int 0)) u0 := by
  refine zMt_of2 (ls := [some (.ref (zKa g j))]) 0 (by decide +kernel) (Nat.le_of_ble_eq_true rfl) rfl ?_
  refine (show zJ g zy_String_coder (d + 1) 0 0 (zwIp u0) 0 0 0 0 [some (.ref (zKa g j))] [] u0 (some 0) from ?_) rfl
  refine zj_ocom fs_38 d_String_coder_0 ?_
  refine zj_if_eq_f 13 d_String_coder_3 rfl (by decide) ?_
  refine zj_aload_o d_String_coder_6 rfl ?_
  refine zj_ocod hj fs_15 d_String_coder_7 ?_
  refine zj_goto 14 d_String_coder_10 rfl ?_
  exact zj_nret (ty := .byte) (by decide) rfl rfl rfl rfl d_String_coder_14
theorem B_s_isLatin1 (g : zG) (d : Nat) {u0 : zS} {j : Nat} (hj : j < 2) : zMt g zy_String_isLatin1 (d + 1) 0 0 [.ref (zKa g j)] u0 (some (.int 1)) u0 := by
  refine zMt_of2 (ls := [some (.ref (zKa g j))]) 0 (by decide +kernel) (Nat.le_of_ble_eq_true rfl) rfl ?_
  refine (show zJ g zy_String_isLatin1 (d + 1) 0 0 (zwIp u0) 1 0 0 0 [some (.ref (zKa g j))] [] u0 (some 1) from ?_) rfl
  refine zj_ocom fs_38 d_String_isLatin1_0 ?_
  refine zj_if_eq_f 17 d_String_isLatin1_3 rfl (by decide) ?_
  refine zj_aload_o d_String_isLatin1_6 rfl ?_
  refine zj_ocod hj fs_15 d_String_isLatin1_7 ?_
  refine zj_if_ne_f 17 d_String_isLatin1_10 rfl (by decide) ?_
  refine zj_iconst 1 d_String_isLatin1_13 (by decide) ?_
  refine zj_goto 18 d_String_isLatin1_14 rfl ?_
  exact zj_zretL (by decide) rfl rfl rfl rfl d_String_isLatin1_18
theorem B_s_length (g : zG) (d : Nat) {u0 : zS} {j : Nat} (hj : j < 2) : zMt g zy_String_length (d + 2) 0 0 [.ref (zKa g j)] u0 (some (.int (Int32.ofNat (zlen.getD j 0)))) u0 := by
  refine zMt_of2 (ls := [some (.ref (zKa g j))]) 0 (by decide +kernel) (Nat.le_of_ble_eq_true rfl) rfl ?_
  refine (show zJ g zy_String_length (d + 2) 0 0 (zwIp u0) (Int32.ofNat (zlen.getD j 0)) 0 0 0 [some (.ref (zKa g j))] [] u0 (some (Int32.ofNat (zlen.getD j 0))) from ?_) rfl
  refine zj_aload_o d_String_length_0 rfl ?_
  refine zj_oval hj fs_9 d_String_length_1 ?_
  refine zj_olen hj d_String_length_4 ?_
  refine zj_aload_o d_String_length_5 rfl ?_
  refine zj_cO hj rfl [] zm_V_String_coder ml_String_335 (B_s_coder g d hj) (Nat.le_refl _) ⟨Nat.zero_le _, Nat.zero_le _⟩ rfl rfl (by simp [zcI]) d_String_length_6 ?_
  refine zj_ishr d_String_length_9 ?_
  exact zj_iret (v := Int32.ofNat (zlen.getD j 0) >>> ((0 : Int32) &&& 31)) (by rcases (show j = 0 ∨ j = 1 by omega) with rfl | rfl <;> rfl) rfl rfl rfl d_String_length_10
theorem B_s_pre (g : zG) (d : Nat) {u0 : zS} {i n : Int32} {v : Value} (hv : v.category = 1) (h1 : ¬ i < 0) (h2 : i < n) : zMt g zy_Preconditions_checkIndex (d + 1) 0 0 [.int i, .int n, v] u0 (some (.int i)) u0 := by
  refine zMt_of2 (ls := [some (.int i), some (.int n), some v]) 0 (by decide +kernel) (by simp [lg_sl, zcI, hv]) (by simp [zal, zcI, hv, List.replicate]) ?_
  refine (show zJ g zy_Preconditions_checkIndex (d + 1) 0 0 (zwIp u0) i 0 0 0 [some (.int i), some (.int n), some v] [] u0 (some i) from ?_) rfl
  refine zj_iload_n d_Preconditions_checkIndex_0 rfl ?_
  refine zj_if_lt_f 9 d_Preconditions_checkIndex_1 rfl h1 ?_
  refine zj_iload_n d_Preconditions_checkIndex_4 rfl ?_
  refine zj_iload_n d_Preconditions_checkIndex_5 rfl ?_
  refine zj_icmp_lt_t 16 d_Preconditions_checkIndex_6 rfl h2 ?_
  refine zj_iload_n d_Preconditions_checkIndex_16 rfl ?_
  exact zj_iret rfl rfl rfl rfl d_Preconditions_checkIndex_17
theorem B_s_checkIndex (g : zG) (d : Nat) {u0 : zS} {i n : Int32} (h1 : ¬ i < 0) (h2 : i < n) : zMt g zy_String_checkIndex (d + 2) 0 0 [.int i, .int n] u0 none u0 := by
  refine zMt_of2 (ls := [some (.int i), some (.int n)]) 0 (by decide +kernel) (Nat.le_of_ble_eq_true rfl) rfl ?_
  refine (show zJ g zy_String_checkIndex (d + 2) 0 0 zwV u0 0 0 0 [some (.int i), some (.int n)] [] u0 (some u0) from ?_) rfl
  refine zj_iload_n d_String_checkIndex_0 rfl ?_
  refine zj_iload_n d_String_checkIndex_1 rfl ?_
  refine zj_osio fs_1053 d_String_checkIndex_2 (fun v hv => ?_)
  refine zj_cSN [.int i, .int n, v] zm_S_Preconditions_checkIndex ml_String_1059 (some (.int i)) (B_s_pre g d hv h1 h2) (Nat.le_refl _) ⟨Nat.zero_le _, Nat.zero_le _⟩ rfl rfl (by decide) d_String_checkIndex_5 rfl ?_
  refine zj_pop d_String_checkIndex_8 rfl ?_
  exact zj_vret rfl rfl rfl rfl d_String_checkIndex_9
theorem zch_ok : ∀ j, j < 2 → ∀ i, i < zlen.getD j 0 → ((((zbyt.getD j []).getD i 0 &&& 255).toUInt32 % 65536).toInt32 = (zbyt.getD j []).getD i 0 &&& 255 ∧ narrow .char (.int ((zbyt.getD j []).getD i 0 &&& 255)) = .int ((zbyt.getD j []).getD i 0 &&& 255)) := by decide +kernel
theorem zlen_lt {j : Nat} (hj : j < 2) {i : Int32} (hi : ¬ i < 0 ∧ i.toNatClampNeg < zlen.getD j 0) : i < Int32.ofNat (zlen.getD j 0) := by
  obtain ⟨q, hq, rfl⟩ := nI_of hi.1
  rw [nI_clamp hq] at hi
  exact nI_lt hi.2 (by rcases (show j = 0 ∨ j = 1 by omega) with rfl | rfl <;> decide)
theorem B_s_latin (g : zG) (d : Nat) {u0 : zS} {j : Nat} {i : Int32} (hj : j < 2) (hi : ¬ i < 0 ∧ i.toNatClampNeg < zlen.getD j 0) : zMt g zy_StringLatin1_charAt (d + 3) 0 0 [.ref (zVa g j), .int i] u0 (some (.int ((zbyt.getD j []).getD i.toNatClampNeg 0 &&& 255))) u0 := by
  refine zMt_of2 (ls := [some (.ref (zVa g j)), some (.int i)]) 0 (by decide +kernel) (Nat.le_of_ble_eq_true rfl) rfl ?_
  refine (show zJ g zy_StringLatin1_charAt (d + 3) 0 0 (zwIp u0) ((zbyt.getD j []).getD i.toNatClampNeg 0 &&& 255) 0 0 0 [some (.ref (zVa g j)), some (.int i)] [] u0 (some ((zbyt.getD j []).getD i.toNatClampNeg 0 &&& 255)) from ?_) rfl
  refine zj_iload_n d_StringLatin1_charAt_0 rfl ?_
  refine zj_aload_o d_StringLatin1_charAt_1 rfl ?_
  refine zj_olen hj d_StringLatin1_charAt_2 ?_
  refine zj_cSN [.int i, .int (Int32.ofNat (zlen.getD j 0))] zm_S_String_checkIndex ml_StringLatin1_9 none (B_s_checkIndex g d hi.1 (zlen_lt hj hi)) (Nat.le_refl _) ⟨Nat.zero_le _, Nat.zero_le _⟩ rfl rfl (by decide) d_StringLatin1_charAt_3 rfl ?_
  refine zj_aload_o d_StringLatin1_charAt_6 rfl ?_
  refine zj_iload_n d_StringLatin1_charAt_7 rfl ?_
  refine zj_obal hj hi d_StringLatin1_charAt_8 ?_
  refine zj_sipush 255 d_StringLatin1_charAt_9 (by decide) ?_
  refine zj_iand d_StringLatin1_charAt_12 ?_
  refine zj_i2c d_StringLatin1_charAt_13 ?_
  have hok := zch_ok j hj _ hi.2
  rw [hok.1]
  exact zj_nret (ty := .char) hok.2 rfl rfl rfl rfl d_StringLatin1_charAt_14
theorem B_s_charAt (g : zG) (d : Nat) {u0 : zS} {j : Nat} {i : Int32} (hj : j < 2) (hi : ¬ i < 0 ∧ i.toNatClampNeg < zlen.getD j 0) : zMt g zy_String_charAt (d + 4) 0 0 [.ref (zKa g j), .int i] u0 (some (.int ((zbyt.getD j []).getD i.toNatClampNeg 0 &&& 255))) u0 := by
  refine zMt_of2 (ls := [some (.ref (zKa g j)), some (.int i)]) 0 (by decide +kernel) (Nat.le_of_ble_eq_true rfl) rfl ?_
  refine (show zJ g zy_String_charAt (d + 4) 0 0 (zwIp u0) ((zbyt.getD j []).getD i.toNatClampNeg 0 &&& 255) 0 0 0 [some (.ref (zKa g j)), some (.int i)] [] u0 (some ((zbyt.getD j []).getD i.toNatClampNeg 0 &&& 255)) from ?_) rfl
  refine zj_aload_o d_String_charAt_0 rfl ?_
  refine zj_cO hj rfl [] zm_V_String_isLatin1 ml_String_492 (B_s_isLatin1 g (d + 2) hj) (Nat.le_refl _) ⟨Nat.zero_le _, Nat.zero_le _⟩ rfl rfl (by decide) d_String_charAt_1 ?_
  refine zj_if_eq_f 16 d_String_charAt_4 rfl (by decide) ?_
  refine zj_aload_o d_String_charAt_7 rfl ?_
  refine zj_oval hj fs_9 d_String_charAt_8 ?_
  refine zj_iload_n d_String_charAt_11 rfl ?_
  refine zj_cSN [.ref (zVa g j), .int i] zm_S_StringLatin1_charAt ml_String_495 _ (B_s_latin g d hj hi) (Nat.le_refl _) ⟨Nat.zero_le _, Nat.zero_le _⟩ rfl rfl (by decide) d_String_charAt_12 rfl ?_
  exact zj_nret (ty := .char) (zch_ok j hj _ hi.2).2 rfl rfl rfl rfl d_String_charAt_15
section ZR
variable {τ : Type} {g : zG} {y : zY} {d mc ms : Nat} {w : τ → Option Value × zS} {o : τ} {k n pc : Nat} {ls : List (Option Value)} {st stk : List Value} {μ : zS} {f : Option τ}
theorem zj_strlen0 {idx : Nat} (hl : Cond.methodLink y.1.cls idx zy_String_length.1 ∈ gtbl) (hd1 : 3 ≤ d) (hb : k ≤ mc ∧ n ≤ ms) (h8 : (st.map fun v => v.category).sum ≤ 8) (hd : decode y.2.1 pc = .ok (.invokevirtual idx, 3)) (kk : zJ g y d mc ms w o k n (pc + 3) ls (.int 75 :: st) μ f) : zJ g y d mc ms w o k n pc ls (.ref (g.2.2.2.2.2.2.1 0) :: st) μ f :=
  zj_cO (j := 0) (by decide) rfl [] zm_V_String_length hl (B_s_length g 0 (by decide)) (by omega) hb rfl rfl h8 hd kk
theorem zj_strlen1 {idx : Nat} (hl : Cond.methodLink y.1.cls idx zy_String_length.1 ∈ gtbl) (hd1 : 3 ≤ d) (hb : k ≤ mc ∧ n ≤ ms) (h8 : (st.map fun v => v.category).sum ≤ 8) (hd : decode y.2.1 pc = .ok (.invokevirtual idx, 3)) (kk : zJ g y d mc ms w o k n (pc + 3) ls (.int 60 :: st) μ f) : zJ g y d mc ms w o k n pc ls (.ref (g.2.2.2.2.2.2.1 1) :: st) μ f :=
  zj_cO (j := 1) (by decide) rfl [] zm_V_String_length hl (B_s_length g 0 (by decide)) (by omega) hb rfl rfl h8 hd kk
theorem zj_strch {idx j : Nat} {i : Int32} {f : Int32 → Option τ} (hj : j < 2) (hl : Cond.methodLink y.1.cls idx zy_String_charAt.1 ∈ gtbl) (hd1 : 5 ≤ d) (hb : k ≤ mc ∧ n ≤ ms) (h8 : (st.map fun v => v.category).sum ≤ 8) (hd : decode y.2.1 pc = .ok (.invokevirtual idx, 3)) (kk : ∀ v, zJ g y d mc ms w o k n (pc + 3) ls (.int v :: st) μ (f v)) : zJ g y d mc ms w o k n pc ls (.int i :: .ref (zKa g j) :: st) μ ((zch j i).bind f) := by
  intro hf
  obtain ⟨v, h1, hf2⟩ := zbind_some hf
  unfold zch at h1
  by_cases hc : ¬ i < 0 ∧ i.toNatClampNeg < zlen.getD j 0
  · rw [if_pos hc] at h1
    have h1 := Option.some.inj h1
    subst h1
    exact zj_cO hj rfl [.int i] zm_V_String_charAt hl (B_s_charAt g 0 hj hc) (by omega) hb rfl rfl h8 hd (kk _) hf2
  · rw [if_neg hc] at h1; cases h1
theorem zj_strch0 {idx : Nat} {i : Int32} {f : Int32 → Option τ} (hl : Cond.methodLink y.1.cls idx zy_String_charAt.1 ∈ gtbl) (hd1 : 5 ≤ d) (hb : k ≤ mc ∧ n ≤ ms) (h8 : (st.map fun v => v.category).sum ≤ 8) (hd : decode y.2.1 pc = .ok (.invokevirtual idx, 3)) (kk : ∀ v, zJ g y d mc ms w o k n (pc + 3) ls (.int v :: st) μ (f v)) : zJ g y d mc ms w o k n pc ls (.int i :: .ref (g.2.2.2.2.2.2.1 0) :: st) μ ((zch 0 i).bind f) := zj_strch (j := 0) (by decide) hl hd1 hb h8 hd kk
theorem zj_strch1 {idx : Nat} {i : Int32} {f : Int32 → Option τ} (hl : Cond.methodLink y.1.cls idx zy_String_charAt.1 ∈ gtbl) (hd1 : 5 ≤ d) (hb : k ≤ mc ∧ n ≤ ms) (h8 : (st.map fun v => v.category).sum ≤ 8) (hd : decode y.2.1 pc = .ok (.invokevirtual idx, 3)) (kk : ∀ v, zJ g y d mc ms w o k n (pc + 3) ls (.int v :: st) μ (f v)) : zJ g y d mc ms w o k n pc ls (.int i :: .ref (g.2.2.2.2.2.2.1 1) :: st) μ ((zch 1 i).bind f) := zj_strch (j := 1) (by decide) hl hd1 hb h8 hd kk
end ZR
-- ===== Math =====
def zmax (x y : Int32) : Int32 := if x < y then y else x
def zmin (x y : Int32) : Int32 := if y < x then y else x
def zabs (x : Int32) : Int32 := if 0 ≤ x then x else 0 - x
section ZR
variable {τ : Type} {g : zG} {y : zY} {d mc ms : Nat} {w : τ → Option Value × zS} {o : τ} {k n pc : Nat} {ls : List (Option Value)} {st : List Value} {μ : zS} {f : Option τ}
theorem zj_mmax {idx : Nat} {a b : Int32} (hl : Cond.methodLink y.1.cls idx Lib.Math.max.name ∈ gtbl) (h1 : Cond.static Lib.Math.max.name ∈ gtbl) (h2 : Cond.initialized "java/lang/Math" ∈ gtbl) (h3 : Cond.code Lib.Math.max.name Lib.Math.max.code 2 (some .int) ∈ gtbl) (hd1 : 1 ≤ d) (hb : k ≤ mc ∧ n ≤ ms) (h8 : (st.map fun v => v.category).sum ≤ 8) (hd : decode y.2.1 pc = .ok (.invokestatic idx, 3)) (kk : zJ g y d mc ms w o k n (pc + 3) ls (.int (zmax a b) :: st) μ f) : zJ g y d mc ms w o k n pc ls (.int b :: .int a :: st) μ f := by
  intro hf p e s m args below meth c H locs A hC hR hS hlA hk
  have hts := hC.2.2.2.2.2.1
  exact va_mmax hC.1 hC.2.1 (hC.2.2.2.1.trans hlA.1.symm) hC.2.2.2.2.1 (hts _ hl) (hts _ h1) (hts _ h2) (hts _ h3) hd1 (by show _ ≤ 80 * d; omega) hb.1 hb.2 hd (kk hf p e s m args below meth c H locs A hC hR hS hlA hk)
theorem zj_mmin {idx : Nat} {a b : Int32} (hl : Cond.methodLink y.1.cls idx Lib.Math.min.name ∈ gtbl) (h1 : Cond.static Lib.Math.min.name ∈ gtbl) (h2 : Cond.initialized "java/lang/Math" ∈ gtbl) (h3 : Cond.code Lib.Math.min.name Lib.Math.min.code 2 (some .int) ∈ gtbl) (hd1 : 1 ≤ d) (hb : k ≤ mc ∧ n ≤ ms) (h8 : (st.map fun v => v.category).sum ≤ 8) (hd : decode y.2.1 pc = .ok (.invokestatic idx, 3)) (kk : zJ g y d mc ms w o k n (pc + 3) ls (.int (zmin a b) :: st) μ f) : zJ g y d mc ms w o k n pc ls (.int b :: .int a :: st) μ f := by
  intro hf p e s m args below meth c H locs A hC hR hS hlA hk
  have hts := hC.2.2.2.2.2.1
  exact va_mmin hC.1 hC.2.1 (hC.2.2.2.1.trans hlA.1.symm) hC.2.2.2.2.1 (hts _ hl) (hts _ h1) (hts _ h2) (hts _ h3) hd1 (by show _ ≤ 80 * d; omega) hb.1 hb.2 hd (kk hf p e s m args below meth c H locs A hC hR hS hlA hk)
theorem zj_mabs {idx : Nat} {a : Int32} (hl : Cond.methodLink y.1.cls idx Lib.Math.abs.name ∈ gtbl) (h1 : Cond.static Lib.Math.abs.name ∈ gtbl) (h2 : Cond.initialized "java/lang/Math" ∈ gtbl) (h3 : Cond.code Lib.Math.abs.name Lib.Math.abs.code 1 (some .int) ∈ gtbl) (hd1 : 1 ≤ d) (hb : k ≤ mc ∧ n ≤ ms) (h8 : (st.map fun v => v.category).sum ≤ 8) (hd : decode y.2.1 pc = .ok (.invokestatic idx, 3)) (kk : zJ g y d mc ms w o k n (pc + 3) ls (.int (zabs a) :: st) μ f) : zJ g y d mc ms w o k n pc ls (.int a :: st) μ f := by
  intro hf p e s m args below meth c H locs A hC hR hS hlA hk
  have hts := hC.2.2.2.2.2.1
  exact va_mabs hC.1 hC.2.1 (hC.2.2.2.1.trans hlA.1.symm) hC.2.2.2.2.1 (hts _ hl) (hts _ h1) (hts _ h2) (hts _ h3) hd1 (by show _ ≤ 80 * d; omega) hb.1 hb.2 hd (kk hf p e s m args below meth c H locs A hC hR hS hlA hk)
end ZR
