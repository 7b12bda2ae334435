def y_Hall_begin : MethodName := ⟨"OrderHall", "begin", "(I)V"⟩
theorem d_Hall_begin_0 : decode prog_1_method_2_code 0 = .ok (.iload_n 1, 1) := by decide +kernel
theorem d_Hall_begin_1 : decode prog_1_method_2_code 1 = .ok (.iconst 1, 1) := by decide +kernel
theorem d_Hall_begin_2 : decode prog_1_method_2_code 2 = .ok (.if_icmp .lt 9, 3) := by decide +kernel
theorem d_Hall_begin_5 : decode prog_1_method_2_code 5 = .ok (.iload_n 1, 1) := by decide +kernel
theorem d_Hall_begin_6 : decode prog_1_method_2_code 6 = .ok (.bipush 14, 2) := by decide +kernel
theorem d_Hall_begin_8 : decode prog_1_method_2_code 8 = .ok (.if_icmp .le 13, 3) := by decide +kernel
theorem d_Hall_begin_11 : decode prog_1_method_2_code 11 = .ok (.new 60, 3) := by decide +kernel
theorem d_Hall_begin_14 : decode prog_1_method_2_code 14 = .ok (.dup, 1) := by decide +kernel
theorem d_Hall_begin_15 : decode prog_1_method_2_code 15 = .ok (.ldc 62, 2) := by decide +kernel
theorem d_Hall_begin_17 : decode prog_1_method_2_code 17 = .ok (.invokespecial 64, 3) := by decide +kernel
theorem d_Hall_begin_20 : decode prog_1_method_2_code 20 = .ok (.athrow, 1) := by decide +kernel
theorem d_Hall_begin_21 : decode prog_1_method_2_code 21 = .ok (.aload_n 0, 1) := by decide +kernel
theorem d_Hall_begin_22 : decode prog_1_method_2_code 22 = .ok (.invokevirtual 67, 3) := by decide +kernel
theorem d_Hall_begin_25 : decode prog_1_method_2_code 25 = .ok (.aload_n 0, 1) := by decide +kernel
theorem d_Hall_begin_26 : decode prog_1_method_2_code 26 = .ok (.getfield 10, 3) := by decide +kernel
theorem d_Hall_begin_29 : decode prog_1_method_2_code 29 = .ok (.iload_n 1, 1) := by decide +kernel
theorem d_Hall_begin_30 : decode prog_1_method_2_code 30 = .ok (.invokevirtual 70, 3) := by decide +kernel
theorem d_Hall_begin_33 : decode prog_1_method_2_code 33 = .ok (.return_, 1) := by decide +kernel
noncomputable def f_Hall_begin (a0 : Int32) (M : oz_M) : Option ((Nat ⊕ Unit) × oz_M) := if a0 < 1 then (some (.inl 2, M)) else (if 14 < a0 then (some (.inl 2, M)) else (oz_b2 (f_Hall_unsettle M) fun v1 M2 => oz_b2 (f_Arcs_clear a0 M2) fun v3 M4 => some (.inr (), M4)))
set_option maxRecDepth 20000 in
set_option maxHeartbeats 4000000 in
theorem w_Hall_begin {G : oz_G} {a0 : Int32} {M : oz_M} {r : (Nat ⊕ Unit) × oz_M} (cx : oz_C G prog_1_method_2_code "OrderHall") (hR : oz_RtX G none (fun _ : Unit => none) r) (hRm : oz_big G.1.2.2.2.1 5) (hnL : oz_nL G = 2) (hF : f_Hall_begin a0 M = some r) : oz_Z G 0 [(0, .ref (oz_b G + 0)), (1, .int a0)] [] M := by
  refine (?_ : oz_R G 0 [(0, .ref (oz_b G + 0)), (1, .int a0)] [] M (f_Hall_begin a0 M) (fun x => x = r)) _ hF rfl
  unfold f_Hall_begin
  refine oz_iload_n (q := 1) cx d_Hall_begin_0 rfl rfl 1 rfl ?_
  refine oz_iconst (q := 2) cx d_Hall_begin_1 rfl (v := 1) rfl ?_
  refine oz_icmp_lt (q := 5) cx d_Hall_begin_2 rfl rfl (fun h6 => ?_) (fun h6 => ?_)
  · exact oz_throw cx 2 hR (by decide) (oz_up hRm (by decide)) ⟨tw_363, tw_364, tw_13⟩ (List.mem_of_getElem? (i := 0) rfl) rfl d_Hall_begin_11 d_Hall_begin_14 d_Hall_begin_15 d_Hall_begin_17 d_Hall_begin_20
  · refine oz_iload_n (q := 6) cx d_Hall_begin_5 rfl rfl 1 rfl ?_
    refine oz_bipush (q := 8) cx d_Hall_begin_6 rfl (v := 14) rfl ?_
    refine oz_icmp_le (q := 11) cx d_Hall_begin_8 rfl rfl (fun h5 => ?_) (fun h5 => ?_)
    · refine oz_aload_n (q := 22) cx d_Hall_begin_21 rfl rfl 0 rfl ?_
      refine oz_cVv (q := 25) cx 0 [] 0 0 hRm (by decide) (by decide) (fun _ _ h => c_Hall_unsettle h) ⟨tw_257, tw_259, ts_0, tw_1⟩ tw_260 (by decide +kernel) rfl (by decide) rfl rfl (st := []) rfl (Nat.le_of_ble_eq_true rfl) d_Hall_begin_22 rfl (fun v1 M2 hv1 => ?_)
      refine oz_aload_n (q := 26) cx d_Hall_begin_25 rfl rfl 0 rfl ?_
      refine oz_get (q := 29) cx 0 0 (by decide) (ci := 0) rfl rfl tin_Hall (by decide) rfl rfl tw_228 d_Hall_begin_26 rfl ?_
      refine oz_iload_n (q := 30) cx d_Hall_begin_29 rfl rfl 1 rfl ?_
      refine oz_cVv (q := 33) cx 1 [.int a0] 1 1 hRm (by decide) (by decide) (fun _ _ h => c_Arcs_clear h) ⟨tw_430, tw_431, tw_432, tw_2⟩ tw_433 (by decide +kernel) rfl (by decide) rfl rfl (st := []) rfl (Nat.le_of_ble_eq_true rfl) d_Hall_begin_30 rfl (fun v3 M4 hv3 => ?_)
      exact oz_vretX cx hR d_Hall_begin_33
    · exact oz_throw cx 2 hR (by decide) (oz_up hRm (by decide)) ⟨tw_363, tw_364, tw_13⟩ (List.mem_of_getElem? (i := 0) rfl) rfl d_Hall_begin_11 d_Hall_begin_14 d_Hall_begin_15 d_Hall_begin_17 d_Hall_begin_20
theorem c_Hall_begin {l : Launch} {D : va_G} {cs : Nat → ClassId} {b : Nat} {a0 : Int32} {M : oz_M} {Mz : oz_M} (hF : f_Hall_begin a0 M = some (.inr (), Mz)) : oz_Met l D cs b y_Hall_begin prog_1_method_2_code 2 none (oz_rm 5) [.ref (b + 0), .int a0] M (none) Mz := by
  refine oz_enter (by decide) (Nat.le_of_ble_eq_true rfl) (fun G cx hR e1 hRm e2 e3 e4 hnL => ?_)
  subst e1; subst e2; subst e3; subst e4
  exact w_Hall_begin cx ⟨fun _ h => (by cases h; exact hR), fun _ h => (by cases h)⟩ hRm hnL hF
theorem t_Hall_begin {l : Launch} {D : va_G} {cs : Nat → ClassId} {b : Nat} {a0 : Int32} {M : oz_M} {kz : Nat} {Mz : oz_M} (hfl : l.stackTraces = false) (hF : f_Hall_begin a0 M = some (.inl kz, Mz)) : oz_MetT l D cs b y_Hall_begin prog_1_method_2_code 2 none 5 [.ref (b + 0), .int a0] M kz Mz := by
  refine oz_enterT hfl (by decide) (Nat.le_of_ble_eq_true rfl) (fun G cx hR e1 hRm e2 e3 e4 hnL => ?_)
  subst e1; subst e2; subst e3; subst e4
  exact w_Hall_begin cx ⟨fun _ h => (by cases h), fun _ h => (by cases h; exact hR)⟩ hRm hnL hF
def y_Hall_wantElement : MethodName := ⟨"OrderHall", "wantElement", "(II)V"⟩
theorem d_Hall_wantElement_0 : decode prog_1_method_27_code 0 = .ok (.iload_n 0, 1) := by decide +kernel
theorem d_Hall_wantElement_1 : decode prog_1_method_27_code 1 = .ok (.ifCond .lt 8, 3) := by decide +kernel
theorem d_Hall_wantElement_4 : decode prog_1_method_27_code 4 = .ok (.iload_n 0, 1) := by decide +kernel
theorem d_Hall_wantElement_5 : decode prog_1_method_27_code 5 = .ok (.iload_n 1, 1) := by decide +kernel
theorem d_Hall_wantElement_6 : decode prog_1_method_27_code 6 = .ok (.if_icmp .lt 13, 3) := by decide +kernel
theorem d_Hall_wantElement_9 : decode prog_1_method_27_code 9 = .ok (.new 230, 3) := by decide +kernel
theorem d_Hall_wantElement_12 : decode prog_1_method_27_code 12 = .ok (.dup, 1) := by decide +kernel
theorem d_Hall_wantElement_13 : decode prog_1_method_27_code 13 = .ok (.ldc 232, 2) := by decide +kernel
theorem d_Hall_wantElement_15 : decode prog_1_method_27_code 15 = .ok (.invokespecial 234, 3) := by decide +kernel
theorem d_Hall_wantElement_18 : decode prog_1_method_27_code 18 = .ok (.athrow, 1) := by decide +kernel
theorem d_Hall_wantElement_19 : decode prog_1_method_27_code 19 = .ok (.return_, 1) := by decide +kernel
def f_Hall_wantElement (a0 : Int32) (a1 : Int32) (M : oz_M) : Option ((Nat ⊕ Unit) × oz_M) := if a0 < 0 then (some (.inl 1, M)) else (if a0 < a1 then (some (.inr (), M)) else (some (.inl 1, M)))
set_option maxRecDepth 20000 in
set_option maxHeartbeats 4000000 in
theorem w_Hall_wantElement {G : oz_G} {a0 : Int32} {a1 : Int32} {M : oz_M} {r : (Nat ⊕ Unit) × oz_M} (cx : oz_C G prog_1_method_27_code "OrderHall") (hR : oz_RtX G none (fun _ : Unit => none) r) (hRm : oz_big G.1.2.2.2.1 5) (hnL : oz_nL G = 2) (hF : f_Hall_wantElement a0 a1 M = some r) : oz_Z G 0 [(0, .int a0), (1, .int a1)] [] M := by
  refine (?_ : oz_R G 0 [(0, .int a0), (1, .int a1)] [] M (f_Hall_wantElement a0 a1 M) (fun x => x = r)) _ hF rfl
  unfold f_Hall_wantElement
  refine oz_iload_n (q := 1) cx d_Hall_wantElement_0 rfl rfl 0 rfl ?_
  refine oz_if_lt (q := 4) cx d_Hall_wantElement_1 rfl rfl (fun h2 => ?_) (fun h2 => ?_)
  · exact oz_throw cx 1 hR (by decide) (oz_up hRm (by decide)) ⟨tw_445, tw_446, tw_14⟩ (List.mem_of_getElem? (i := 4) rfl) rfl d_Hall_wantElement_9 d_Hall_wantElement_12 d_Hall_wantElement_13 d_Hall_wantElement_15 d_Hall_wantElement_18
  · refine oz_iload_n (q := 5) cx d_Hall_wantElement_4 rfl rfl 0 rfl ?_
    refine oz_iload_n (q := 6) cx d_Hall_wantElement_5 rfl rfl 1 rfl ?_
    refine oz_icmp_lt (q := 9) cx d_Hall_wantElement_6 rfl rfl (fun h1 => ?_) (fun h1 => ?_)
    · exact oz_vretX cx hR d_Hall_wantElement_19
    · exact oz_throw cx 1 hR (by decide) (oz_up hRm (by decide)) ⟨tw_445, tw_446, tw_14⟩ (List.mem_of_getElem? (i := 4) rfl) rfl d_Hall_wantElement_9 d_Hall_wantElement_12 d_Hall_wantElement_13 d_Hall_wantElement_15 d_Hall_wantElement_18
theorem c_Hall_wantElement {l : Launch} {D : va_G} {cs : Nat → ClassId} {b : Nat} {a0 : Int32} {a1 : Int32} {M : oz_M} {Mz : oz_M} (hF : f_Hall_wantElement a0 a1 M = some (.inr (), Mz)) : oz_Met l D cs b y_Hall_wantElement prog_1_method_27_code 2 none (oz_rm 5) [.int a0, .int a1] M (none) Mz := by
  refine oz_enter (by decide) (Nat.le_of_ble_eq_true rfl) (fun G cx hR e1 hRm e2 e3 e4 hnL => ?_)
  subst e1; subst e2; subst e3; subst e4
  exact w_Hall_wantElement cx ⟨fun _ h => (by cases h; exact hR), fun _ h => (by cases h)⟩ hRm hnL hF
theorem t_Hall_wantElement {l : Launch} {D : va_G} {cs : Nat → ClassId} {b : Nat} {a0 : Int32} {a1 : Int32} {M : oz_M} {kz : Nat} {Mz : oz_M} (hfl : l.stackTraces = false) (hF : f_Hall_wantElement a0 a1 M = some (.inl kz, Mz)) : oz_MetT l D cs b y_Hall_wantElement prog_1_method_27_code 2 none 5 [.int a0, .int a1] M kz Mz := by
  refine oz_enterT hfl (by decide) (Nat.le_of_ble_eq_true rfl) (fun G cx hR e1 hRm e2 e3 e4 hnL => ?_)
  subst e1; subst e2; subst e3; subst e4
  exact w_Hall_wantElement cx ⟨fun _ h => (by cases h), fun _ h => (by cases h; exact hR)⟩ hRm hnL hF
def y_Hall_wantSettled : MethodName := ⟨"OrderHall", "wantSettled", "()V"⟩
theorem d_Hall_wantSettled_0 : decode prog_1_method_26_code 0 = .ok (.aload_n 0, 1) := by decide +kernel
theorem d_Hall_wantSettled_1 : decode prog_1_method_26_code 1 = .ok (.getfield 222, 3) := by decide +kernel
theorem d_Hall_wantSettled_4 : decode prog_1_method_26_code 4 = .ok (.ifCond .ne 13, 3) := by decide +kernel
theorem d_Hall_wantSettled_7 : decode prog_1_method_26_code 7 = .ok (.new 225, 3) := by decide +kernel
theorem d_Hall_wantSettled_10 : decode prog_1_method_26_code 10 = .ok (.dup, 1) := by decide +kernel
theorem d_Hall_wantSettled_11 : decode prog_1_method_26_code 11 = .ok (.ldc 227, 2) := by decide +kernel
theorem d_Hall_wantSettled_13 : decode prog_1_method_26_code 13 = .ok (.invokespecial 229, 3) := by decide +kernel
theorem d_Hall_wantSettled_16 : decode prog_1_method_26_code 16 = .ok (.athrow, 1) := by decide +kernel
theorem d_Hall_wantSettled_17 : decode prog_1_method_26_code 17 = .ok (.return_, 1) := by decide +kernel
def f_Hall_wantSettled (M : oz_M) : Option ((Nat ⊕ Unit) × oz_M) := if (M.1 0 7) = 0 then (some (.inl 0, M)) else (some (.inr (), M))
set_option maxRecDepth 20000 in
set_option maxHeartbeats 4000000 in
theorem w_Hall_wantSettled {G : oz_G} {M : oz_M} {r : (Nat ⊕ Unit) × oz_M} (cx : oz_C G prog_1_method_26_code "OrderHall") (hR : oz_RtX G none (fun _ : Unit => none) r) (hRm : oz_big G.1.2.2.2.1 5) (hnL : oz_nL G = 1) (hF : f_Hall_wantSettled M = some r) : oz_Z G 0 [(0, .ref (oz_b G + 0))] [] M := by
  refine (?_ : oz_R G 0 [(0, .ref (oz_b G + 0))] [] M (f_Hall_wantSettled  M) (fun x => x = r)) _ hF rfl
  unfold f_Hall_wantSettled
  refine oz_aload_n (q := 1) cx d_Hall_wantSettled_0 rfl rfl 0 rfl ?_
  refine oz_get (q := 4) cx 0 7 (by decide) (ci := 0) rfl rfl tin_Hall (by decide) rfl rfl tw_235 d_Hall_wantSettled_1 rfl ?_
  refine oz_if_ne (q := 7) cx d_Hall_wantSettled_4 rfl rfl (fun h1 => ?_) (fun h1 => ?_)
  · exact oz_vretX cx hR d_Hall_wantSettled_17
  · exact oz_throw cx 0 hR (by decide) (oz_up hRm (by decide)) ⟨tw_489, tw_490, tw_17⟩ (List.mem_of_getElem? (i := 3) rfl) rfl d_Hall_wantSettled_7 d_Hall_wantSettled_10 d_Hall_wantSettled_11 d_Hall_wantSettled_13 d_Hall_wantSettled_16
theorem c_Hall_wantSettled {l : Launch} {D : va_G} {cs : Nat → ClassId} {b : Nat} {M : oz_M} {Mz : oz_M} (hF : f_Hall_wantSettled M = some (.inr (), Mz)) : oz_Met l D cs b y_Hall_wantSettled prog_1_method_26_code 1 none (oz_rm 5) [.ref (b + 0)] M (none) Mz := by
  refine oz_enter (by decide) (Nat.le_of_ble_eq_true rfl) (fun G cx hR e1 hRm e2 e3 e4 hnL => ?_)
  subst e1; subst e2; subst e3; subst e4
  exact w_Hall_wantSettled cx ⟨fun _ h => (by cases h; exact hR), fun _ h => (by cases h)⟩ hRm hnL hF
theorem t_Hall_wantSettled {l : Launch} {D : va_G} {cs : Nat → ClassId} {b : Nat} {M : oz_M} {kz : Nat} {Mz : oz_M} (hfl : l.stackTraces = false) (hF : f_Hall_wantSettled M = some (.inl kz, Mz)) : oz_MetT l D cs b y_Hall_wantSettled prog_1_method_26_code 1 none 5 [.ref (b + 0)] M kz Mz := by
  refine oz_enterT hfl (by decide) (Nat.le_of_ble_eq_true rfl) (fun G cx hR e1 hRm e2 e3 e4 hnL => ?_)
  subst e1; subst e2; subst e3; subst e4
  exact w_Hall_wantSettled cx ⟨fun _ h => (by cases h), fun _ h => (by cases h; exact hR)⟩ hRm hnL hF
def y_Hall_wantUpTo : MethodName := ⟨"OrderHall", "wantUpTo", "(II)V"⟩
theorem d_Hall_wantUpTo_0 : decode prog_1_method_28_code 0 = .ok (.iload_n 0, 1) := by decide +kernel
theorem d_Hall_wantUpTo_1 : decode prog_1_method_28_code 1 = .ok (.ifCond .lt 8, 3) := by decide +kernel
theorem d_Hall_wantUpTo_4 : decode prog_1_method_28_code 4 = .ok (.iload_n 0, 1) := by decide +kernel
theorem d_Hall_wantUpTo_5 : decode prog_1_method_28_code 5 = .ok (.iload_n 1, 1) := by decide +kernel
theorem d_Hall_wantUpTo_6 : decode prog_1_method_28_code 6 = .ok (.if_icmp .le 13, 3) := by decide +kernel
theorem d_Hall_wantUpTo_9 : decode prog_1_method_28_code 9 = .ok (.new 60, 3) := by decide +kernel
theorem d_Hall_wantUpTo_12 : decode prog_1_method_28_code 12 = .ok (.dup, 1) := by decide +kernel
theorem d_Hall_wantUpTo_13 : decode prog_1_method_28_code 13 = .ok (.ldc 235, 2) := by decide +kernel
theorem d_Hall_wantUpTo_15 : decode prog_1_method_28_code 15 = .ok (.invokespecial 64, 3) := by decide +kernel
theorem d_Hall_wantUpTo_18 : decode prog_1_method_28_code 18 = .ok (.athrow, 1) := by decide +kernel
theorem d_Hall_wantUpTo_19 : decode prog_1_method_28_code 19 = .ok (.return_, 1) := by decide +kernel
def f_Hall_wantUpTo (a0 : Int32) (a1 : Int32) (M : oz_M) : Option ((Nat ⊕ Unit) × oz_M) := if a0 < 0 then (some (.inl 2, M)) else (if a1 < a0 then (some (.inl 2, M)) else (some (.inr (), M)))
set_option maxRecDepth 20000 in
set_option maxHeartbeats 4000000 in
theorem w_Hall_wantUpTo {G : oz_G} {a0 : Int32} {a1 : Int32} {M : oz_M} {r : (Nat ⊕ Unit) × oz_M} (cx : oz_C G prog_1_method_28_code "OrderHall") (hR : oz_RtX G none (fun _ : Unit => none) r) (hRm : oz_big G.1.2.2.2.1 5) (hnL : oz_nL G = 2) (hF : f_Hall_wantUpTo a0 a1 M = some r) : oz_Z G 0 [(0, .int a0), (1, .int a1)] [] M := by
  refine (?_ : oz_R G 0 [(0, .int a0), (1, .int a1)] [] M (f_Hall_wantUpTo a0 a1 M) (fun x => x = r)) _ hF rfl
  unfold f_Hall_wantUpTo
  refine oz_iload_n (q := 1) cx d_Hall_wantUpTo_0 rfl rfl 0 rfl ?_
  refine oz_if_lt (q := 4) cx d_Hall_wantUpTo_1 rfl rfl (fun h2 => ?_) (fun h2 => ?_)
  · exact oz_throw cx 2 hR (by decide) (oz_up hRm (by decide)) ⟨tw_363, tw_364, tw_13⟩ (List.mem_of_getElem? (i := 5) rfl) rfl d_Hall_wantUpTo_9 d_Hall_wantUpTo_12 d_Hall_wantUpTo_13 d_Hall_wantUpTo_15 d_Hall_wantUpTo_18
  · refine oz_iload_n (q := 5) cx d_Hall_wantUpTo_4 rfl rfl 0 rfl ?_
    refine oz_iload_n (q := 6) cx d_Hall_wantUpTo_5 rfl rfl 1 rfl ?_
    refine oz_icmp_le (q := 9) cx d_Hall_wantUpTo_6 rfl rfl (fun h1 => ?_) (fun h1 => ?_)
    · exact oz_vretX cx hR d_Hall_wantUpTo_19
    · exact oz_throw cx 2 hR (by decide) (oz_up hRm (by decide)) ⟨tw_363, tw_364, tw_13⟩ (List.mem_of_getElem? (i := 5) rfl) rfl d_Hall_wantUpTo_9 d_Hall_wantUpTo_12 d_Hall_wantUpTo_13 d_Hall_wantUpTo_15 d_Hall_wantUpTo_18
theorem c_Hall_wantUpTo {l : Launch} {D : va_G} {cs : Nat → ClassId} {b : Nat} {a0 : Int32} {a1 : Int32} {M : oz_M} {Mz : oz_M} (hF : f_Hall_wantUpTo a0 a1 M = some (.inr (), Mz)) : oz_Met l D cs b y_Hall_wantUpTo prog_1_method_28_code 2 none (oz_rm 5) [.int a0, .int a1] M (none) Mz := by
  refine oz_enter (by decide) (Nat.le_of_ble_eq_true rfl) (fun G cx hR e1 hRm e2 e3 e4 hnL => ?_)
  subst e1; subst e2; subst e3; subst e4
  exact w_Hall_wantUpTo cx ⟨fun _ h => (by cases h; exact hR), fun _ h => (by cases h)⟩ hRm hnL hF
theorem t_Hall_wantUpTo {l : Launch} {D : va_G} {cs : Nat → ClassId} {b : Nat} {a0 : Int32} {a1 : Int32} {M : oz_M} {kz : Nat} {Mz : oz_M} (hfl : l.stackTraces = false) (hF : f_Hall_wantUpTo a0 a1 M = some (.inl kz, Mz)) : oz_MetT l D cs b y_Hall_wantUpTo prog_1_method_28_code 2 none 5 [.int a0, .int a1] M kz Mz := by
  refine oz_enterT hfl (by decide) (Nat.le_of_ble_eq_true rfl) (fun G cx hR e1 hRm e2 e3 e4 hnL => ?_)
  subst e1; subst e2; subst e3; subst e4
  exact w_Hall_wantUpTo cx ⟨fun _ h => (by cases h), fun _ h => (by cases h; exact hR)⟩ hRm hnL hF
def y_Hall_antichain : MethodName := ⟨"OrderHall", "antichain", "(I)I"⟩
theorem d_Hall_antichain_0 : decode prog_1_method_11_code 0 = .ok (.aload_n 0, 1) := by decide +kernel
theorem d_Hall_antichain_1 : decode prog_1_method_11_code 1 = .ok (.invokevirtual 103, 3) := by decide +kernel
theorem d_Hall_antichain_4 : decode prog_1_method_11_code 4 = .ok (.iload_n 1, 1) := by decide +kernel
theorem d_Hall_antichain_5 : decode prog_1_method_11_code 5 = .ok (.iconst 1, 1) := by decide +kernel
theorem d_Hall_antichain_6 : decode prog_1_method_11_code 6 = .ok (.invokestatic 116, 3) := by decide +kernel
theorem d_Hall_antichain_9 : decode prog_1_method_11_code 9 = .ok (.aload_n 0, 1) := by decide +kernel
theorem d_Hall_antichain_10 : decode prog_1_method_11_code 10 = .ok (.getfield 42, 3) := by decide +kernel
theorem d_Hall_antichain_13 : decode prog_1_method_11_code 13 = .ok (.invokevirtual 136, 3) := by decide +kernel
theorem d_Hall_antichain_16 : decode prog_1_method_11_code 16 = .ok (.aload_n 0, 1) := by decide +kernel
theorem d_Hall_antichain_17 : decode prog_1_method_11_code 17 = .ok (.getfield 26, 3) := by decide +kernel
theorem d_Hall_antichain_20 : decode prog_1_method_11_code 20 = .ok (.aload_n 0, 1) := by decide +kernel
theorem d_Hall_antichain_21 : decode prog_1_method_11_code 21 = .ok (.getfield 42, 3) := by decide +kernel
theorem d_Hall_antichain_24 : decode prog_1_method_11_code 24 = .ok (.getfield 155, 3) := by decide +kernel
theorem d_Hall_antichain_27 : decode prog_1_method_11_code 27 = .ok (.iload_n 1, 1) := by decide +kernel
theorem d_Hall_antichain_28 : decode prog_1_method_11_code 28 = .ok (.ifCond .ne 13, 3) := by decide +kernel
theorem d_Hall_antichain_31 : decode prog_1_method_11_code 31 = .ok (.aload_n 0, 1) := by decide +kernel
theorem d_Hall_antichain_32 : decode prog_1_method_11_code 32 = .ok (.getfield 26, 3) := by decide +kernel
theorem d_Hall_antichain_35 : decode prog_1_method_11_code 35 = .ok (.getfield 107, 3) := by decide +kernel
theorem d_Hall_antichain_38 : decode prog_1_method_11_code 38 = .ok (.goto 10, 3) := by decide +kernel
theorem d_Hall_antichain_41 : decode prog_1_method_11_code 41 = .ok (.aload_n 0, 1) := by decide +kernel
theorem d_Hall_antichain_42 : decode prog_1_method_11_code 42 = .ok (.getfield 26, 3) := by decide +kernel
theorem d_Hall_antichain_45 : decode prog_1_method_11_code 45 = .ok (.getfield 113, 3) := by decide +kernel
theorem d_Hall_antichain_48 : decode prog_1_method_11_code 48 = .ok (.invokevirtual 119, 3) := by decide +kernel
theorem d_Hall_antichain_51 : decode prog_1_method_11_code 51 = .ok (.ireturn, 1) := by decide +kernel
noncomputable def f_Hall_antichain (a0 : Int32) (M : oz_M) : Option ((Nat ⊕ Int32) × oz_M) := oz_b2 (f_Hall_wantSettled M) fun w M1 => oz_el (fun kx => some (.inl kx, M1)) (fun _ => oz_b2 (f_Hall_wantUpTo a0 1 M1) fun w M2 => oz_el (fun kx => some (.inl kx, M2)) (fun _ => oz_b2 (f_Held_measure M2) fun v3 M4 => if a0 = 0 then ((f_Order_ends (M4.1 45 5) 8 M4).bind fun v6 => some (.inr v6, M4)) else ((f_Order_ends (M4.1 45 5) 7 M4).bind fun v5 => some (.inr v5, M4))) w) w
set_option maxRecDepth 20000 in
set_option maxHeartbeats 4000000 in
theorem w_Hall_antichain {G : oz_G} {a0 : Int32} {M : oz_M} {r : (Nat ⊕ Int32) × oz_M} (cx : oz_C G prog_1_method_11_code "OrderHall") (hR : oz_RtX G (some .int) (fun v : Int32 => some (.int v)) r) (hRm : oz_big G.1.2.2.2.1 6) (hnL : oz_nL G = 2) (hF : f_Hall_antichain a0 M = some r) : oz_Z G 0 [(0, .ref (oz_b G + 0)), (1, .int a0)] [] M := by
  refine (?_ : oz_R G 0 [(0, .ref (oz_b G + 0)), (1, .int a0)] [] M (f_Hall_antichain a0 M) (fun x => x = r)) _ hF rfl
  unfold f_Hall_antichain
  refine oz_aload_n (q := 1) cx d_Hall_antichain_0 rfl rfl 0 rfl ?_
  refine oz_tV (q := 4) cx hR 0 [] 0 0 hRm (by decide) (by decide) (fun _ h => c_Hall_wantSettled h) (fun _ _ hfl h => t_Hall_wantSettled hfl h) ⟨tw_485, tw_487, ts_11, tw_1⟩ tw_488 (by decide +kernel) rfl (by decide) rfl rfl (st := []) rfl (Nat.le_of_ble_eq_true rfl) d_Hall_antichain_1 rfl (fun M1 hM1 => ?_)
  refine oz_iload_n (q := 5) cx d_Hall_antichain_4 rfl rfl 1 rfl ?_
  refine oz_iconst (q := 6) cx d_Hall_antichain_5 rfl (v := 1) rfl ?_
  refine oz_tS (q := 9) cx hR [.int a0, .int 1] 2 hRm (by decide) (by decide) (fun _ h => c_Hall_wantUpTo h) (fun _ _ hfl h => t_Hall_wantUpTo hfl h) ⟨tw_513, tw_514, tw_1⟩ tw_515 (by decide +kernel) rfl (st := []) rfl (Nat.le_of_ble_eq_true rfl) d_Hall_antichain_6 rfl (fun M2 hM2 => ?_)
  refine oz_aload_n (q := 10) cx d_Hall_antichain_9 rfl rfl 0 rfl ?_
  refine oz_get (q := 13) cx 0 4 (by decide) (ci := 0) rfl rfl tin_Hall (by decide) rfl rfl tw_232 d_Hall_antichain_10 rfl ?_
  refine oz_cVv (q := 16) cx 45 [] 0 5 hRm (by decide) (by decide) (fun _ _ h => c_Held_measure h) ⟨tw_539, tw_540, tw_541, tw_6⟩ tw_542 (by decide +kernel) rfl (by decide) rfl rfl (st := []) rfl (Nat.le_of_ble_eq_true rfl) d_Hall_antichain_13 rfl (fun v3 M4 hv3 => ?_)
  refine oz_aload_n (q := 17) cx d_Hall_antichain_16 rfl rfl 0 rfl ?_
  refine oz_get (q := 20) cx 0 2 (by decide) (ci := 0) rfl rfl tin_Hall (by decide) rfl rfl tw_230 d_Hall_antichain_17 rfl ?_
  refine oz_aload_n (q := 21) cx d_Hall_antichain_20 rfl rfl 0 rfl ?_
  refine oz_get (q := 24) cx 0 4 (by decide) (ci := 0) rfl rfl tin_Hall (by decide) rfl rfl tw_232 d_Hall_antichain_21 rfl ?_
  refine oz_get (q := 27) cx 45 5 (by decide) (ci := 5) rfl rfl tin_Held (by decide) rfl rfl tw_153 d_Hall_antichain_24 rfl ?_
  refine oz_iload_n (q := 28) cx d_Hall_antichain_27 rfl rfl 1 rfl ?_
  refine oz_if_ne (q := 31) cx d_Hall_antichain_28 rfl rfl (fun h7 => ?_) (fun h7 => ?_)
  · refine oz_aload_n (q := 42) cx d_Hall_antichain_41 rfl rfl 0 rfl ?_
    refine oz_get (q := 45) cx 0 2 (by decide) (ci := 0) rfl rfl tin_Hall (by decide) rfl rfl tw_230 d_Hall_antichain_42 rfl ?_
    refine oz_get (q := 48) cx 6 1 (by decide) (ci := 3) rfl rfl tin_Order (by decide) rfl rfl tw_81 d_Hall_antichain_45 rfl ?_
    refine oz_cVip (q := 51) cx 6 [.int (M4.1 45 5), .ref (oz_b G + 7)] 2 3 hRm (by decide) (by decide) (fun _ h => c_Order_ends ⟨by decide, fun _ _ _ _ => rfl⟩ h) ⟨tw_517, tw_518, tw_519, tw_4⟩ tw_520 (by decide +kernel) rfl (by decide) rfl rfl (st := []) rfl (Nat.le_of_ble_eq_true rfl) d_Hall_antichain_48 rfl (fun v5 hv5 => ?_)
    exact oz_iretX cx hR d_Hall_antichain_51
  · refine oz_aload_n (q := 32) cx d_Hall_antichain_31 rfl rfl 0 rfl ?_
    refine oz_get (q := 35) cx 0 2 (by decide) (ci := 0) rfl rfl tin_Hall (by decide) rfl rfl tw_230 d_Hall_antichain_32 rfl ?_
    refine oz_get (q := 38) cx 6 2 (by decide) (ci := 3) rfl rfl tin_Order (by decide) rfl rfl tw_86 d_Hall_antichain_35 rfl ?_
    refine oz_goto cx d_Hall_antichain_38 rfl ?_
    refine oz_cVip (q := 51) cx 6 [.int (M4.1 45 5), .ref (oz_b G + 8)] 2 3 hRm (by decide) (by decide) (fun _ h => c_Order_ends ⟨by decide, fun _ _ _ _ => rfl⟩ h) ⟨tw_517, tw_518, tw_519, tw_4⟩ tw_520 (by decide +kernel) rfl (by decide) rfl rfl (st := []) rfl (Nat.le_of_ble_eq_true rfl) d_Hall_antichain_48 rfl (fun v6 hv6 => ?_)
    exact oz_iretX cx hR d_Hall_antichain_51
theorem c_Hall_antichain {l : Launch} {D : va_G} {cs : Nat → ClassId} {b : Nat} {a0 : Int32} {M : oz_M} {vz : Int32} {Mz : oz_M} (hF : f_Hall_antichain a0 M = some (.inr vz, Mz)) : oz_Met l D cs b y_Hall_antichain prog_1_method_11_code 2 (some .int) (oz_rm 6) [.ref (b + 0), .int a0] M (some (.int vz)) Mz := by
  refine oz_enter (by decide) (Nat.le_of_ble_eq_true rfl) (fun G cx hR e1 hRm e2 e3 e4 hnL => ?_)
  subst e1; subst e2; subst e3; subst e4
  exact w_Hall_antichain cx ⟨fun _ h => (by cases h; exact hR), fun _ h => (by cases h)⟩ hRm hnL hF
theorem t_Hall_antichain {l : Launch} {D : va_G} {cs : Nat → ClassId} {b : Nat} {a0 : Int32} {M : oz_M} {kz : Nat} {Mz : oz_M} (hfl : l.stackTraces = false) (hF : f_Hall_antichain a0 M = some (.inl kz, Mz)) : oz_MetT l D cs b y_Hall_antichain prog_1_method_11_code 2 (some .int) 6 [.ref (b + 0), .int a0] M kz Mz := by
  refine oz_enterT hfl (by decide) (Nat.le_of_ble_eq_true rfl) (fun G cx hR e1 hRm e2 e3 e4 hnL => ?_)
  subst e1; subst e2; subst e3; subst e4
  exact w_Hall_antichain cx ⟨fun _ h => (by cases h), fun _ h => (by cases h; exact hR)⟩ hRm hnL hF
def y_Hall_arc : MethodName := ⟨"OrderHall", "arc", "(II)I"⟩
theorem d_Hall_arc_0 : decode prog_1_method_3_code 0 = .ok (.iload_n 1, 1) := by decide +kernel
theorem d_Hall_arc_1 : decode prog_1_method_3_code 1 = .ok (.aload_n 0, 1) := by decide +kernel
theorem d_Hall_arc_2 : decode prog_1_method_3_code 2 = .ok (.getfield 10, 3) := by decide +kernel
theorem d_Hall_arc_5 : decode prog_1_method_3_code 5 = .ok (.getfield 74, 3) := by decide +kernel
theorem d_Hall_arc_8 : decode prog_1_method_3_code 8 = .ok (.invokestatic 78, 3) := by decide +kernel
theorem d_Hall_arc_11 : decode prog_1_method_3_code 11 = .ok (.iload_n 2, 1) := by decide +kernel
theorem d_Hall_arc_12 : decode prog_1_method_3_code 12 = .ok (.aload_n 0, 1) := by decide +kernel
theorem d_Hall_arc_13 : decode prog_1_method_3_code 13 = .ok (.getfield 10, 3) := by decide +kernel
theorem d_Hall_arc_16 : decode prog_1_method_3_code 16 = .ok (.getfield 74, 3) := by decide +kernel
theorem d_Hall_arc_19 : decode prog_1_method_3_code 19 = .ok (.invokestatic 78, 3) := by decide +kernel
theorem d_Hall_arc_22 : decode prog_1_method_3_code 22 = .ok (.aload_n 0, 1) := by decide +kernel
theorem d_Hall_arc_23 : decode prog_1_method_3_code 23 = .ok (.invokevirtual 67, 3) := by decide +kernel
theorem d_Hall_arc_26 : decode prog_1_method_3_code 26 = .ok (.aload_n 0, 1) := by decide +kernel
theorem d_Hall_arc_27 : decode prog_1_method_3_code 27 = .ok (.getfield 10, 3) := by decide +kernel
theorem d_Hall_arc_30 : decode prog_1_method_3_code 30 = .ok (.iload_n 1, 1) := by decide +kernel
theorem d_Hall_arc_31 : decode prog_1_method_3_code 31 = .ok (.iload_n 2, 1) := by decide +kernel
theorem d_Hall_arc_32 : decode prog_1_method_3_code 32 = .ok (.invokevirtual 82, 3) := by decide +kernel
theorem d_Hall_arc_35 : decode prog_1_method_3_code 35 = .ok (.ifCond .eq 7, 3) := by decide +kernel
theorem d_Hall_arc_38 : decode prog_1_method_3_code 38 = .ok (.iconst 1, 1) := by decide +kernel
theorem d_Hall_arc_39 : decode prog_1_method_3_code 39 = .ok (.goto 4, 3) := by decide +kernel
theorem d_Hall_arc_42 : decode prog_1_method_3_code 42 = .ok (.iconst 0, 1) := by decide +kernel
theorem d_Hall_arc_43 : decode prog_1_method_3_code 43 = .ok (.ireturn, 1) := by decide +kernel
def f_Hall_arc (a0 : Int32) (a1 : Int32) (M : oz_M) : Option ((Nat ⊕ Int32) × oz_M) := oz_b2 (f_Hall_wantElement a0 (M.1 1 0) M) fun w M1 => oz_el (fun kx => some (.inl kx, M1)) (fun _ => oz_b2 (f_Hall_wantElement a1 (M1.1 1 0) M1) fun w M2 => oz_el (fun kx => some (.inl kx, M2)) (fun _ => oz_b2 (f_Hall_unsettle M2) fun v3 M4 => oz_b2 (f_Arcs_add a0 a1 M4) fun v5 M6 => if v5 = 0 then (some (.inr 0, M6)) else (some (.inr 1, M6))) w) w
set_option maxRecDepth 20000 in
set_option maxHeartbeats 4000000 in
theorem w_Hall_arc {G : oz_G} {a0 : Int32} {a1 : Int32} {M : oz_M} {r : (Nat ⊕ Int32) × oz_M} (cx : oz_C G prog_1_method_3_code "OrderHall") (hR : oz_RtX G (some .int) (fun v : Int32 => some (.int v)) r) (hRm : oz_big G.1.2.2.2.1 6) (hnL : oz_nL G = 3) (hF : f_Hall_arc a0 a1 M = some r) : oz_Z G 0 [(0, .ref (oz_b G + 0)), (1, .int a0), (2, .int a1)] [] M := by
  refine (?_ : oz_R G 0 [(0, .ref (oz_b G + 0)), (1, .int a0), (2, .int a1)] [] M (f_Hall_arc a0 a1 M) (fun x => x = r)) _ hF rfl
  unfold f_Hall_arc
  refine oz_iload_n (q := 1) cx d_Hall_arc_0 rfl rfl 1 rfl ?_
  refine oz_aload_n (q := 2) cx d_Hall_arc_1 rfl rfl 0 rfl ?_
  refine oz_get (q := 5) cx 0 0 (by decide) (ci := 0) rfl rfl tin_Hall (by decide) rfl rfl tw_228 d_Hall_arc_2 rfl ?_
  refine oz_get (q := 8) cx 1 0 (by decide) (ci := 1) rfl rfl tin_Arcs (by decide) rfl rfl tw_35 d_Hall_arc_5 rfl ?_
  refine oz_tS (q := 11) cx hR [.int a0, .int (M.1 1 0)] 2 hRm (by decide) (by decide) (fun _ h => c_Hall_wantElement h) (fun _ _ hfl h => t_Hall_wantElement hfl h) ⟨tw_442, tw_443, tw_1⟩ tw_444 (by decide +kernel) rfl (st := []) rfl (Nat.le_of_ble_eq_true rfl) d_Hall_arc_8 rfl (fun M1 hM1 => ?_)
  refine oz_iload_n (q := 12) cx d_Hall_arc_11 rfl rfl 2 rfl ?_
  refine oz_aload_n (q := 13) cx d_Hall_arc_12 rfl rfl 0 rfl ?_
  refine oz_get (q := 16) cx 0 0 (by decide) (ci := 0) rfl rfl tin_Hall (by decide) rfl rfl tw_228 d_Hall_arc_13 rfl ?_
  refine oz_get (q := 19) cx 1 0 (by decide) (ci := 1) rfl rfl tin_Arcs (by decide) rfl rfl tw_35 d_Hall_arc_16 rfl ?_
  refine oz_tS (q := 22) cx hR [.int a1, .int (M1.1 1 0)] 2 hRm (by decide) (by decide) (fun _ h => c_Hall_wantElement h) (fun _ _ hfl h => t_Hall_wantElement hfl h) ⟨tw_442, tw_443, tw_1⟩ tw_444 (by decide +kernel) rfl (st := []) rfl (Nat.le_of_ble_eq_true rfl) d_Hall_arc_19 rfl (fun M2 hM2 => ?_)
  refine oz_aload_n (q := 23) cx d_Hall_arc_22 rfl rfl 0 rfl ?_
  refine oz_cVv (q := 26) cx 0 [] 0 0 hRm (by decide) (by decide) (fun _ _ h => c_Hall_unsettle h) ⟨tw_257, tw_259, ts_0, tw_1⟩ tw_260 (by decide +kernel) rfl (by decide) rfl rfl (st := []) rfl (Nat.le_of_ble_eq_true rfl) d_Hall_arc_23 rfl (fun v3 M4 hv3 => ?_)
  refine oz_aload_n (q := 27) cx d_Hall_arc_26 rfl rfl 0 rfl ?_
  refine oz_get (q := 30) cx 0 0 (by decide) (ci := 0) rfl rfl tin_Hall (by decide) rfl rfl tw_228 d_Hall_arc_27 rfl ?_
  refine oz_iload_n (q := 31) cx d_Hall_arc_30 rfl rfl 1 rfl ?_
  refine oz_iload_n (q := 32) cx d_Hall_arc_31 rfl rfl 2 rfl ?_
  refine oz_cVi (q := 35) cx 1 [.int a0, .int a1] 2 1 hRm (by decide) (by decide) (fun _ _ h => c_Arcs_add h) ⟨tw_461, tw_462, tw_463, tw_2⟩ tw_464 (by decide +kernel) rfl (by decide) rfl rfl (st := []) rfl (Nat.le_of_ble_eq_true rfl) d_Hall_arc_32 rfl (fun v5 M6 hv5 => ?_)
  refine oz_if_eq (q := 38) cx d_Hall_arc_35 rfl rfl (fun h7 => ?_) (fun h7 => ?_)
  · refine oz_iconst (q := 43) cx d_Hall_arc_42 rfl (v := 0) rfl ?_
    exact oz_iretX cx hR d_Hall_arc_43
  · refine oz_iconst (q := 39) cx d_Hall_arc_38 rfl (v := 1) rfl ?_
    refine oz_goto cx d_Hall_arc_39 rfl ?_
    exact oz_iretX cx hR d_Hall_arc_43
theorem c_Hall_arc {l : Launch} {D : va_G} {cs : Nat → ClassId} {b : Nat} {a0 : Int32} {a1 : Int32} {M : oz_M} {vz : Int32} {Mz : oz_M} (hF : f_Hall_arc a0 a1 M = some (.inr vz, Mz)) : oz_Met l D cs b y_Hall_arc prog_1_method_3_code 3 (some .int) (oz_rm 6) [.ref (b + 0), .int a0, .int a1] M (some (.int vz)) Mz := by
  refine oz_enter (by decide) (Nat.le_of_ble_eq_true rfl) (fun G cx hR e1 hRm e2 e3 e4 hnL => ?_)
  subst e1; subst e2; subst e3; subst e4
  exact w_Hall_arc cx ⟨fun _ h => (by cases h; exact hR), fun _ h => (by cases h)⟩ hRm hnL hF
theorem t_Hall_arc {l : Launch} {D : va_G} {cs : Nat → ClassId} {b : Nat} {a0 : Int32} {a1 : Int32} {M : oz_M} {kz : Nat} {Mz : oz_M} (hfl : l.stackTraces = false) (hF : f_Hall_arc a0 a1 M = some (.inl kz, Mz)) : oz_MetT l D cs b y_Hall_arc prog_1_method_3_code 3 (some .int) 6 [.ref (b + 0), .int a0, .int a1] M kz Mz := by
  refine oz_enterT hfl (by decide) (Nat.le_of_ble_eq_true rfl) (fun G cx hR e1 hRm e2 e3 e4 hnL => ?_)
  subst e1; subst e2; subst e3; subst e4
  exact w_Hall_arc cx ⟨fun _ h => (by cases h), fun _ h => (by cases h; exact hR)⟩ hRm hnL hF
def y_Hall_bound : MethodName := ⟨"OrderHall", "bound", "(III)I"⟩
theorem d_Hall_bound_0 : decode prog_1_method_20_code 0 = .ok (.aload_n 0, 1) := by decide +kernel
theorem d_Hall_bound_1 : decode prog_1_method_20_code 1 = .ok (.invokevirtual 103, 3) := by decide +kernel
theorem d_Hall_bound_4 : decode prog_1_method_20_code 4 = .ok (.iload_n 2, 1) := by decide +kernel
theorem d_Hall_bound_5 : decode prog_1_method_20_code 5 = .ok (.aload_n 0, 1) := by decide +kernel
theorem d_Hall_bound_6 : decode prog_1_method_20_code 6 = .ok (.getfield 26, 3) := by decide +kernel
theorem d_Hall_bound_9 : decode prog_1_method_20_code 9 = .ok (.getfield 106, 3) := by decide +kernel
theorem d_Hall_bound_12 : decode prog_1_method_20_code 12 = .ok (.invokestatic 78, 3) := by decide +kernel
theorem d_Hall_bound_15 : decode prog_1_method_20_code 15 = .ok (.iload_n 3, 1) := by decide +kernel
theorem d_Hall_bound_16 : decode prog_1_method_20_code 16 = .ok (.aload_n 0, 1) := by decide +kernel
theorem d_Hall_bound_17 : decode prog_1_method_20_code 17 = .ok (.getfield 26, 3) := by decide +kernel
theorem d_Hall_bound_20 : decode prog_1_method_20_code 20 = .ok (.getfield 106, 3) := by decide +kernel
theorem d_Hall_bound_23 : decode prog_1_method_20_code 23 = .ok (.invokestatic 78, 3) := by decide +kernel
theorem d_Hall_bound_26 : decode prog_1_method_20_code 26 = .ok (.iload_n 1, 1) := by decide +kernel
theorem d_Hall_bound_27 : decode prog_1_method_20_code 27 = .ok (.iconst 1, 1) := by decide +kernel
theorem d_Hall_bound_28 : decode prog_1_method_20_code 28 = .ok (.invokestatic 116, 3) := by decide +kernel
theorem d_Hall_bound_31 : decode prog_1_method_20_code 31 = .ok (.iload_n 1, 1) := by decide +kernel
theorem d_Hall_bound_32 : decode prog_1_method_20_code 32 = .ok (.ifCond .ne 15, 3) := by decide +kernel
theorem d_Hall_bound_35 : decode prog_1_method_20_code 35 = .ok (.aload_n 0, 1) := by decide +kernel
theorem d_Hall_bound_36 : decode prog_1_method_20_code 36 = .ok (.getfield 35, 3) := by decide +kernel
theorem d_Hall_bound_39 : decode prog_1_method_20_code 39 = .ok (.iload_n 2, 1) := by decide +kernel
theorem d_Hall_bound_40 : decode prog_1_method_20_code 40 = .ok (.iload_n 3, 1) := by decide +kernel
theorem d_Hall_bound_41 : decode prog_1_method_20_code 41 = .ok (.invokevirtual 189, 3) := by decide +kernel
theorem d_Hall_bound_44 : decode prog_1_method_20_code 44 = .ok (.goto 12, 3) := by decide +kernel
theorem d_Hall_bound_47 : decode prog_1_method_20_code 47 = .ok (.aload_n 0, 1) := by decide +kernel
theorem d_Hall_bound_48 : decode prog_1_method_20_code 48 = .ok (.getfield 35, 3) := by decide +kernel
theorem d_Hall_bound_51 : decode prog_1_method_20_code 51 = .ok (.iload_n 2, 1) := by decide +kernel
theorem d_Hall_bound_52 : decode prog_1_method_20_code 52 = .ok (.iload_n 3, 1) := by decide +kernel
theorem d_Hall_bound_53 : decode prog_1_method_20_code 53 = .ok (.invokevirtual 193, 3) := by decide +kernel
theorem d_Hall_bound_56 : decode prog_1_method_20_code 56 = .ok (.ireturn, 1) := by decide +kernel
noncomputable def f_Hall_bound (a0 : Int32) (a1 : Int32) (a2 : Int32) (M : oz_M) : Option ((Nat ⊕ Int32) × oz_M) := oz_b2 (f_Hall_wantSettled M) fun w M1 => oz_el (fun kx => some (.inl kx, M1)) (fun _ => oz_b2 (f_Hall_wantElement a1 (M1.1 6 0) M1) fun w M2 => oz_el (fun kx => some (.inl kx, M2)) (fun _ => oz_b2 (f_Hall_wantElement a2 (M2.1 6 0) M2) fun w M3 => oz_el (fun kx => some (.inl kx, M3)) (fun _ => oz_b2 (f_Hall_wantUpTo a0 1 M3) fun w M4 => oz_el (fun kx => some (.inl kx, M4)) (fun _ => if a0 = 0 then ((f_Bounds_lower a1 a2 M4).bind fun v6 => some (.inr v6, M4)) else ((f_Bounds_upper a1 a2 M4).bind fun v5 => some (.inr v5, M4))) w) w) w) w
set_option maxRecDepth 20000 in
set_option maxHeartbeats 4000000 in
theorem w_Hall_bound {G : oz_G} {a0 : Int32} {a1 : Int32} {a2 : Int32} {M : oz_M} {r : (Nat ⊕ Int32) × oz_M} (cx : oz_C G prog_1_method_20_code "OrderHall") (hR : oz_RtX G (some .int) (fun v : Int32 => some (.int v)) r) (hRm : oz_big G.1.2.2.2.1 6) (hnL : oz_nL G = 4) (hF : f_Hall_bound a0 a1 a2 M = some r) : oz_Z G 0 [(0, .ref (oz_b G + 0)), (1, .int a0), (2, .int a1), (3, .int a2)] [] M := by
  refine (?_ : oz_R G 0 [(0, .ref (oz_b G + 0)), (1, .int a0), (2, .int a1), (3, .int a2)] [] M (f_Hall_bound a0 a1 a2 M) (fun x => x = r)) _ hF rfl
  unfold f_Hall_bound
  refine oz_aload_n (q := 1) cx d_Hall_bound_0 rfl rfl 0 rfl ?_
  refine oz_tV (q := 4) cx hR 0 [] 0 0 hRm (by decide) (by decide) (fun _ h => c_Hall_wantSettled h) (fun _ _ hfl h => t_Hall_wantSettled hfl h) ⟨tw_485, tw_487, ts_11, tw_1⟩ tw_488 (by decide +kernel) rfl (by decide) rfl rfl (st := []) rfl (Nat.le_of_ble_eq_true rfl) d_Hall_bound_1 rfl (fun M1 hM1 => ?_)
  refine oz_iload_n (q := 5) cx d_Hall_bound_4 rfl rfl 2 rfl ?_
  refine oz_aload_n (q := 6) cx d_Hall_bound_5 rfl rfl 0 rfl ?_
  refine oz_get (q := 9) cx 0 2 (by decide) (ci := 0) rfl rfl tin_Hall (by decide) rfl rfl tw_230 d_Hall_bound_6 rfl ?_
  refine oz_get (q := 12) cx 6 0 (by decide) (ci := 3) rfl rfl tin_Order (by decide) rfl rfl tw_74 d_Hall_bound_9 rfl ?_
  refine oz_tS (q := 15) cx hR [.int a1, .int (M1.1 6 0)] 2 hRm (by decide) (by decide) (fun _ h => c_Hall_wantElement h) (fun _ _ hfl h => t_Hall_wantElement hfl h) ⟨tw_442, tw_443, tw_1⟩ tw_444 (by decide +kernel) rfl (st := []) rfl (Nat.le_of_ble_eq_true rfl) d_Hall_bound_12 rfl (fun M2 hM2 => ?_)
  refine oz_iload_n (q := 16) cx d_Hall_bound_15 rfl rfl 3 rfl ?_
  refine oz_aload_n (q := 17) cx d_Hall_bound_16 rfl rfl 0 rfl ?_
  refine oz_get (q := 20) cx 0 2 (by decide) (ci := 0) rfl rfl tin_Hall (by decide) rfl rfl tw_230 d_Hall_bound_17 rfl ?_
  refine oz_get (q := 23) cx 6 0 (by decide) (ci := 3) rfl rfl tin_Order (by decide) rfl rfl tw_74 d_Hall_bound_20 rfl ?_
  refine oz_tS (q := 26) cx hR [.int a2, .int (M2.1 6 0)] 2 hRm (by decide) (by decide) (fun _ h => c_Hall_wantElement h) (fun _ _ hfl h => t_Hall_wantElement hfl h) ⟨tw_442, tw_443, tw_1⟩ tw_444 (by decide +kernel) rfl (st := []) rfl (Nat.le_of_ble_eq_true rfl) d_Hall_bound_23 rfl (fun M3 hM3 => ?_)
  refine oz_iload_n (q := 27) cx d_Hall_bound_26 rfl rfl 1 rfl ?_
  refine oz_iconst (q := 28) cx d_Hall_bound_27 rfl (v := 1) rfl ?_
  refine oz_tS (q := 31) cx hR [.int a0, .int 1] 2 hRm (by decide) (by decide) (fun _ h => c_Hall_wantUpTo h) (fun _ _ hfl h => t_Hall_wantUpTo hfl h) ⟨tw_513, tw_514, tw_1⟩ tw_515 (by decide +kernel) rfl (st := []) rfl (Nat.le_of_ble_eq_true rfl) d_Hall_bound_28 rfl (fun M4 hM4 => ?_)
  refine oz_iload_n (q := 32) cx d_Hall_bound_31 rfl rfl 1 rfl ?_
  refine oz_if_ne (q := 35) cx d_Hall_bound_32 rfl rfl (fun h7 => ?_) (fun h7 => ?_)
  · refine oz_aload_n (q := 48) cx d_Hall_bound_47 rfl rfl 0 rfl ?_
    refine oz_get (q := 51) cx 0 3 (by decide) (ci := 0) rfl rfl tin_Hall (by decide) rfl rfl tw_231 d_Hall_bound_48 rfl ?_
    refine oz_iload_n (q := 52) cx d_Hall_bound_51 rfl rfl 2 rfl ?_
    refine oz_iload_n (q := 53) cx d_Hall_bound_52 rfl rfl 3 rfl ?_
    refine oz_cVip (q := 56) cx 14 [.int a1, .int a2] 2 4 hRm (by decide) (by decide) (fun _ h => c_Bounds_upper h) ⟨tw_662, tw_663, tw_664, tw_5⟩ tw_665 (by decide +kernel) rfl (by decide) rfl rfl (st := []) rfl (Nat.le_of_ble_eq_true rfl) d_Hall_bound_53 rfl (fun v5 hv5 => ?_)
    exact oz_iretX cx hR d_Hall_bound_56
  · refine oz_aload_n (q := 36) cx d_Hall_bound_35 rfl rfl 0 rfl ?_
    refine oz_get (q := 39) cx 0 3 (by decide) (ci := 0) rfl rfl tin_Hall (by decide) rfl rfl tw_231 d_Hall_bound_36 rfl ?_
    refine oz_iload_n (q := 40) cx d_Hall_bound_39 rfl rfl 2 rfl ?_
    refine oz_iload_n (q := 41) cx d_Hall_bound_40 rfl rfl 3 rfl ?_
    refine oz_cVip (q := 44) cx 14 [.int a1, .int a2] 2 4 hRm (by decide) (by decide) (fun _ h => c_Bounds_lower h) ⟨tw_650, tw_651, tw_652, tw_5⟩ tw_653 (by decide +kernel) rfl (by decide) rfl rfl (st := []) rfl (Nat.le_of_ble_eq_true rfl) d_Hall_bound_41 rfl (fun v6 hv6 => ?_)
    refine oz_goto cx d_Hall_bound_44 rfl ?_
    exact oz_iretX cx hR d_Hall_bound_56
theorem c_Hall_bound {l : Launch} {D : va_G} {cs : Nat → ClassId} {b : Nat} {a0 : Int32} {a1 : Int32} {a2 : Int32} {M : oz_M} {vz : Int32} {Mz : oz_M} (hF : f_Hall_bound a0 a1 a2 M = some (.inr vz, Mz)) : oz_Met l D cs b y_Hall_bound prog_1_method_20_code 4 (some .int) (oz_rm 6) [.ref (b + 0), .int a0, .int a1, .int a2] M (some (.int vz)) Mz := by
  refine oz_enter (by decide) (Nat.le_of_ble_eq_true rfl) (fun G cx hR e1 hRm e2 e3 e4 hnL => ?_)
  subst e1; subst e2; subst e3; subst e4
  exact w_Hall_bound cx ⟨fun _ h => (by cases h; exact hR), fun _ h => (by cases h)⟩ hRm hnL hF
theorem t_Hall_bound {l : Launch} {D : va_G} {cs : Nat → ClassId} {b : Nat} {a0 : Int32} {a1 : Int32} {a2 : Int32} {M : oz_M} {kz : Nat} {Mz : oz_M} (hfl : l.stackTraces = false) (hF : f_Hall_bound a0 a1 a2 M = some (.inl kz, Mz)) : oz_MetT l D cs b y_Hall_bound prog_1_method_20_code 4 (some .int) 6 [.ref (b + 0), .int a0, .int a1, .int a2] M kz Mz := by
  refine oz_enterT hfl (by decide) (Nat.le_of_ble_eq_true rfl) (fun G cx hR e1 hRm e2 e3 e4 hnL => ?_)
  subst e1; subst e2; subst e3; subst e4
  exact w_Hall_bound cx ⟨fun _ h => (by cases h), fun _ h => (by cases h; exact hR)⟩ hRm hnL hF
def y_Hall_chains : MethodName := ⟨"OrderHall", "chains", "(I)I"⟩
theorem d_Hall_chains_0 : decode prog_1_method_14_code 0 = .ok (.aload_n 0, 1) := by decide +kernel
theorem d_Hall_chains_1 : decode prog_1_method_14_code 1 = .ok (.invokevirtual 103, 3) := by decide +kernel
theorem d_Hall_chains_4 : decode prog_1_method_14_code 4 = .ok (.iload_n 1, 1) := by decide +kernel
theorem d_Hall_chains_5 : decode prog_1_method_14_code 5 = .ok (.bipush 14, 2) := by decide +kernel
theorem d_Hall_chains_7 : decode prog_1_method_14_code 7 = .ok (.invokestatic 116, 3) := by decide +kernel
theorem d_Hall_chains_10 : decode prog_1_method_14_code 10 = .ok (.aload_n 0, 1) := by decide +kernel
theorem d_Hall_chains_11 : decode prog_1_method_14_code 11 = .ok (.getfield 26, 3) := by decide +kernel
theorem d_Hall_chains_14 : decode prog_1_method_14_code 14 = .ok (.iload_n 1, 1) := by decide +kernel
theorem d_Hall_chains_15 : decode prog_1_method_14_code 15 = .ok (.invokevirtual 161, 3) := by decide +kernel
theorem d_Hall_chains_18 : decode prog_1_method_14_code 18 = .ok (.ireturn, 1) := by decide +kernel
noncomputable def f_Hall_chains (a0 : Int32) (M : oz_M) : Option ((Nat ⊕ Int32) × oz_M) := oz_b2 (f_Hall_wantSettled M) fun w M1 => oz_el (fun kx => some (.inl kx, M1)) (fun _ => oz_b2 (f_Hall_wantUpTo a0 14 M1) fun w M2 => oz_el (fun kx => some (.inl kx, M2)) (fun _ => oz_b2 (f_Order_chainsOf a0 M2) fun v3 M4 => some (.inr v3, M4)) w) w
set_option maxRecDepth 20000 in
set_option maxHeartbeats 4000000 in
theorem w_Hall_chains {G : oz_G} {a0 : Int32} {M : oz_M} {r : (Nat ⊕ Int32) × oz_M} (cx : oz_C G prog_1_method_14_code "OrderHall") (hR : oz_RtX G (some .int) (fun v : Int32 => some (.int v)) r) (hRm : oz_big G.1.2.2.2.1 6) (hnL : oz_nL G = 2) (hF : f_Hall_chains a0 M = some r) : oz_Z G 0 [(0, .ref (oz_b G + 0)), (1, .int a0)] [] M := by
  refine (?_ : oz_R G 0 [(0, .ref (oz_b G + 0)), (1, .int a0)] [] M (f_Hall_chains a0 M) (fun x => x = r)) _ hF rfl
  unfold f_Hall_chains
  refine oz_aload_n (q := 1) cx d_Hall_chains_0 rfl rfl 0 rfl ?_
  refine oz_tV (q := 4) cx hR 0 [] 0 0 hRm (by decide) (by decide) (fun _ h => c_Hall_wantSettled h) (fun _ _ hfl h => t_Hall_wantSettled hfl h) ⟨tw_485, tw_487, ts_11, tw_1⟩ tw_488 (by decide +kernel) rfl (by decide) rfl rfl (st := []) rfl (Nat.le_of_ble_eq_true rfl) d_Hall_chains_1 rfl (fun M1 hM1 => ?_)
  refine oz_iload_n (q := 5) cx d_Hall_chains_4 rfl rfl 1 rfl ?_
  refine oz_bipush (q := 7) cx d_Hall_chains_5 rfl (v := 14) rfl ?_
  refine oz_tS (q := 10) cx hR [.int a0, .int 14] 2 hRm (by decide) (by decide) (fun _ h => c_Hall_wantUpTo h) (fun _ _ hfl h => t_Hall_wantUpTo hfl h) ⟨tw_513, tw_514, tw_1⟩ tw_515 (by decide +kernel) rfl (st := []) rfl (Nat.le_of_ble_eq_true rfl) d_Hall_chains_7 rfl (fun M2 hM2 => ?_)
  refine oz_aload_n (q := 11) cx d_Hall_chains_10 rfl rfl 0 rfl ?_
  refine oz_get (q := 14) cx 0 2 (by decide) (ci := 0) rfl rfl tin_Hall (by decide) rfl rfl tw_230 d_Hall_chains_11 rfl ?_
  refine oz_iload_n (q := 15) cx d_Hall_chains_14 rfl rfl 1 rfl ?_
  refine oz_cVi (q := 18) cx 6 [.int a0] 1 3 hRm (by decide) (by decide) (fun _ _ h => c_Order_chainsOf h) ⟨tw_603, tw_604, tw_605, tw_4⟩ tw_606 (by decide +kernel) rfl (by decide) rfl rfl (st := []) rfl (Nat.le_of_ble_eq_true rfl) d_Hall_chains_15 rfl (fun v3 M4 hv3 => ?_)
  exact oz_iretX cx hR d_Hall_chains_18
theorem c_Hall_chains {l : Launch} {D : va_G} {cs : Nat → ClassId} {b : Nat} {a0 : Int32} {M : oz_M} {vz : Int32} {Mz : oz_M} (hF : f_Hall_chains a0 M = some (.inr vz, Mz)) : oz_Met l D cs b y_Hall_chains prog_1_method_14_code 2 (some .int) (oz_rm 6) [.ref (b + 0), .int a0] M (some (.int vz)) Mz := by
  refine oz_enter (by decide) (Nat.le_of_ble_eq_true rfl) (fun G cx hR e1 hRm e2 e3 e4 hnL => ?_)
  subst e1; subst e2; subst e3; subst e4
  exact w_Hall_chains cx ⟨fun _ h => (by cases h; exact hR), fun _ h => (by cases h)⟩ hRm hnL hF
theorem t_Hall_chains {l : Launch} {D : va_G} {cs : Nat → ClassId} {b : Nat} {a0 : Int32} {M : oz_M} {kz : Nat} {Mz : oz_M} (hfl : l.stackTraces = false) (hF : f_Hall_chains a0 M = some (.inl kz, Mz)) : oz_MetT l D cs b y_Hall_chains prog_1_method_14_code 2 (some .int) 6 [.ref (b + 0), .int a0] M kz Mz := by
  refine oz_enterT hfl (by decide) (Nat.le_of_ble_eq_true rfl) (fun G cx hR e1 hRm e2 e3 e4 hnL => ?_)
  subst e1; subst e2; subst e3; subst e4
  exact w_Hall_chains cx ⟨fun _ h => (by cases h), fun _ h => (by cases h; exact hR)⟩ hRm hnL hF
def y_Hall_check : MethodName := ⟨"OrderHall", "check", "()I"⟩
theorem d_Hall_check_0 : decode prog_1_method_25_code 0 = .ok (.aload_n 0, 1) := by decide +kernel
theorem d_Hall_check_1 : decode prog_1_method_25_code 1 = .ok (.invokevirtual 103, 3) := by decide +kernel
theorem d_Hall_check_4 : decode prog_1_method_25_code 4 = .ok (.aload_n 0, 1) := by decide +kernel
theorem d_Hall_check_5 : decode prog_1_method_25_code 5 = .ok (.getfield 42, 3) := by decide +kernel
theorem d_Hall_check_8 : decode prog_1_method_25_code 8 = .ok (.invokevirtual 136, 3) := by decide +kernel
theorem d_Hall_check_11 : decode prog_1_method_25_code 11 = .ok (.aload_n 0, 1) := by decide +kernel
theorem d_Hall_check_12 : decode prog_1_method_25_code 12 = .ok (.getfield 56, 3) := by decide +kernel
theorem d_Hall_check_15 : decode prog_1_method_25_code 15 = .ok (.aload_n 0, 1) := by decide +kernel
theorem d_Hall_check_16 : decode prog_1_method_25_code 16 = .ok (.getfield 42, 3) := by decide +kernel
theorem d_Hall_check_19 : decode prog_1_method_25_code 19 = .ok (.iconst 0, 1) := by decide +kernel
theorem d_Hall_check_20 : decode prog_1_method_25_code 20 = .ok (.invokevirtual 218, 3) := by decide +kernel
theorem d_Hall_check_23 : decode prog_1_method_25_code 23 = .ok (.ifCond .eq 22, 3) := by decide +kernel
theorem d_Hall_check_26 : decode prog_1_method_25_code 26 = .ok (.aload_n 0, 1) := by decide +kernel
theorem d_Hall_check_27 : decode prog_1_method_25_code 27 = .ok (.getfield 56, 3) := by decide +kernel
theorem d_Hall_check_30 : decode prog_1_method_25_code 30 = .ok (.aload_n 0, 1) := by decide +kernel
theorem d_Hall_check_31 : decode prog_1_method_25_code 31 = .ok (.getfield 42, 3) := by decide +kernel
theorem d_Hall_check_34 : decode prog_1_method_25_code 34 = .ok (.iconst 1, 1) := by decide +kernel
theorem d_Hall_check_35 : decode prog_1_method_25_code 35 = .ok (.invokevirtual 218, 3) := by decide +kernel
theorem d_Hall_check_38 : decode prog_1_method_25_code 38 = .ok (.ifCond .eq 7, 3) := by decide +kernel
theorem d_Hall_check_41 : decode prog_1_method_25_code 41 = .ok (.iconst 1, 1) := by decide +kernel
theorem d_Hall_check_42 : decode prog_1_method_25_code 42 = .ok (.goto 4, 3) := by decide +kernel
theorem d_Hall_check_45 : decode prog_1_method_25_code 45 = .ok (.iconst 0, 1) := by decide +kernel
theorem d_Hall_check_46 : decode prog_1_method_25_code 46 = .ok (.ireturn, 1) := by decide +kernel
noncomputable def f_Hall_check (M : oz_M) : Option ((Nat ⊕ Int32) × oz_M) := oz_b2 (f_Hall_wantSettled M) fun w M1 => oz_el (fun kx => some (.inl kx, M1)) (fun _ => oz_b2 (f_Held_measure M1) fun v2 M3 => oz_b2 (f_Parts_suffice 0 M3) fun v4 M5 => if v4 = 0 then (some (.inr 0, M5)) else (oz_b2 (f_Parts_suffice 1 M5) fun v6 M7 => if v6 = 0 then (some (.inr 0, M7)) else (some (.inr 1, M7)))) w
set_option maxRecDepth 20000 in
set_option maxHeartbeats 4000000 in
theorem w_Hall_check {G : oz_G} {M : oz_M} {r : (Nat ⊕ Int32) × oz_M} (cx : oz_C G prog_1_method_25_code "OrderHall") (hR : oz_RtX G (some .int) (fun v : Int32 => some (.int v)) r) (hRm : oz_big G.1.2.2.2.1 6) (hnL : oz_nL G = 1) (hF : f_Hall_check M = some r) : oz_Z G 0 [(0, .ref (oz_b G + 0))] [] M := by
  refine (?_ : oz_R G 0 [(0, .ref (oz_b G + 0))] [] M (f_Hall_check  M) (fun x => x = r)) _ hF rfl
  unfold f_Hall_check
  refine oz_aload_n (q := 1) cx d_Hall_check_0 rfl rfl 0 rfl ?_
  refine oz_tV (q := 4) cx hR 0 [] 0 0 hRm (by decide) (by decide) (fun _ h => c_Hall_wantSettled h) (fun _ _ hfl h => t_Hall_wantSettled hfl h) ⟨tw_485, tw_487, ts_11, tw_1⟩ tw_488 (by decide +kernel) rfl (by decide) rfl rfl (st := []) rfl (Nat.le_of_ble_eq_true rfl) d_Hall_check_1 rfl (fun M1 hM1 => ?_)
  refine oz_aload_n (q := 5) cx d_Hall_check_4 rfl rfl 0 rfl ?_
  refine oz_get (q := 8) cx 0 4 (by decide) (ci := 0) rfl rfl tin_Hall (by decide) rfl rfl tw_232 d_Hall_check_5 rfl ?_
  refine oz_cVv (q := 11) cx 45 [] 0 5 hRm (by decide) (by decide) (fun _ _ h => c_Held_measure h) ⟨tw_539, tw_540, tw_541, tw_6⟩ tw_542 (by decide +kernel) rfl (by decide) rfl rfl (st := []) rfl (Nat.le_of_ble_eq_true rfl) d_Hall_check_8 rfl (fun v2 M3 hv2 => ?_)
  refine oz_aload_n (q := 12) cx d_Hall_check_11 rfl rfl 0 rfl ?_
  refine oz_get (q := 15) cx 0 6 (by decide) (ci := 0) rfl rfl tin_Hall (by decide) rfl rfl tw_234 d_Hall_check_12 rfl ?_
  refine oz_aload_n (q := 16) cx d_Hall_check_15 rfl rfl 0 rfl ?_
  refine oz_get (q := 19) cx 0 4 (by decide) (ci := 0) rfl rfl tin_Hall (by decide) rfl rfl tw_232 d_Hall_check_16 rfl ?_
  refine oz_iconst (q := 20) cx d_Hall_check_19 rfl (v := 0) rfl ?_
  refine oz_cVi (q := 23) cx 56 [.ref (oz_b G + 45), .int 0] 2 7 hRm (by decide) (by decide) (fun _ _ h => c_Parts_suffice h) ⟨tw_733, tw_734, tw_735, tw_8⟩ tw_736 (by decide +kernel) rfl (by decide) rfl rfl (st := []) rfl (Nat.le_of_ble_eq_true rfl) d_Hall_check_20 rfl (fun v4 M5 hv4 => ?_)
  refine oz_if_eq (q := 26) cx d_Hall_check_23 rfl rfl (fun h9 => ?_) (fun h9 => ?_)
  · refine oz_iconst (q := 46) cx d_Hall_check_45 rfl (v := 0) rfl ?_
    exact oz_iretX cx hR d_Hall_check_46
  · refine oz_aload_n (q := 27) cx d_Hall_check_26 rfl rfl 0 rfl ?_
    refine oz_get (q := 30) cx 0 6 (by decide) (ci := 0) rfl rfl tin_Hall (by decide) rfl rfl tw_234 d_Hall_check_27 rfl ?_
    refine oz_aload_n (q := 31) cx d_Hall_check_30 rfl rfl 0 rfl ?_
    refine oz_get (q := 34) cx 0 4 (by decide) (ci := 0) rfl rfl tin_Hall (by decide) rfl rfl tw_232 d_Hall_check_31 rfl ?_
    refine oz_iconst (q := 35) cx d_Hall_check_34 rfl (v := 1) rfl ?_
    refine oz_cVi (q := 38) cx 56 [.ref (oz_b G + 45), .int 1] 2 7 hRm (by decide) (by decide) (fun _ _ h => c_Parts_suffice h) ⟨tw_733, tw_734, tw_735, tw_8⟩ tw_736 (by decide +kernel) rfl (by decide) rfl rfl (st := []) rfl (Nat.le_of_ble_eq_true rfl) d_Hall_check_35 rfl (fun v6 M7 hv6 => ?_)
    refine oz_if_eq (q := 41) cx d_Hall_check_38 rfl rfl (fun h8 => ?_) (fun h8 => ?_)
    · refine oz_iconst (q := 46) cx d_Hall_check_45 rfl (v := 0) rfl ?_
      exact oz_iretX cx hR d_Hall_check_46
    · refine oz_iconst (q := 42) cx d_Hall_check_41 rfl (v := 1) rfl ?_
      refine oz_goto cx d_Hall_check_42 rfl ?_
      exact oz_iretX cx hR d_Hall_check_46
theorem c_Hall_check {l : Launch} {D : va_G} {cs : Nat → ClassId} {b : Nat} {M : oz_M} {vz : Int32} {Mz : oz_M} (hF : f_Hall_check M = some (.inr vz, Mz)) : oz_Met l D cs b y_Hall_check prog_1_method_25_code 1 (some .int) (oz_rm 6) [.ref (b + 0)] M (some (.int vz)) Mz := by
  refine oz_enter (by decide) (Nat.le_of_ble_eq_true rfl) (fun G cx hR e1 hRm e2 e3 e4 hnL => ?_)
  subst e1; subst e2; subst e3; subst e4
  exact w_Hall_check cx ⟨fun _ h => (by cases h; exact hR), fun _ h => (by cases h)⟩ hRm hnL hF
theorem t_Hall_check {l : Launch} {D : va_G} {cs : Nat → ClassId} {b : Nat} {M : oz_M} {kz : Nat} {Mz : oz_M} (hfl : l.stackTraces = false) (hF : f_Hall_check M = some (.inl kz, Mz)) : oz_MetT l D cs b y_Hall_check prog_1_method_25_code 1 (some .int) 6 [.ref (b + 0)] M kz Mz := by
  refine oz_enterT hfl (by decide) (Nat.le_of_ble_eq_true rfl) (fun G cx hR e1 hRm e2 e3 e4 hnL => ?_)
  subst e1; subst e2; subst e3; subst e4
  exact w_Hall_check cx ⟨fun _ h => (by cases h), fun _ h => (by cases h; exact hR)⟩ hRm hnL hF
def y_Hall_compare : MethodName := ⟨"OrderHall", "compare", "(II)I"⟩
theorem d_Hall_compare_0 : decode prog_1_method_7_code 0 = .ok (.aload_n 0, 1) := by decide +kernel
theorem d_Hall_compare_1 : decode prog_1_method_7_code 1 = .ok (.invokevirtual 103, 3) := by decide +kernel
theorem d_Hall_compare_4 : decode prog_1_method_7_code 4 = .ok (.iload_n 1, 1) := by decide +kernel
theorem d_Hall_compare_5 : decode prog_1_method_7_code 5 = .ok (.aload_n 0, 1) := by decide +kernel
theorem d_Hall_compare_6 : decode prog_1_method_7_code 6 = .ok (.getfield 26, 3) := by decide +kernel
theorem d_Hall_compare_9 : decode prog_1_method_7_code 9 = .ok (.getfield 106, 3) := by decide +kernel
theorem d_Hall_compare_12 : decode prog_1_method_7_code 12 = .ok (.invokestatic 78, 3) := by decide +kernel
theorem d_Hall_compare_15 : decode prog_1_method_7_code 15 = .ok (.iload_n 2, 1) := by decide +kernel
theorem d_Hall_compare_16 : decode prog_1_method_7_code 16 = .ok (.aload_n 0, 1) := by decide +kernel
theorem d_Hall_compare_17 : decode prog_1_method_7_code 17 = .ok (.getfield 26, 3) := by decide +kernel
theorem d_Hall_compare_20 : decode prog_1_method_7_code 20 = .ok (.getfield 106, 3) := by decide +kernel
theorem d_Hall_compare_23 : decode prog_1_method_7_code 23 = .ok (.invokestatic 78, 3) := by decide +kernel
theorem d_Hall_compare_26 : decode prog_1_method_7_code 26 = .ok (.iload_n 1, 1) := by decide +kernel
theorem d_Hall_compare_27 : decode prog_1_method_7_code 27 = .ok (.iload_n 2, 1) := by decide +kernel
theorem d_Hall_compare_28 : decode prog_1_method_7_code 28 = .ok (.if_icmp .ne 5, 3) := by decide +kernel
theorem d_Hall_compare_31 : decode prog_1_method_7_code 31 = .ok (.iconst 0, 1) := by decide +kernel
theorem d_Hall_compare_32 : decode prog_1_method_7_code 32 = .ok (.ireturn, 1) := by decide +kernel
theorem d_Hall_compare_33 : decode prog_1_method_7_code 33 = .ok (.aload_n 0, 1) := by decide +kernel
theorem d_Hall_compare_34 : decode prog_1_method_7_code 34 = .ok (.getfield 26, 3) := by decide +kernel
theorem d_Hall_compare_37 : decode prog_1_method_7_code 37 = .ok (.getfield 107, 3) := by decide +kernel
theorem d_Hall_compare_40 : decode prog_1_method_7_code 40 = .ok (.iload_n 1, 1) := by decide +kernel
theorem d_Hall_compare_41 : decode prog_1_method_7_code 41 = .ok (.iaload, 1) := by decide +kernel
theorem d_Hall_compare_42 : decode prog_1_method_7_code 42 = .ok (.iload_n 2, 1) := by decide +kernel
theorem d_Hall_compare_43 : decode prog_1_method_7_code 43 = .ok (.invokestatic 110, 3) := by decide +kernel
theorem d_Hall_compare_46 : decode prog_1_method_7_code 46 = .ok (.ifCond .eq 5, 3) := by decide +kernel
theorem d_Hall_compare_49 : decode prog_1_method_7_code 49 = .ok (.iconst (-1), 1) := by decide +kernel
theorem d_Hall_compare_50 : decode prog_1_method_7_code 50 = .ok (.ireturn, 1) := by decide +kernel
theorem d_Hall_compare_51 : decode prog_1_method_7_code 51 = .ok (.aload_n 0, 1) := by decide +kernel
theorem d_Hall_compare_52 : decode prog_1_method_7_code 52 = .ok (.getfield 26, 3) := by decide +kernel
theorem d_Hall_compare_55 : decode prog_1_method_7_code 55 = .ok (.getfield 113, 3) := by decide +kernel
theorem d_Hall_compare_58 : decode prog_1_method_7_code 58 = .ok (.iload_n 1, 1) := by decide +kernel
theorem d_Hall_compare_59 : decode prog_1_method_7_code 59 = .ok (.iaload, 1) := by decide +kernel
theorem d_Hall_compare_60 : decode prog_1_method_7_code 60 = .ok (.iload_n 2, 1) := by decide +kernel
theorem d_Hall_compare_61 : decode prog_1_method_7_code 61 = .ok (.invokestatic 110, 3) := by decide +kernel
theorem d_Hall_compare_64 : decode prog_1_method_7_code 64 = .ok (.ifCond .eq 7, 3) := by decide +kernel
theorem d_Hall_compare_67 : decode prog_1_method_7_code 67 = .ok (.iconst 1, 1) := by decide +kernel
theorem d_Hall_compare_68 : decode prog_1_method_7_code 68 = .ok (.goto 4, 3) := by decide +kernel
theorem d_Hall_compare_71 : decode prog_1_method_7_code 71 = .ok (.iconst 2, 1) := by decide +kernel
theorem d_Hall_compare_72 : decode prog_1_method_7_code 72 = .ok (.ireturn, 1) := by decide +kernel
def f_Hall_compare (a0 : Int32) (a1 : Int32) (M : oz_M) : Option ((Nat ⊕ Int32) × oz_M) := oz_b2 (f_Hall_wantSettled M) fun w M1 => oz_el (fun kx => some (.inl kx, M1)) (fun _ => oz_b2 (f_Hall_wantElement a0 (M1.1 6 0) M1) fun w M2 => oz_el (fun kx => some (.inl kx, M2)) (fun _ => oz_b2 (f_Hall_wantElement a1 (M2.1 6 0) M2) fun w M3 => oz_el (fun kx => some (.inl kx, M3)) (fun _ => if a0 = a1 then (some (.inr 0, M3)) else ((oz_in a0 14).bind fun j4 => (f_Hall_has (M3.1 8 j4) a1 M3).bind fun v5 => if v5 = 0 then ((oz_in a0 14).bind fun j6 => (f_Hall_has (M3.1 7 j6) a1 M3).bind fun v7 => if v7 = 0 then (some (.inr 2, M3)) else (some (.inr 1, M3))) else (some (.inr (-1), M3)))) w) w) w
set_option maxRecDepth 20000 in
set_option maxHeartbeats 4000000 in
theorem w_Hall_compare {G : oz_G} {a0 : Int32} {a1 : Int32} {M : oz_M} {r : (Nat ⊕ Int32) × oz_M} (cx : oz_C G prog_1_method_7_code "OrderHall") (hR : oz_RtX G (some .int) (fun v : Int32 => some (.int v)) r) (hRm : oz_big G.1.2.2.2.1 6) (hnL : oz_nL G = 3) (hF : f_Hall_compare a0 a1 M = some r) : oz_Z G 0 [(0, .ref (oz_b G + 0)), (1, .int a0), (2, .int a1)] [] M := by
  refine (?_ : oz_R G 0 [(0, .ref (oz_b G + 0)), (1, .int a0), (2, .int a1)] [] M (f_Hall_compare a0 a1 M) (fun x => x = r)) _ hF rfl
  unfold f_Hall_compare
  refine oz_aload_n (q := 1) cx d_Hall_compare_0 rfl rfl 0 rfl ?_
  refine oz_tV (q := 4) cx hR 0 [] 0 0 hRm (by decide) (by decide) (fun _ h => c_Hall_wantSettled h) (fun _ _ hfl h => t_Hall_wantSettled hfl h) ⟨tw_485, tw_487, ts_11, tw_1⟩ tw_488 (by decide +kernel) rfl (by decide) rfl rfl (st := []) rfl (Nat.le_of_ble_eq_true rfl) d_Hall_compare_1 rfl (fun M1 hM1 => ?_)
  refine oz_iload_n (q := 5) cx d_Hall_compare_4 rfl rfl 1 rfl ?_
  refine oz_aload_n (q := 6) cx d_Hall_compare_5 rfl rfl 0 rfl ?_
  refine oz_get (q := 9) cx 0 2 (by decide) (ci := 0) rfl rfl tin_Hall (by decide) rfl rfl tw_230 d_Hall_compare_6 rfl ?_
  refine oz_get (q := 12) cx 6 0 (by decide) (ci := 3) rfl rfl tin_Order (by decide) rfl rfl tw_74 d_Hall_compare_9 rfl ?_
  refine oz_tS (q := 15) cx hR [.int a0, .int (M1.1 6 0)] 2 hRm (by decide) (by decide) (fun _ h => c_Hall_wantElement h) (fun _ _ hfl h => t_Hall_wantElement hfl h) ⟨tw_442, tw_443, tw_1⟩ tw_444 (by decide +kernel) rfl (st := []) rfl (Nat.le_of_ble_eq_true rfl) d_Hall_compare_12 rfl (fun M2 hM2 => ?_)
  refine oz_iload_n (q := 16) cx d_Hall_compare_15 rfl rfl 2 rfl ?_
  refine oz_aload_n (q := 17) cx d_Hall_compare_16 rfl rfl 0 rfl ?_
  refine oz_get (q := 20) cx 0 2 (by decide) (ci := 0) rfl rfl tin_Hall (by decide) rfl rfl tw_230 d_Hall_compare_17 rfl ?_
  refine oz_get (q := 23) cx 6 0 (by decide) (ci := 3) rfl rfl tin_Order (by decide) rfl rfl tw_74 d_Hall_compare_20 rfl ?_
  refine oz_tS (q := 26) cx hR [.int a1, .int (M2.1 6 0)] 2 hRm (by decide) (by decide) (fun _ h => c_Hall_wantElement h) (fun _ _ hfl h => t_Hall_wantElement hfl h) ⟨tw_442, tw_443, tw_1⟩ tw_444 (by decide +kernel) rfl (st := []) rfl (Nat.le_of_ble_eq_true rfl) d_Hall_compare_23 rfl (fun M3 hM3 => ?_)
  refine oz_iload_n (q := 27) cx d_Hall_compare_26 rfl rfl 1 rfl ?_
  refine oz_iload_n (q := 28) cx d_Hall_compare_27 rfl rfl 2 rfl ?_
  refine oz_icmp_ne (q := 31) cx d_Hall_compare_28 rfl rfl (fun h10 => ?_) (fun h10 => ?_)
  · refine oz_aload_n (q := 34) cx d_Hall_compare_33 rfl rfl 0 rfl ?_
    refine oz_get (q := 37) cx 0 2 (by decide) (ci := 0) rfl rfl tin_Hall (by decide) rfl rfl tw_230 d_Hall_compare_34 rfl ?_
    refine oz_get (q := 40) cx 6 2 (by decide) (ci := 3) rfl rfl tin_Order (by decide) rfl rfl tw_86 d_Hall_compare_37 rfl ?_
    refine oz_iload_n (q := 41) cx d_Hall_compare_40 rfl rfl 1 rfl ?_
    refine oz_iald (q := 42) cx 8 14 (by decide) rfl d_Hall_compare_41 rfl (fun j4 hj4 => ?_)
    refine oz_iload_n (q := 43) cx d_Hall_compare_42 rfl rfl 2 rfl ?_
    refine oz_cSip (q := 46) cx [.int (M3.1 8 j4), .int a1] 2 hRm (by decide) (by decide) (fun _ h => c_Hall_has h) ⟨tw_505, tw_274, tw_1⟩ tw_275 (by decide +kernel) rfl (st := []) rfl (Nat.le_of_ble_eq_true rfl) d_Hall_compare_43 rfl (fun v5 hv5 => ?_)
    refine oz_if_eq (q := 49) cx d_Hall_compare_46 rfl rfl (fun h9 => ?_) (fun h9 => ?_)
    · refine oz_aload_n (q := 52) cx d_Hall_compare_51 rfl rfl 0 rfl ?_
      refine oz_get (q := 55) cx 0 2 (by decide) (ci := 0) rfl rfl tin_Hall (by decide) rfl rfl tw_230 d_Hall_compare_52 rfl ?_
      refine oz_get (q := 58) cx 6 1 (by decide) (ci := 3) rfl rfl tin_Order (by decide) rfl rfl tw_81 d_Hall_compare_55 rfl ?_
      refine oz_iload_n (q := 59) cx d_Hall_compare_58 rfl rfl 1 rfl ?_
      refine oz_iald (q := 60) cx 7 14 (by decide) rfl d_Hall_compare_59 rfl (fun j6 hj6 => ?_)
      refine oz_iload_n (q := 61) cx d_Hall_compare_60 rfl rfl 2 rfl ?_
      refine oz_cSip (q := 64) cx [.int (M3.1 7 j6), .int a1] 2 hRm (by decide) (by decide) (fun _ h => c_Hall_has h) ⟨tw_505, tw_274, tw_1⟩ tw_275 (by decide +kernel) rfl (st := []) rfl (Nat.le_of_ble_eq_true rfl) d_Hall_compare_61 rfl (fun v7 hv7 => ?_)
      refine oz_if_eq (q := 67) cx d_Hall_compare_64 rfl rfl (fun h8 => ?_) (fun h8 => ?_)
      · refine oz_iconst (q := 72) cx d_Hall_compare_71 rfl (v := 2) rfl ?_
        exact oz_iretX cx hR d_Hall_compare_72
      · refine oz_iconst (q := 68) cx d_Hall_compare_67 rfl (v := 1) rfl ?_
        refine oz_goto cx d_Hall_compare_68 rfl ?_
        exact oz_iretX cx hR d_Hall_compare_72
    · refine oz_iconst (q := 50) cx d_Hall_compare_49 rfl (v := (-1)) rfl ?_
      exact oz_iretX cx hR d_Hall_compare_50
  · refine oz_iconst (q := 32) cx d_Hall_compare_31 rfl (v := 0) rfl ?_
    exact oz_iretX cx hR d_Hall_compare_32
theorem c_Hall_compare {l : Launch} {D : va_G} {cs : Nat → ClassId} {b : Nat} {a0 : Int32} {a1 : Int32} {M : oz_M} {vz : Int32} {Mz : oz_M} (hF : f_Hall_compare a0 a1 M = some (.inr vz, Mz)) : oz_Met l D cs b y_Hall_compare prog_1_method_7_code 3 (some .int) (oz_rm 6) [.ref (b + 0), .int a0, .int a1] M (some (.int vz)) Mz := by
  refine oz_enter (by decide) (Nat.le_of_ble_eq_true rfl) (fun G cx hR e1 hRm e2 e3 e4 hnL => ?_)
  subst e1; subst e2; subst e3; subst e4
  exact w_Hall_compare cx ⟨fun _ h => (by cases h; exact hR), fun _ h => (by cases h)⟩ hRm hnL hF
theorem t_Hall_compare {l : Launch} {D : va_G} {cs : Nat → ClassId} {b : Nat} {a0 : Int32} {a1 : Int32} {M : oz_M} {kz : Nat} {Mz : oz_M} (hfl : l.stackTraces = false) (hF : f_Hall_compare a0 a1 M = some (.inl kz, Mz)) : oz_MetT l D cs b y_Hall_compare prog_1_method_7_code 3 (some .int) 6 [.ref (b + 0), .int a0, .int a1] M kz Mz := by
  refine oz_enterT hfl (by decide) (Nat.le_of_ble_eq_true rfl) (fun G cx hR e1 hRm e2 e3 e4 hnL => ?_)
  subst e1; subst e2; subst e3; subst e4
  exact w_Hall_compare cx ⟨fun _ h => (by cases h), fun _ h => (by cases h; exact hR)⟩ hRm hnL hF
def y_Hall_count : MethodName := ⟨"OrderHall", "count", "(I)I"⟩
theorem d_Hall_count_0 : decode prog_1_method_10_code 0 = .ok (.aload_n 0, 1) := by decide +kernel
theorem d_Hall_count_1 : decode prog_1_method_10_code 1 = .ok (.invokevirtual 103, 3) := by decide +kernel
theorem d_Hall_count_4 : decode prog_1_method_10_code 4 = .ok (.iload_n 1, 1) := by decide +kernel
theorem d_Hall_count_5 : decode prog_1_method_10_code 5 = .ok (.bipush 6, 2) := by decide +kernel
theorem d_Hall_count_7 : decode prog_1_method_10_code 7 = .ok (.invokestatic 116, 3) := by decide +kernel
theorem d_Hall_count_10 : decode prog_1_method_10_code 10 = .ok (.iload_n 1, 1) := by decide +kernel
theorem d_Hall_count_11 : decode prog_1_method_10_code 11 = .ok (.tableswitch 103 0 5 #[37, 45, 64, 72, 80, 88], 37) := by decide +kernel
theorem d_Hall_count_48 : decode prog_1_method_10_code 48 = .ok (.aload_n 0, 1) := by decide +kernel
theorem d_Hall_count_49 : decode prog_1_method_10_code 49 = .ok (.getfield 26, 3) := by decide +kernel
theorem d_Hall_count_52 : decode prog_1_method_10_code 52 = .ok (.invokevirtual 132, 3) := by decide +kernel
theorem d_Hall_count_55 : decode prog_1_method_10_code 55 = .ok (.ireturn, 1) := by decide +kernel
theorem d_Hall_count_56 : decode prog_1_method_10_code 56 = .ok (.aload_n 0, 1) := by decide +kernel
theorem d_Hall_count_57 : decode prog_1_method_10_code 57 = .ok (.getfield 42, 3) := by decide +kernel
theorem d_Hall_count_60 : decode prog_1_method_10_code 60 = .ok (.invokevirtual 136, 3) := by decide +kernel
theorem d_Hall_count_63 : decode prog_1_method_10_code 63 = .ok (.aload_n 0, 1) := by decide +kernel
theorem d_Hall_count_64 : decode prog_1_method_10_code 64 = .ok (.getfield 42, 3) := by decide +kernel
theorem d_Hall_count_67 : decode prog_1_method_10_code 67 = .ok (.getfield 139, 3) := by decide +kernel
theorem d_Hall_count_70 : decode prog_1_method_10_code 70 = .ok (.iconst 1, 1) := by decide +kernel
theorem d_Hall_count_71 : decode prog_1_method_10_code 71 = .ok (.aaload, 1) := by decide +kernel
theorem d_Hall_count_72 : decode prog_1_method_10_code 72 = .ok (.iconst 1, 1) := by decide +kernel
theorem d_Hall_count_73 : decode prog_1_method_10_code 73 = .ok (.iaload, 1) := by decide +kernel
theorem d_Hall_count_74 : decode prog_1_method_10_code 74 = .ok (.ireturn, 1) := by decide +kernel
theorem d_Hall_count_75 : decode prog_1_method_10_code 75 = .ok (.aload_n 0, 1) := by decide +kernel
theorem d_Hall_count_76 : decode prog_1_method_10_code 76 = .ok (.getfield 26, 3) := by decide +kernel
theorem d_Hall_count_79 : decode prog_1_method_10_code 79 = .ok (.getfield 106, 3) := by decide +kernel
theorem d_Hall_count_82 : decode prog_1_method_10_code 82 = .ok (.ireturn, 1) := by decide +kernel
theorem d_Hall_count_83 : decode prog_1_method_10_code 83 = .ok (.aload_n 0, 1) := by decide +kernel
theorem d_Hall_count_84 : decode prog_1_method_10_code 84 = .ok (.getfield 26, 3) := by decide +kernel
theorem d_Hall_count_87 : decode prog_1_method_10_code 87 = .ok (.invokevirtual 143, 3) := by decide +kernel
theorem d_Hall_count_90 : decode prog_1_method_10_code 90 = .ok (.ireturn, 1) := by decide +kernel
theorem d_Hall_count_91 : decode prog_1_method_10_code 91 = .ok (.aload_n 0, 1) := by decide +kernel
theorem d_Hall_count_92 : decode prog_1_method_10_code 92 = .ok (.getfield 26, 3) := by decide +kernel
theorem d_Hall_count_95 : decode prog_1_method_10_code 95 = .ok (.invokevirtual 146, 3) := by decide +kernel
theorem d_Hall_count_98 : decode prog_1_method_10_code 98 = .ok (.ireturn, 1) := by decide +kernel
theorem d_Hall_count_99 : decode prog_1_method_10_code 99 = .ok (.aload_n 0, 1) := by decide +kernel
theorem d_Hall_count_100 : decode prog_1_method_10_code 100 = .ok (.getfield 42, 3) := by decide +kernel
theorem d_Hall_count_103 : decode prog_1_method_10_code 103 = .ok (.invokevirtual 136, 3) := by decide +kernel
theorem d_Hall_count_106 : decode prog_1_method_10_code 106 = .ok (.aload_n 0, 1) := by decide +kernel
theorem d_Hall_count_107 : decode prog_1_method_10_code 107 = .ok (.getfield 42, 3) := by decide +kernel
theorem d_Hall_count_110 : decode prog_1_method_10_code 110 = .ok (.getfield 149, 3) := by decide +kernel
theorem d_Hall_count_113 : decode prog_1_method_10_code 113 = .ok (.ireturn, 1) := by decide +kernel
theorem d_Hall_count_114 : decode prog_1_method_10_code 114 = .ok (.aload_n 0, 1) := by decide +kernel
theorem d_Hall_count_115 : decode prog_1_method_10_code 115 = .ok (.getfield 42, 3) := by decide +kernel
theorem d_Hall_count_118 : decode prog_1_method_10_code 118 = .ok (.invokevirtual 136, 3) := by decide +kernel
theorem d_Hall_count_121 : decode prog_1_method_10_code 121 = .ok (.aload_n 0, 1) := by decide +kernel
theorem d_Hall_count_122 : decode prog_1_method_10_code 122 = .ok (.getfield 42, 3) := by decide +kernel
theorem d_Hall_count_125 : decode prog_1_method_10_code 125 = .ok (.getfield 152, 3) := by decide +kernel
theorem d_Hall_count_128 : decode prog_1_method_10_code 128 = .ok (.ireturn, 1) := by decide +kernel
noncomputable def f_Hall_count (a0 : Int32) (M : oz_M) : Option ((Nat ⊕ Int32) × oz_M) := oz_b2 (f_Hall_wantSettled M) fun w M1 => oz_el (fun kx => some (.inl kx, M1)) (fun _ => oz_b2 (f_Hall_wantUpTo a0 6 M1) fun w M2 => oz_el (fun kx => some (.inl kx, M2)) (fun _ => if a0 = 0 then ((f_Order_height M2).bind fun v3 => some (.inr v3, M2)) else if a0 = 1 then (oz_b2 (f_Held_measure M2) fun v4 M5 => (oz_in 1 2).bind fun j6 => (oz_in 1 15).bind fun j7 => some (.inr (M5.1 (47 + j6) j7), M5)) else if a0 = 2 then (some (.inr (M2.1 6 0), M2)) else if a0 = 3 then ((f_Order_pairs M2).bind fun v8 => some (.inr v8, M2)) else if a0 = 4 then ((f_Order_coverPairs M2).bind fun v9 => some (.inr v9, M2)) else if a0 = 5 then (oz_b2 (f_Held_measure M2) fun v10 M11 => some (.inr (M11.1 45 3), M11)) else (oz_b2 (f_Held_measure M2) fun v12 M13 => some (.inr (M13.1 45 4), M13))) w) w
set_option maxRecDepth 20000 in
set_option maxHeartbeats 4000000 in
theorem w_Hall_count {G : oz_G} {a0 : Int32} {M : oz_M} {r : (Nat ⊕ Int32) × oz_M} (cx : oz_C G prog_1_method_10_code "OrderHall") (hR : oz_RtX G (some .int) (fun v : Int32 => some (.int v)) r) (hRm : oz_big G.1.2.2.2.1 6) (hnL : oz_nL G = 2) (hF : f_Hall_count a0 M = some r) : oz_Z G 0 [(0, .ref (oz_b G + 0)), (1, .int a0)] [] M := by
  refine (?_ : oz_R G 0 [(0, .ref (oz_b G + 0)), (1, .int a0)] [] M (f_Hall_count a0 M) (fun x => x = r)) _ hF rfl
  unfold f_Hall_count
  refine oz_aload_n (q := 1) cx d_Hall_count_0 rfl rfl 0 rfl ?_
  refine oz_tV (q := 4) cx hR 0 [] 0 0 hRm (by decide) (by decide) (fun _ h => c_Hall_wantSettled h) (fun _ _ hfl h => t_Hall_wantSettled hfl h) ⟨tw_485, tw_487, ts_11, tw_1⟩ tw_488 (by decide +kernel) rfl (by decide) rfl rfl (st := []) rfl (Nat.le_of_ble_eq_true rfl) d_Hall_count_1 rfl (fun M1 hM1 => ?_)
  refine oz_iload_n (q := 5) cx d_Hall_count_4 rfl rfl 1 rfl ?_
  refine oz_bipush (q := 7) cx d_Hall_count_5 rfl (v := 6) rfl ?_
  refine oz_tS (q := 10) cx hR [.int a0, .int 6] 2 hRm (by decide) (by decide) (fun _ h => c_Hall_wantUpTo h) (fun _ _ hfl h => t_Hall_wantUpTo hfl h) ⟨tw_513, tw_514, tw_1⟩ tw_515 (by decide +kernel) rfl (st := []) rfl (Nat.le_of_ble_eq_true rfl) d_Hall_count_7 rfl (fun M2 hM2 => ?_)
  refine oz_iload_n (q := 11) cx d_Hall_count_10 rfl rfl 1 rfl ?_
  refine oz_ite (fun h14 => ?_) (fun h14 => ?_)
  · refine oz_tin cx 0 h14 d_Hall_count_11 (by decide) (by decide) rfl rfl ?_
    refine oz_aload_n (q := 49) cx d_Hall_count_48 rfl rfl 0 rfl ?_
    refine oz_get (q := 52) cx 0 2 (by decide) (ci := 0) rfl rfl tin_Hall (by decide) rfl rfl tw_230 d_Hall_count_49 rfl ?_
    refine oz_cVip (q := 55) cx 6 [] 0 3 hRm (by decide) (by decide) (fun _ h => c_Order_height h) ⟨tw_535, tw_536, tw_537, tw_4⟩ tw_538 (by decide +kernel) rfl (by decide) rfl rfl (st := []) rfl (Nat.le_of_ble_eq_true rfl) d_Hall_count_52 rfl (fun v3 hv3 => ?_)
    exact oz_iretX cx hR d_Hall_count_55
  · skip
    refine oz_ite (fun h15 => ?_) (fun h15 => ?_)
    · refine oz_tin cx 1 h15 d_Hall_count_11 (by decide) (by decide) rfl rfl ?_
      refine oz_aload_n (q := 57) cx d_Hall_count_56 rfl rfl 0 rfl ?_
      refine oz_get (q := 60) cx 0 4 (by decide) (ci := 0) rfl rfl tin_Hall (by decide) rfl rfl tw_232 d_Hall_count_57 rfl ?_
      refine oz_cVv (q := 63) cx 45 [] 0 5 hRm (by decide) (by decide) (fun _ _ h => c_Held_measure h) ⟨tw_539, tw_540, tw_541, tw_6⟩ tw_542 (by decide +kernel) rfl (by decide) rfl rfl (st := []) rfl (Nat.le_of_ble_eq_true rfl) d_Hall_count_60 rfl (fun v4 M5 hv4 => ?_)
      refine oz_aload_n (q := 64) cx d_Hall_count_63 rfl rfl 0 rfl ?_
      refine oz_get (q := 67) cx 0 4 (by decide) (ci := 0) rfl rfl tin_Hall (by decide) rfl rfl tw_232 d_Hall_count_64 rfl ?_
      refine oz_get (q := 70) cx 45 1 (by decide) (ci := 5) rfl rfl tin_Held (by decide) rfl rfl tw_144 d_Hall_count_67 rfl ?_
      refine oz_iconst (q := 71) cx d_Hall_count_70 rfl (v := 1) rfl ?_
      refine oz_aald (q := 72) cx 46 2 47 (by decide) rfl d_Hall_count_71 rfl (fun j6 hj6 => ?_)
      refine oz_iconst (q := 73) cx d_Hall_count_72 rfl (v := 1) rfl ?_
      refine oz_iald (q := 74) cx (47 + j6) 15 (oz_g46l (oz_lt hj6)) (oz_g46 (oz_lt hj6)) d_Hall_count_73 rfl (fun j7 hj7 => ?_)
      exact oz_iretX cx hR d_Hall_count_74
    · skip
      refine oz_ite (fun h16 => ?_) (fun h16 => ?_)
      · refine oz_tin cx 2 h16 d_Hall_count_11 (by decide) (by decide) rfl rfl ?_
        refine oz_aload_n (q := 76) cx d_Hall_count_75 rfl rfl 0 rfl ?_
        refine oz_get (q := 79) cx 0 2 (by decide) (ci := 0) rfl rfl tin_Hall (by decide) rfl rfl tw_230 d_Hall_count_76 rfl ?_
        refine oz_get (q := 82) cx 6 0 (by decide) (ci := 3) rfl rfl tin_Order (by decide) rfl rfl tw_74 d_Hall_count_79 rfl ?_
        exact oz_iretX cx hR d_Hall_count_82
      · skip
        refine oz_ite (fun h17 => ?_) (fun h17 => ?_)
        · refine oz_tin cx 3 h17 d_Hall_count_11 (by decide) (by decide) rfl rfl ?_
          refine oz_aload_n (q := 84) cx d_Hall_count_83 rfl rfl 0 rfl ?_
          refine oz_get (q := 87) cx 0 2 (by decide) (ci := 0) rfl rfl tin_Hall (by decide) rfl rfl tw_230 d_Hall_count_84 rfl ?_
          refine oz_cVip (q := 90) cx 6 [] 0 3 hRm (by decide) (by decide) (fun _ h => c_Order_pairs h) ⟨tw_566, tw_567, tw_568, tw_4⟩ tw_569 (by decide +kernel) rfl (by decide) rfl rfl (st := []) rfl (Nat.le_of_ble_eq_true rfl) d_Hall_count_87 rfl (fun v8 hv8 => ?_)
          exact oz_iretX cx hR d_Hall_count_90
        · skip
          refine oz_ite (fun h18 => ?_) (fun h18 => ?_)
          · refine oz_tin cx 4 h18 d_Hall_count_11 (by decide) (by decide) rfl rfl ?_
            refine oz_aload_n (q := 92) cx d_Hall_count_91 rfl rfl 0 rfl ?_
            refine oz_get (q := 95) cx 0 2 (by decide) (ci := 0) rfl rfl tin_Hall (by decide) rfl rfl tw_230 d_Hall_count_92 rfl ?_
            refine oz_cVip (q := 98) cx 6 [] 0 3 hRm (by decide) (by decide) (fun _ h => c_Order_coverPairs h) ⟨tw_570, tw_571, tw_572, tw_4⟩ tw_573 (by decide +kernel) rfl (by decide) rfl rfl (st := []) rfl (Nat.le_of_ble_eq_true rfl) d_Hall_count_95 rfl (fun v9 hv9 => ?_)
            exact oz_iretX cx hR d_Hall_count_98
          · skip
            refine oz_ite (fun h19 => ?_) (fun h19 => ?_)
            · refine oz_tin cx 5 h19 d_Hall_count_11 (by decide) (by decide) rfl rfl ?_
              refine oz_aload_n (q := 100) cx d_Hall_count_99 rfl rfl 0 rfl ?_
              refine oz_get (q := 103) cx 0 4 (by decide) (ci := 0) rfl rfl tin_Hall (by decide) rfl rfl tw_232 d_Hall_count_100 rfl ?_
              refine oz_cVv (q := 106) cx 45 [] 0 5 hRm (by decide) (by decide) (fun _ _ h => c_Held_measure h) ⟨tw_539, tw_540, tw_541, tw_6⟩ tw_542 (by decide +kernel) rfl (by decide) rfl rfl (st := []) rfl (Nat.le_of_ble_eq_true rfl) d_Hall_count_103 rfl (fun v10 M11 hv10 => ?_)
              refine oz_aload_n (q := 107) cx d_Hall_count_106 rfl rfl 0 rfl ?_
              refine oz_get (q := 110) cx 0 4 (by decide) (ci := 0) rfl rfl tin_Hall (by decide) rfl rfl tw_232 d_Hall_count_107 rfl ?_
              refine oz_get (q := 113) cx 45 3 (by decide) (ci := 5) rfl rfl tin_Held (by decide) rfl rfl tw_149 d_Hall_count_110 rfl ?_
              exact oz_iretX cx hR d_Hall_count_113
            · skip
              refine oz_tout cx d_Hall_count_11 (oz_tno 6 (by decide) (fun j hj => match j, hj with | 0, _ => h14 | 1, _ => h15 | 2, _ => h16 | 3, _ => h17 | 4, _ => h18 | 5, _ => h19)) rfl ?_
              refine oz_aload_n (q := 115) cx d_Hall_count_114 rfl rfl 0 rfl ?_
              refine oz_get (q := 118) cx 0 4 (by decide) (ci := 0) rfl rfl tin_Hall (by decide) rfl rfl tw_232 d_Hall_count_115 rfl ?_
              refine oz_cVv (q := 121) cx 45 [] 0 5 hRm (by decide) (by decide) (fun _ _ h => c_Held_measure h) ⟨tw_539, tw_540, tw_541, tw_6⟩ tw_542 (by decide +kernel) rfl (by decide) rfl rfl (st := []) rfl (Nat.le_of_ble_eq_true rfl) d_Hall_count_118 rfl (fun v12 M13 hv12 => ?_)
              refine oz_aload_n (q := 122) cx d_Hall_count_121 rfl rfl 0 rfl ?_
              refine oz_get (q := 125) cx 0 4 (by decide) (ci := 0) rfl rfl tin_Hall (by decide) rfl rfl tw_232 d_Hall_count_122 rfl ?_
              refine oz_get (q := 128) cx 45 4 (by decide) (ci := 5) rfl rfl tin_Held (by decide) rfl rfl tw_151 d_Hall_count_125 rfl ?_
              exact oz_iretX cx hR d_Hall_count_128
theorem c_Hall_count {l : Launch} {D : va_G} {cs : Nat → ClassId} {b : Nat} {a0 : Int32} {M : oz_M} {vz : Int32} {Mz : oz_M} (hF : f_Hall_count a0 M = some (.inr vz, Mz)) : oz_Met l D cs b y_Hall_count prog_1_method_10_code 2 (some .int) (oz_rm 6) [.ref (b + 0), .int a0] M (some (.int vz)) Mz := by
  refine oz_enter (by decide) (Nat.le_of_ble_eq_true rfl) (fun G cx hR e1 hRm e2 e3 e4 hnL => ?_)
  subst e1; subst e2; subst e3; subst e4
  exact w_Hall_count cx ⟨fun _ h => (by cases h; exact hR), fun _ h => (by cases h)⟩ hRm hnL hF
theorem t_Hall_count {l : Launch} {D : va_G} {cs : Nat → ClassId} {b : Nat} {a0 : Int32} {M : oz_M} {kz : Nat} {Mz : oz_M} (hfl : l.stackTraces = false) (hF : f_Hall_count a0 M = some (.inl kz, Mz)) : oz_MetT l D cs b y_Hall_count prog_1_method_10_code 2 (some .int) 6 [.ref (b + 0), .int a0] M kz Mz := by
  refine oz_enterT hfl (by decide) (Nat.le_of_ble_eq_true rfl) (fun G cx hR e1 hRm e2 e3 e4 hnL => ?_)
  subst e1; subst e2; subst e3; subst e4
  exact w_Hall_count cx ⟨fun _ h => (by cases h), fun _ h => (by cases h; exact hR)⟩ hRm hnL hF
def y_Hall_drop : MethodName := ⟨"OrderHall", "drop", "(II)I"⟩
theorem d_Hall_drop_0 : decode prog_1_method_4_code 0 = .ok (.iload_n 1, 1) := by decide +kernel
theorem d_Hall_drop_1 : decode prog_1_method_4_code 1 = .ok (.aload_n 0, 1) := by decide +kernel
theorem d_Hall_drop_2 : decode prog_1_method_4_code 2 = .ok (.getfield 10, 3) := by decide +kernel
theorem d_Hall_drop_5 : decode prog_1_method_4_code 5 = .ok (.getfield 74, 3) := by decide +kernel
theorem d_Hall_drop_8 : decode prog_1_method_4_code 8 = .ok (.invokestatic 78, 3) := by decide +kernel
theorem d_Hall_drop_11 : decode prog_1_method_4_code 11 = .ok (.iload_n 2, 1) := by decide +kernel
theorem d_Hall_drop_12 : decode prog_1_method_4_code 12 = .ok (.aload_n 0, 1) := by decide +kernel
theorem d_Hall_drop_13 : decode prog_1_method_4_code 13 = .ok (.getfield 10, 3) := by decide +kernel
theorem d_Hall_drop_16 : decode prog_1_method_4_code 16 = .ok (.getfield 74, 3) := by decide +kernel
theorem d_Hall_drop_19 : decode prog_1_method_4_code 19 = .ok (.invokestatic 78, 3) := by decide +kernel
theorem d_Hall_drop_22 : decode prog_1_method_4_code 22 = .ok (.aload_n 0, 1) := by decide +kernel
theorem d_Hall_drop_23 : decode prog_1_method_4_code 23 = .ok (.invokevirtual 67, 3) := by decide +kernel
theorem d_Hall_drop_26 : decode prog_1_method_4_code 26 = .ok (.aload_n 0, 1) := by decide +kernel
theorem d_Hall_drop_27 : decode prog_1_method_4_code 27 = .ok (.getfield 10, 3) := by decide +kernel
theorem d_Hall_drop_30 : decode prog_1_method_4_code 30 = .ok (.iload_n 1, 1) := by decide +kernel
theorem d_Hall_drop_31 : decode prog_1_method_4_code 31 = .ok (.iload_n 2, 1) := by decide +kernel
theorem d_Hall_drop_32 : decode prog_1_method_4_code 32 = .ok (.invokevirtual 86, 3) := by decide +kernel
theorem d_Hall_drop_35 : decode prog_1_method_4_code 35 = .ok (.ifCond .eq 7, 3) := by decide +kernel
theorem d_Hall_drop_38 : decode prog_1_method_4_code 38 = .ok (.iconst 1, 1) := by decide +kernel
theorem d_Hall_drop_39 : decode prog_1_method_4_code 39 = .ok (.goto 4, 3) := by decide +kernel
theorem d_Hall_drop_42 : decode prog_1_method_4_code 42 = .ok (.iconst 0, 1) := by decide +kernel
theorem d_Hall_drop_43 : decode prog_1_method_4_code 43 = .ok (.ireturn, 1) := by decide +kernel
def f_Hall_drop (a0 : Int32) (a1 : Int32) (M : oz_M) : Option ((Nat ⊕ Int32) × oz_M) := oz_b2 (f_Hall_wantElement a0 (M.1 1 0) M) fun w M1 => oz_el (fun kx => some (.inl kx, M1)) (fun _ => oz_b2 (f_Hall_wantElement a1 (M1.1 1 0) M1) fun w M2 => oz_el (fun kx => some (.inl kx, M2)) (fun _ => oz_b2 (f_Hall_unsettle M2) fun v3 M4 => oz_b2 (f_Arcs_remove a0 a1 M4) fun v5 M6 => if v5 = 0 then (some (.inr 0, M6)) else (some (.inr 1, M6))) w) w
set_option maxRecDepth 20000 in
set_option maxHeartbeats 4000000 in
theorem w_Hall_drop {G : oz_G} {a0 : Int32} {a1 : Int32} {M : oz_M} {r : (Nat ⊕ Int32) × oz_M} (cx : oz_C G prog_1_method_4_code "OrderHall") (hR : oz_RtX G (some .int) (fun v : Int32 => some (.int v)) r) (hRm : oz_big G.1.2.2.2.1 6) (hnL : oz_nL G = 3) (hF : f_Hall_drop a0 a1 M = some r) : oz_Z G 0 [(0, .ref (oz_b G + 0)), (1, .int a0), (2, .int a1)] [] M := by
  refine (?_ : oz_R G 0 [(0, .ref (oz_b G + 0)), (1, .int a0), (2, .int a1)] [] M (f_Hall_drop a0 a1 M) (fun x => x = r)) _ hF rfl
  unfold f_Hall_drop
  refine oz_iload_n (q := 1) cx d_Hall_drop_0 rfl rfl 1 rfl ?_
  refine oz_aload_n (q := 2) cx d_Hall_drop_1 rfl rfl 0 rfl ?_
  refine oz_get (q := 5) cx 0 0 (by decide) (ci := 0) rfl rfl tin_Hall (by decide) rfl rfl tw_228 d_Hall_drop_2 rfl ?_
  refine oz_get (q := 8) cx 1 0 (by decide) (ci := 1) rfl rfl tin_Arcs (by decide) rfl rfl tw_35 d_Hall_drop_5 rfl ?_
  refine oz_tS (q := 11) cx hR [.int a0, .int (M.1 1 0)] 2 hRm (by decide) (by decide) (fun _ h => c_Hall_wantElement h) (fun _ _ hfl h => t_Hall_wantElement hfl h) ⟨tw_442, tw_443, tw_1⟩ tw_444 (by decide +kernel) rfl (st := []) rfl (Nat.le_of_ble_eq_true rfl) d_Hall_drop_8 rfl (fun M1 hM1 => ?_)
  refine oz_iload_n (q := 12) cx d_Hall_drop_11 rfl rfl 2 rfl ?_
  refine oz_aload_n (q := 13) cx d_Hall_drop_12 rfl rfl 0 rfl ?_
  refine oz_get (q := 16) cx 0 0 (by decide) (ci := 0) rfl rfl tin_Hall (by decide) rfl rfl tw_228 d_Hall_drop_13 rfl ?_
  refine oz_get (q := 19) cx 1 0 (by decide) (ci := 1) rfl rfl tin_Arcs (by decide) rfl rfl tw_35 d_Hall_drop_16 rfl ?_
  refine oz_tS (q := 22) cx hR [.int a1, .int (M1.1 1 0)] 2 hRm (by decide) (by decide) (fun _ h => c_Hall_wantElement h) (fun _ _ hfl h => t_Hall_wantElement hfl h) ⟨tw_442, tw_443, tw_1⟩ tw_444 (by decide +kernel) rfl (st := []) rfl (Nat.le_of_ble_eq_true rfl) d_Hall_drop_19 rfl (fun M2 hM2 => ?_)
  refine oz_aload_n (q := 23) cx d_Hall_drop_22 rfl rfl 0 rfl ?_
  refine oz_cVv (q := 26) cx 0 [] 0 0 hRm (by decide) (by decide) (fun _ _ h => c_Hall_unsettle h) ⟨tw_257, tw_259, ts_0, tw_1⟩ tw_260 (by decide +kernel) rfl (by decide) rfl rfl (st := []) rfl (Nat.le_of_ble_eq_true rfl) d_Hall_drop_23 rfl (fun v3 M4 hv3 => ?_)
  refine oz_aload_n (q := 27) cx d_Hall_drop_26 rfl rfl 0 rfl ?_
  refine oz_get (q := 30) cx 0 0 (by decide) (ci := 0) rfl rfl tin_Hall (by decide) rfl rfl tw_228 d_Hall_drop_27 rfl ?_
  refine oz_iload_n (q := 31) cx d_Hall_drop_30 rfl rfl 1 rfl ?_
  refine oz_iload_n (q := 32) cx d_Hall_drop_31 rfl rfl 2 rfl ?_
  refine oz_cVi (q := 35) cx 1 [.int a0, .int a1] 2 1 hRm (by decide) (by decide) (fun _ _ h => c_Arcs_remove h) ⟨tw_473, tw_474, tw_475, tw_2⟩ tw_476 (by decide +kernel) rfl (by decide) rfl rfl (st := []) rfl (Nat.le_of_ble_eq_true rfl) d_Hall_drop_32 rfl (fun v5 M6 hv5 => ?_)
  refine oz_if_eq (q := 38) cx d_Hall_drop_35 rfl rfl (fun h7 => ?_) (fun h7 => ?_)
  · refine oz_iconst (q := 43) cx d_Hall_drop_42 rfl (v := 0) rfl ?_
    exact oz_iretX cx hR d_Hall_drop_43
  · refine oz_iconst (q := 39) cx d_Hall_drop_38 rfl (v := 1) rfl ?_
    refine oz_goto cx d_Hall_drop_39 rfl ?_
    exact oz_iretX cx hR d_Hall_drop_43
theorem c_Hall_drop {l : Launch} {D : va_G} {cs : Nat → ClassId} {b : Nat} {a0 : Int32} {a1 : Int32} {M : oz_M} {vz : Int32} {Mz : oz_M} (hF : f_Hall_drop a0 a1 M = some (.inr vz, Mz)) : oz_Met l D cs b y_Hall_drop prog_1_method_4_code 3 (some .int) (oz_rm 6) [.ref (b + 0), .int a0, .int a1] M (some (.int vz)) Mz := by
  refine oz_enter (by decide) (Nat.le_of_ble_eq_true rfl) (fun G cx hR e1 hRm e2 e3 e4 hnL => ?_)
  subst e1; subst e2; subst e3; subst e4
  exact w_Hall_drop cx ⟨fun _ h => (by cases h; exact hR), fun _ h => (by cases h)⟩ hRm hnL hF
theorem t_Hall_drop {l : Launch} {D : va_G} {cs : Nat → ClassId} {b : Nat} {a0 : Int32} {a1 : Int32} {M : oz_M} {kz : Nat} {Mz : oz_M} (hfl : l.stackTraces = false) (hF : f_Hall_drop a0 a1 M = some (.inl kz, Mz)) : oz_MetT l D cs b y_Hall_drop prog_1_method_4_code 3 (some .int) 6 [.ref (b + 0), .int a0, .int a1] M kz Mz := by
  refine oz_enterT hfl (by decide) (Nat.le_of_ble_eq_true rfl) (fun G cx hR e1 hRm e2 e3 e4 hnL => ?_)
  subst e1; subst e2; subst e3; subst e4
  exact w_Hall_drop cx ⟨fun _ h => (by cases h), fun _ h => (by cases h; exact hR)⟩ hRm hnL hF
def y_Hall_first : MethodName := ⟨"OrderHall", "first", "(II)I"⟩
theorem d_Hall_first_0 : decode prog_1_method_13_code 0 = .ok (.aload_n 0, 1) := by decide +kernel
theorem d_Hall_first_1 : decode prog_1_method_13_code 1 = .ok (.invokevirtual 103, 3) := by decide +kernel
theorem d_Hall_first_4 : decode prog_1_method_13_code 4 = .ok (.iload_n 1, 1) := by decide +kernel
theorem d_Hall_first_5 : decode prog_1_method_13_code 5 = .ok (.iconst 1, 1) := by decide +kernel
theorem d_Hall_first_6 : decode prog_1_method_13_code 6 = .ok (.invokestatic 116, 3) := by decide +kernel
theorem d_Hall_first_9 : decode prog_1_method_13_code 9 = .ok (.iload_n 2, 1) := by decide +kernel
theorem d_Hall_first_10 : decode prog_1_method_13_code 10 = .ok (.bipush 14, 2) := by decide +kernel
theorem d_Hall_first_12 : decode prog_1_method_13_code 12 = .ok (.invokestatic 116, 3) := by decide +kernel
theorem d_Hall_first_15 : decode prog_1_method_13_code 15 = .ok (.aload_n 0, 1) := by decide +kernel
theorem d_Hall_first_16 : decode prog_1_method_13_code 16 = .ok (.getfield 42, 3) := by decide +kernel
theorem d_Hall_first_19 : decode prog_1_method_13_code 19 = .ok (.invokevirtual 136, 3) := by decide +kernel
theorem d_Hall_first_22 : decode prog_1_method_13_code 22 = .ok (.aload_n 0, 1) := by decide +kernel
theorem d_Hall_first_23 : decode prog_1_method_13_code 23 = .ok (.getfield 42, 3) := by decide +kernel
theorem d_Hall_first_26 : decode prog_1_method_13_code 26 = .ok (.getfield 158, 3) := by decide +kernel
theorem d_Hall_first_29 : decode prog_1_method_13_code 29 = .ok (.iload_n 1, 1) := by decide +kernel
theorem d_Hall_first_30 : decode prog_1_method_13_code 30 = .ok (.aaload, 1) := by decide +kernel
theorem d_Hall_first_31 : decode prog_1_method_13_code 31 = .ok (.iload_n 2, 1) := by decide +kernel
theorem d_Hall_first_32 : decode prog_1_method_13_code 32 = .ok (.iaload, 1) := by decide +kernel
theorem d_Hall_first_33 : decode prog_1_method_13_code 33 = .ok (.ireturn, 1) := by decide +kernel
noncomputable def f_Hall_first (a0 : Int32) (a1 : Int32) (M : oz_M) : Option ((Nat ⊕ Int32) × oz_M) := oz_b2 (f_Hall_wantSettled M) fun w M1 => oz_el (fun kx => some (.inl kx, M1)) (fun _ => oz_b2 (f_Hall_wantUpTo a0 1 M1) fun w M2 => oz_el (fun kx => some (.inl kx, M2)) (fun _ => oz_b2 (f_Hall_wantUpTo a1 14 M2) fun w M3 => oz_el (fun kx => some (.inl kx, M3)) (fun _ => oz_b2 (f_Held_measure M3) fun v4 M5 => (oz_in a0 2).bind fun j6 => (oz_in a1 15).bind fun j7 => some (.inr (M5.1 (50 + j6) j7), M5)) w) w) w
set_option maxRecDepth 20000 in
set_option maxHeartbeats 4000000 in
theorem w_Hall_first {G : oz_G} {a0 : Int32} {a1 : Int32} {M : oz_M} {r : (Nat ⊕ Int32) × oz_M} (cx : oz_C G prog_1_method_13_code "OrderHall") (hR : oz_RtX G (some .int) (fun v : Int32 => some (.int v)) r) (hRm : oz_big G.1.2.2.2.1 6) (hnL : oz_nL G = 3) (hF : f_Hall_first a0 a1 M = some r) : oz_Z G 0 [(0, .ref (oz_b G + 0)), (1, .int a0), (2, .int a1)] [] M := by
  refine (?_ : oz_R G 0 [(0, .ref (oz_b G + 0)), (1, .int a0), (2, .int a1)] [] M (f_Hall_first a0 a1 M) (fun x => x = r)) _ hF rfl
  unfold f_Hall_first
  refine oz_aload_n (q := 1) cx d_Hall_first_0 rfl rfl 0 rfl ?_
  refine oz_tV (q := 4) cx hR 0 [] 0 0 hRm (by decide) (by decide) (fun _ h => c_Hall_wantSettled h) (fun _ _ hfl h => t_Hall_wantSettled hfl h) ⟨tw_485, tw_487, ts_11, tw_1⟩ tw_488 (by decide +kernel) rfl (by decide) rfl rfl (st := []) rfl (Nat.le_of_ble_eq_true rfl) d_Hall_first_1 rfl (fun M1 hM1 => ?_)
  refine oz_iload_n (q := 5) cx d_Hall_first_4 rfl rfl 1 rfl ?_
  refine oz_iconst (q := 6) cx d_Hall_first_5 rfl (v := 1) rfl ?_
  refine oz_tS (q := 9) cx hR [.int a0, .int 1] 2 hRm (by decide) (by decide) (fun _ h => c_Hall_wantUpTo h) (fun _ _ hfl h => t_Hall_wantUpTo hfl h) ⟨tw_513, tw_514, tw_1⟩ tw_515 (by decide +kernel) rfl (st := []) rfl (Nat.le_of_ble_eq_true rfl) d_Hall_first_6 rfl (fun M2 hM2 => ?_)
  refine oz_iload_n (q := 10) cx d_Hall_first_9 rfl rfl 2 rfl ?_
  refine oz_bipush (q := 12) cx d_Hall_first_10 rfl (v := 14) rfl ?_
  refine oz_tS (q := 15) cx hR [.int a1, .int 14] 2 hRm (by decide) (by decide) (fun _ h => c_Hall_wantUpTo h) (fun _ _ hfl h => t_Hall_wantUpTo hfl h) ⟨tw_513, tw_514, tw_1⟩ tw_515 (by decide +kernel) rfl (st := []) rfl (Nat.le_of_ble_eq_true rfl) d_Hall_first_12 rfl (fun M3 hM3 => ?_)
  refine oz_aload_n (q := 16) cx d_Hall_first_15 rfl rfl 0 rfl ?_
  refine oz_get (q := 19) cx 0 4 (by decide) (ci := 0) rfl rfl tin_Hall (by decide) rfl rfl tw_232 d_Hall_first_16 rfl ?_
  refine oz_cVv (q := 22) cx 45 [] 0 5 hRm (by decide) (by decide) (fun _ _ h => c_Held_measure h) ⟨tw_539, tw_540, tw_541, tw_6⟩ tw_542 (by decide +kernel) rfl (by decide) rfl rfl (st := []) rfl (Nat.le_of_ble_eq_true rfl) d_Hall_first_19 rfl (fun v4 M5 hv4 => ?_)
  refine oz_aload_n (q := 23) cx d_Hall_first_22 rfl rfl 0 rfl ?_
  refine oz_get (q := 26) cx 0 4 (by decide) (ci := 0) rfl rfl tin_Hall (by decide) rfl rfl tw_232 d_Hall_first_23 rfl ?_
  refine oz_get (q := 29) cx 45 2 (by decide) (ci := 5) rfl rfl tin_Held (by decide) rfl rfl tw_147 d_Hall_first_26 rfl ?_
  refine oz_iload_n (q := 30) cx d_Hall_first_29 rfl rfl 1 rfl ?_
  refine oz_aald (q := 31) cx 49 2 50 (by decide) rfl d_Hall_first_30 rfl (fun j6 hj6 => ?_)
  refine oz_iload_n (q := 32) cx d_Hall_first_31 rfl rfl 2 rfl ?_
  refine oz_iald (q := 33) cx (50 + j6) 15 (oz_g49l (oz_lt hj6)) (oz_g49 (oz_lt hj6)) d_Hall_first_32 rfl (fun j7 hj7 => ?_)
  exact oz_iretX cx hR d_Hall_first_33
theorem c_Hall_first {l : Launch} {D : va_G} {cs : Nat → ClassId} {b : Nat} {a0 : Int32} {a1 : Int32} {M : oz_M} {vz : Int32} {Mz : oz_M} (hF : f_Hall_first a0 a1 M = some (.inr vz, Mz)) : oz_Met l D cs b y_Hall_first prog_1_method_13_code 3 (some .int) (oz_rm 6) [.ref (b + 0), .int a0, .int a1] M (some (.int vz)) Mz := by
  refine oz_enter (by decide) (Nat.le_of_ble_eq_true rfl) (fun G cx hR e1 hRm e2 e3 e4 hnL => ?_)
  subst e1; subst e2; subst e3; subst e4
  exact w_Hall_first cx ⟨fun _ h => (by cases h; exact hR), fun _ h => (by cases h)⟩ hRm hnL hF
theorem t_Hall_first {l : Launch} {D : va_G} {cs : Nat → ClassId} {b : Nat} {a0 : Int32} {a1 : Int32} {M : oz_M} {kz : Nat} {Mz : oz_M} (hfl : l.stackTraces = false) (hF : f_Hall_first a0 a1 M = some (.inl kz, Mz)) : oz_MetT l D cs b y_Hall_first prog_1_method_13_code 3 (some .int) 6 [.ref (b + 0), .int a0, .int a1] M kz Mz := by
  refine oz_enterT hfl (by decide) (Nat.le_of_ble_eq_true rfl) (fun G cx hR e1 hRm e2 e3 e4 hnL => ?_)
  subst e1; subst e2; subst e3; subst e4
  exact w_Hall_first cx ⟨fun _ h => (by cases h), fun _ h => (by cases h; exact hR)⟩ hRm hnL hF
def y_Hall_keep : MethodName := ⟨"OrderHall", "keep", "(I)I"⟩
theorem d_Hall_keep_0 : decode prog_1_method_24_code 0 = .ok (.aload_n 0, 1) := by decide +kernel
theorem d_Hall_keep_1 : decode prog_1_method_24_code 1 = .ok (.invokevirtual 103, 3) := by decide +kernel
theorem d_Hall_keep_4 : decode prog_1_method_24_code 4 = .ok (.iload_n 1, 1) := by decide +kernel
theorem d_Hall_keep_5 : decode prog_1_method_24_code 5 = .ok (.ifCond .le 14, 3) := by decide +kernel
theorem d_Hall_keep_8 : decode prog_1_method_24_code 8 = .ok (.iload_n 1, 1) := by decide +kernel
theorem d_Hall_keep_9 : decode prog_1_method_24_code 9 = .ok (.aload_n 0, 1) := by decide +kernel
theorem d_Hall_keep_10 : decode prog_1_method_24_code 10 = .ok (.getfield 26, 3) := by decide +kernel
theorem d_Hall_keep_13 : decode prog_1_method_24_code 13 = .ok (.invokevirtual 209, 3) := by decide +kernel
theorem d_Hall_keep_16 : decode prog_1_method_24_code 16 = .ok (.if_icmp .le 13, 3) := by decide +kernel
theorem d_Hall_keep_19 : decode prog_1_method_24_code 19 = .ok (.new 60, 3) := by decide +kernel
theorem d_Hall_keep_22 : decode prog_1_method_24_code 22 = .ok (.dup, 1) := by decide +kernel
theorem d_Hall_keep_23 : decode prog_1_method_24_code 23 = .ok (.ldc 212, 2) := by decide +kernel
theorem d_Hall_keep_25 : decode prog_1_method_24_code 25 = .ok (.invokespecial 64, 3) := by decide +kernel
theorem d_Hall_keep_28 : decode prog_1_method_24_code 28 = .ok (.athrow, 1) := by decide +kernel
theorem d_Hall_keep_29 : decode prog_1_method_24_code 29 = .ok (.aload_n 0, 1) := by decide +kernel
theorem d_Hall_keep_30 : decode prog_1_method_24_code 30 = .ok (.invokevirtual 67, 3) := by decide +kernel
theorem d_Hall_keep_33 : decode prog_1_method_24_code 33 = .ok (.aload_n 0, 1) := by decide +kernel
theorem d_Hall_keep_34 : decode prog_1_method_24_code 34 = .ok (.getfield 10, 3) := by decide +kernel
theorem d_Hall_keep_37 : decode prog_1_method_24_code 37 = .ok (.aload_n 0, 1) := by decide +kernel
theorem d_Hall_keep_38 : decode prog_1_method_24_code 38 = .ok (.getfield 26, 3) := by decide +kernel
theorem d_Hall_keep_41 : decode prog_1_method_24_code 41 = .ok (.iload_n 1, 1) := by decide +kernel
theorem d_Hall_keep_42 : decode prog_1_method_24_code 42 = .ok (.invokevirtual 214, 3) := by decide +kernel
theorem d_Hall_keep_45 : decode prog_1_method_24_code 45 = .ok (.aload_n 0, 1) := by decide +kernel
theorem d_Hall_keep_46 : decode prog_1_method_24_code 46 = .ok (.invokevirtual 96, 3) := by decide +kernel
theorem d_Hall_keep_49 : decode prog_1_method_24_code 49 = .ok (.aload_n 0, 1) := by decide +kernel
theorem d_Hall_keep_50 : decode prog_1_method_24_code 50 = .ok (.getfield 26, 3) := by decide +kernel
theorem d_Hall_keep_53 : decode prog_1_method_24_code 53 = .ok (.getfield 106, 3) := by decide +kernel
theorem d_Hall_keep_56 : decode prog_1_method_24_code 56 = .ok (.ireturn, 1) := by decide +kernel
noncomputable def f_Hall_keep (a0 : Int32) (M : oz_M) : Option ((Nat ⊕ Int32) × oz_M) := oz_b2 (f_Hall_wantSettled M) fun w M1 => oz_el (fun kx => some (.inl kx, M1)) (fun _ => if 0 < a0 then ((f_Order_everything M1).bind fun v2 => if v2 < a0 then (some (.inl 2, M1)) else (oz_b2 (f_Hall_unsettle M1) fun v3 M4 => oz_b2 (f_Arcs_restrict a0 M4) fun v5 M6 => oz_b2 (f_Hall_adopt M6) fun v7 M8 => some (.inr (M8.1 6 0), M8))) else (some (.inl 2, M1))) w
set_option maxRecDepth 20000 in
set_option maxHeartbeats 4000000 in
theorem w_Hall_keep {G : oz_G} {a0 : Int32} {M : oz_M} {r : (Nat ⊕ Int32) × oz_M} (cx : oz_C G prog_1_method_24_code "OrderHall") (hR : oz_RtX G (some .int) (fun v : Int32 => some (.int v)) r) (hRm : oz_big G.1.2.2.2.1 6) (hnL : oz_nL G = 2) (hF : f_Hall_keep a0 M = some r) : oz_Z G 0 [(0, .ref (oz_b G + 0)), (1, .int a0)] [] M := by
  refine (?_ : oz_R G 0 [(0, .ref (oz_b G + 0)), (1, .int a0)] [] M (f_Hall_keep a0 M) (fun x => x = r)) _ hF rfl
  unfold f_Hall_keep
  refine oz_aload_n (q := 1) cx d_Hall_keep_0 rfl rfl 0 rfl ?_
  refine oz_tV (q := 4) cx hR 0 [] 0 0 hRm (by decide) (by decide) (fun _ h => c_Hall_wantSettled h) (fun _ _ hfl h => t_Hall_wantSettled hfl h) ⟨tw_485, tw_487, ts_11, tw_1⟩ tw_488 (by decide +kernel) rfl (by decide) rfl rfl (st := []) rfl (Nat.le_of_ble_eq_true rfl) d_Hall_keep_1 rfl (fun M1 hM1 => ?_)
  refine oz_iload_n (q := 5) cx d_Hall_keep_4 rfl rfl 1 rfl ?_
  refine oz_if_le (q := 8) cx d_Hall_keep_5 rfl rfl (fun h10 => ?_) (fun h10 => ?_)
  · exact oz_throw cx 2 hR (by decide) (oz_up hRm (by decide)) ⟨tw_363, tw_364, tw_13⟩ (List.mem_of_getElem? (i := 2) rfl) rfl d_Hall_keep_19 d_Hall_keep_22 d_Hall_keep_23 d_Hall_keep_25 d_Hall_keep_28
  · refine oz_iload_n (q := 9) cx d_Hall_keep_8 rfl rfl 1 rfl ?_
    refine oz_aload_n (q := 10) cx d_Hall_keep_9 rfl rfl 0 rfl ?_
    refine oz_get (q := 13) cx 0 2 (by decide) (ci := 0) rfl rfl tin_Hall (by decide) rfl rfl tw_230 d_Hall_keep_10 rfl ?_
    refine oz_cVip (q := 16) cx 6 [] 0 3 hRm (by decide) (by decide) (fun _ h => c_Order_everything h) ⟨tw_712, tw_301, tw_302, tw_4⟩ tw_303 (by decide +kernel) rfl (by decide) rfl rfl (st := [.int a0]) rfl (Nat.le_of_ble_eq_true rfl) d_Hall_keep_13 rfl (fun v2 hv2 => ?_)
    refine oz_icmp_le (q := 19) cx d_Hall_keep_16 rfl rfl (fun h9 => ?_) (fun h9 => ?_)
    · refine oz_aload_n (q := 30) cx d_Hall_keep_29 rfl rfl 0 rfl ?_
      refine oz_cVv (q := 33) cx 0 [] 0 0 hRm (by decide) (by decide) (fun _ _ h => c_Hall_unsettle h) ⟨tw_257, tw_259, ts_0, tw_1⟩ tw_260 (by decide +kernel) rfl (by decide) rfl rfl (st := []) rfl (Nat.le_of_ble_eq_true rfl) d_Hall_keep_30 rfl (fun v3 M4 hv3 => ?_)
      refine oz_aload_n (q := 34) cx d_Hall_keep_33 rfl rfl 0 rfl ?_
      refine oz_get (q := 37) cx 0 0 (by decide) (ci := 0) rfl rfl tin_Hall (by decide) rfl rfl tw_228 d_Hall_keep_34 rfl ?_
      refine oz_aload_n (q := 38) cx d_Hall_keep_37 rfl rfl 0 rfl ?_
      refine oz_get (q := 41) cx 0 2 (by decide) (ci := 0) rfl rfl tin_Hall (by decide) rfl rfl tw_230 d_Hall_keep_38 rfl ?_
      refine oz_iload_n (q := 42) cx d_Hall_keep_41 rfl rfl 1 rfl ?_
      refine oz_cVv (q := 45) cx 1 [.ref (oz_b G + 6), .int a0] 2 1 hRm (by decide) (by decide) (fun _ _ h => c_Arcs_restrict h) ⟨tw_714, tw_715, tw_716, tw_2⟩ tw_717 (by decide +kernel) rfl (by decide) rfl rfl (st := []) rfl (Nat.le_of_ble_eq_true rfl) d_Hall_keep_42 rfl (fun v5 M6 hv5 => ?_)
      refine oz_aload_n (q := 46) cx d_Hall_keep_45 rfl rfl 0 rfl ?_
      refine oz_cVv (q := 49) cx 0 [] 0 0 hRm (by decide) (by decide) (fun _ _ h => c_Hall_adopt h) ⟨tw_283, tw_285, ts_3, tw_1⟩ tw_286 (by decide +kernel) rfl (by decide) rfl rfl (st := []) rfl (Nat.le_of_ble_eq_true rfl) d_Hall_keep_46 rfl (fun v7 M8 hv7 => ?_)
      refine oz_aload_n (q := 50) cx d_Hall_keep_49 rfl rfl 0 rfl ?_
      refine oz_get (q := 53) cx 0 2 (by decide) (ci := 0) rfl rfl tin_Hall (by decide) rfl rfl tw_230 d_Hall_keep_50 rfl ?_
      refine oz_get (q := 56) cx 6 0 (by decide) (ci := 3) rfl rfl tin_Order (by decide) rfl rfl tw_74 d_Hall_keep_53 rfl ?_
      exact oz_iretX cx hR d_Hall_keep_56
    · exact oz_throw cx 2 hR (by decide) (oz_up hRm (by decide)) ⟨tw_363, tw_364, tw_13⟩ (List.mem_of_getElem? (i := 2) rfl) rfl d_Hall_keep_19 d_Hall_keep_22 d_Hall_keep_23 d_Hall_keep_25 d_Hall_keep_28
theorem c_Hall_keep {l : Launch} {D : va_G} {cs : Nat → ClassId} {b : Nat} {a0 : Int32} {M : oz_M} {vz : Int32} {Mz : oz_M} (hF : f_Hall_keep a0 M = some (.inr vz, Mz)) : oz_Met l D cs b y_Hall_keep prog_1_method_24_code 2 (some .int) (oz_rm 6) [.ref (b + 0), .int a0] M (some (.int vz)) Mz := by
  refine oz_enter (by decide) (Nat.le_of_ble_eq_true rfl) (fun G cx hR e1 hRm e2 e3 e4 hnL => ?_)
  subst e1; subst e2; subst e3; subst e4
  exact w_Hall_keep cx ⟨fun _ h => (by cases h; exact hR), fun _ h => (by cases h)⟩ hRm hnL hF
theorem t_Hall_keep {l : Launch} {D : va_G} {cs : Nat → ClassId} {b : Nat} {a0 : Int32} {M : oz_M} {kz : Nat} {Mz : oz_M} (hfl : l.stackTraces = false) (hF : f_Hall_keep a0 M = some (.inl kz, Mz)) : oz_MetT l D cs b y_Hall_keep prog_1_method_24_code 2 (some .int) 6 [.ref (b + 0), .int a0] M kz Mz := by
  refine oz_enterT hfl (by decide) (Nat.le_of_ble_eq_true rfl) (fun G cx hR e1 hRm e2 e3 e4 hnL => ?_)
  subst e1; subst e2; subst e3; subst e4
  exact w_Hall_keep cx ⟨fun _ h => (by cases h), fun _ h => (by cases h; exact hR)⟩ hRm hnL hF
def y_Hall_lattice : MethodName := ⟨"OrderHall", "lattice", "()I"⟩
theorem d_Hall_lattice_0 : decode prog_1_method_21_code 0 = .ok (.aload_n 0, 1) := by decide +kernel
theorem d_Hall_lattice_1 : decode prog_1_method_21_code 1 = .ok (.invokevirtual 103, 3) := by decide +kernel
theorem d_Hall_lattice_4 : decode prog_1_method_21_code 4 = .ok (.aload_n 0, 1) := by decide +kernel
theorem d_Hall_lattice_5 : decode prog_1_method_21_code 5 = .ok (.getfield 35, 3) := by decide +kernel
theorem d_Hall_lattice_8 : decode prog_1_method_21_code 8 = .ok (.invokevirtual 196, 3) := by decide +kernel
theorem d_Hall_lattice_11 : decode prog_1_method_21_code 11 = .ok (.ifCond .ne 5, 3) := by decide +kernel
theorem d_Hall_lattice_14 : decode prog_1_method_21_code 14 = .ok (.iconst 0, 1) := by decide +kernel
theorem d_Hall_lattice_15 : decode prog_1_method_21_code 15 = .ok (.ireturn, 1) := by decide +kernel
theorem d_Hall_lattice_16 : decode prog_1_method_21_code 16 = .ok (.aload_n 0, 1) := by decide +kernel
theorem d_Hall_lattice_17 : decode prog_1_method_21_code 17 = .ok (.getfield 35, 3) := by decide +kernel
theorem d_Hall_lattice_20 : decode prog_1_method_21_code 20 = .ok (.invokevirtual 200, 3) := by decide +kernel
theorem d_Hall_lattice_23 : decode prog_1_method_21_code 23 = .ok (.ifCond .eq 7, 3) := by decide +kernel
theorem d_Hall_lattice_26 : decode prog_1_method_21_code 26 = .ok (.iconst 2, 1) := by decide +kernel
theorem d_Hall_lattice_27 : decode prog_1_method_21_code 27 = .ok (.goto 4, 3) := by decide +kernel
theorem d_Hall_lattice_30 : decode prog_1_method_21_code 30 = .ok (.iconst 1, 1) := by decide +kernel
theorem d_Hall_lattice_31 : decode prog_1_method_21_code 31 = .ok (.ireturn, 1) := by decide +kernel
noncomputable def f_Hall_lattice (M : oz_M) : Option ((Nat ⊕ Int32) × oz_M) := oz_b2 (f_Hall_wantSettled M) fun w M1 => oz_el (fun kx => some (.inl kx, M1)) (fun _ => oz_b2 (f_Bounds_complete M1) fun v2 M3 => if v2 = 0 then (some (.inr 0, M3)) else ((f_Bounds_distributive M3).bind fun v4 => if v4 = 0 then (some (.inr 1, M3)) else (some (.inr 2, M3)))) w
set_option maxRecDepth 20000 in
set_option maxHeartbeats 4000000 in
theorem w_Hall_lattice {G : oz_G} {M : oz_M} {r : (Nat ⊕ Int32) × oz_M} (cx : oz_C G prog_1_method_21_code "OrderHall") (hR : oz_RtX G (some .int) (fun v : Int32 => some (.int v)) r) (hRm : oz_big G.1.2.2.2.1 6) (hnL : oz_nL G = 1) (hF : f_Hall_lattice M = some r) : oz_Z G 0 [(0, .ref (oz_b G + 0))] [] M := by
  refine (?_ : oz_R G 0 [(0, .ref (oz_b G + 0))] [] M (f_Hall_lattice  M) (fun x => x = r)) _ hF rfl
  unfold f_Hall_lattice
  refine oz_aload_n (q := 1) cx d_Hall_lattice_0 rfl rfl 0 rfl ?_
  refine oz_tV (q := 4) cx hR 0 [] 0 0 hRm (by decide) (by decide) (fun _ h => c_Hall_wantSettled h) (fun _ _ hfl h => t_Hall_wantSettled hfl h) ⟨tw_485, tw_487, ts_11, tw_1⟩ tw_488 (by decide +kernel) rfl (by decide) rfl rfl (st := []) rfl (Nat.le_of_ble_eq_true rfl) d_Hall_lattice_1 rfl (fun M1 hM1 => ?_)
  refine oz_aload_n (q := 5) cx d_Hall_lattice_4 rfl rfl 0 rfl ?_
  refine oz_get (q := 8) cx 0 3 (by decide) (ci := 0) rfl rfl tin_Hall (by decide) rfl rfl tw_231 d_Hall_lattice_5 rfl ?_
  refine oz_cVi (q := 11) cx 14 [] 0 4 hRm (by decide) (by decide) (fun _ _ h => c_Bounds_complete h) ⟨tw_673, tw_674, tw_675, tw_5⟩ tw_676 (by decide +kernel) rfl (by decide) rfl rfl (st := []) rfl (Nat.le_of_ble_eq_true rfl) d_Hall_lattice_8 rfl (fun v2 M3 hv2 => ?_)
  refine oz_if_ne (q := 14) cx d_Hall_lattice_11 rfl rfl (fun h6 => ?_) (fun h6 => ?_)
  · refine oz_aload_n (q := 17) cx d_Hall_lattice_16 rfl rfl 0 rfl ?_
    refine oz_get (q := 20) cx 0 3 (by decide) (ci := 0) rfl rfl tin_Hall (by decide) rfl rfl tw_231 d_Hall_lattice_17 rfl ?_
    refine oz_cVip (q := 23) cx 14 [] 0 4 hRm (by decide) (by decide) (fun _ h => c_Bounds_distributive h) ⟨tw_679, tw_680, tw_681, tw_5⟩ tw_682 (by decide +kernel) rfl (by decide) rfl rfl (st := []) rfl (Nat.le_of_ble_eq_true rfl) d_Hall_lattice_20 rfl (fun v4 hv4 => ?_)
    refine oz_if_eq (q := 26) cx d_Hall_lattice_23 rfl rfl (fun h5 => ?_) (fun h5 => ?_)
    · refine oz_iconst (q := 31) cx d_Hall_lattice_30 rfl (v := 1) rfl ?_
      exact oz_iretX cx hR d_Hall_lattice_31
    · refine oz_iconst (q := 27) cx d_Hall_lattice_26 rfl (v := 2) rfl ?_
      refine oz_goto cx d_Hall_lattice_27 rfl ?_
      exact oz_iretX cx hR d_Hall_lattice_31
  · refine oz_iconst (q := 15) cx d_Hall_lattice_14 rfl (v := 0) rfl ?_
    exact oz_iretX cx hR d_Hall_lattice_15
theorem c_Hall_lattice {l : Launch} {D : va_G} {cs : Nat → ClassId} {b : Nat} {M : oz_M} {vz : Int32} {Mz : oz_M} (hF : f_Hall_lattice M = some (.inr vz, Mz)) : oz_Met l D cs b y_Hall_lattice prog_1_method_21_code 1 (some .int) (oz_rm 6) [.ref (b + 0)] M (some (.int vz)) Mz := by
  refine oz_enter (by decide) (Nat.le_of_ble_eq_true rfl) (fun G cx hR e1 hRm e2 e3 e4 hnL => ?_)
  subst e1; subst e2; subst e3; subst e4
  exact w_Hall_lattice cx ⟨fun _ h => (by cases h; exact hR), fun _ h => (by cases h)⟩ hRm hnL hF
theorem t_Hall_lattice {l : Launch} {D : va_G} {cs : Nat → ClassId} {b : Nat} {M : oz_M} {kz : Nat} {Mz : oz_M} (hfl : l.stackTraces = false) (hF : f_Hall_lattice M = some (.inl kz, Mz)) : oz_MetT l D cs b y_Hall_lattice prog_1_method_21_code 1 (some .int) 6 [.ref (b + 0)] M kz Mz := by
  refine oz_enterT hfl (by decide) (Nat.le_of_ble_eq_true rfl) (fun G cx hR e1 hRm e2 e3 e4 hnL => ?_)
  subst e1; subst e2; subst e3; subst e4
  exact w_Hall_lattice cx ⟨fun _ h => (by cases h), fun _ h => (by cases h; exact hR)⟩ hRm hnL hF
def y_Hall_level : MethodName := ⟨"OrderHall", "level", "(II)I"⟩
theorem d_Hall_level_0 : decode prog_1_method_9_code 0 = .ok (.aload_n 0, 1) := by decide +kernel
theorem d_Hall_level_1 : decode prog_1_method_9_code 1 = .ok (.invokevirtual 103, 3) := by decide +kernel
theorem d_Hall_level_4 : decode prog_1_method_9_code 4 = .ok (.iload_n 1, 1) := by decide +kernel
theorem d_Hall_level_5 : decode prog_1_method_9_code 5 = .ok (.aload_n 0, 1) := by decide +kernel
theorem d_Hall_level_6 : decode prog_1_method_9_code 6 = .ok (.getfield 26, 3) := by decide +kernel
theorem d_Hall_level_9 : decode prog_1_method_9_code 9 = .ok (.getfield 106, 3) := by decide +kernel
theorem d_Hall_level_12 : decode prog_1_method_9_code 12 = .ok (.invokestatic 78, 3) := by decide +kernel
theorem d_Hall_level_15 : decode prog_1_method_9_code 15 = .ok (.iload_n 2, 1) := by decide +kernel
theorem d_Hall_level_16 : decode prog_1_method_9_code 16 = .ok (.iconst 1, 1) := by decide +kernel
theorem d_Hall_level_17 : decode prog_1_method_9_code 17 = .ok (.invokestatic 116, 3) := by decide +kernel
theorem d_Hall_level_20 : decode prog_1_method_9_code 20 = .ok (.iload_n 2, 1) := by decide +kernel
theorem d_Hall_level_21 : decode prog_1_method_9_code 21 = .ok (.ifCond .ne 15, 3) := by decide +kernel
theorem d_Hall_level_24 : decode prog_1_method_9_code 24 = .ok (.aload_n 0, 1) := by decide +kernel
theorem d_Hall_level_25 : decode prog_1_method_9_code 25 = .ok (.getfield 26, 3) := by decide +kernel
theorem d_Hall_level_28 : decode prog_1_method_9_code 28 = .ok (.getfield 126, 3) := by decide +kernel
theorem d_Hall_level_31 : decode prog_1_method_9_code 31 = .ok (.iload_n 1, 1) := by decide +kernel
theorem d_Hall_level_32 : decode prog_1_method_9_code 32 = .ok (.iaload, 1) := by decide +kernel
theorem d_Hall_level_33 : decode prog_1_method_9_code 33 = .ok (.goto 12, 3) := by decide +kernel
theorem d_Hall_level_36 : decode prog_1_method_9_code 36 = .ok (.aload_n 0, 1) := by decide +kernel
theorem d_Hall_level_37 : decode prog_1_method_9_code 37 = .ok (.getfield 26, 3) := by decide +kernel
theorem d_Hall_level_40 : decode prog_1_method_9_code 40 = .ok (.getfield 129, 3) := by decide +kernel
theorem d_Hall_level_43 : decode prog_1_method_9_code 43 = .ok (.iload_n 1, 1) := by decide +kernel
theorem d_Hall_level_44 : decode prog_1_method_9_code 44 = .ok (.iaload, 1) := by decide +kernel
theorem d_Hall_level_45 : decode prog_1_method_9_code 45 = .ok (.ireturn, 1) := by decide +kernel
def f_Hall_level (a0 : Int32) (a1 : Int32) (M : oz_M) : Option ((Nat ⊕ Int32) × oz_M) := oz_b2 (f_Hall_wantSettled M) fun w M1 => oz_el (fun kx => some (.inl kx, M1)) (fun _ => oz_b2 (f_Hall_wantElement a0 (M1.1 6 0) M1) fun w M2 => oz_el (fun kx => some (.inl kx, M2)) (fun _ => oz_b2 (f_Hall_wantUpTo a1 1 M2) fun w M3 => oz_el (fun kx => some (.inl kx, M3)) (fun _ => if a1 = 0 then ((oz_in a0 14).bind fun j5 => some (.inr (M3.1 10 j5), M3)) else ((oz_in a0 14).bind fun j4 => some (.inr (M3.1 11 j4), M3))) w) w) w
set_option maxRecDepth 20000 in
set_option maxHeartbeats 4000000 in
theorem w_Hall_level {G : oz_G} {a0 : Int32} {a1 : Int32} {M : oz_M} {r : (Nat ⊕ Int32) × oz_M} (cx : oz_C G prog_1_method_9_code "OrderHall") (hR : oz_RtX G (some .int) (fun v : Int32 => some (.int v)) r) (hRm : oz_big G.1.2.2.2.1 6) (hnL : oz_nL G = 3) (hF : f_Hall_level a0 a1 M = some r) : oz_Z G 0 [(0, .ref (oz_b G + 0)), (1, .int a0), (2, .int a1)] [] M := by
  refine (?_ : oz_R G 0 [(0, .ref (oz_b G + 0)), (1, .int a0), (2, .int a1)] [] M (f_Hall_level a0 a1 M) (fun x => x = r)) _ hF rfl
  unfold f_Hall_level
  refine oz_aload_n (q := 1) cx d_Hall_level_0 rfl rfl 0 rfl ?_
  refine oz_tV (q := 4) cx hR 0 [] 0 0 hRm (by decide) (by decide) (fun _ h => c_Hall_wantSettled h) (fun _ _ hfl h => t_Hall_wantSettled hfl h) ⟨tw_485, tw_487, ts_11, tw_1⟩ tw_488 (by decide +kernel) rfl (by decide) rfl rfl (st := []) rfl (Nat.le_of_ble_eq_true rfl) d_Hall_level_1 rfl (fun M1 hM1 => ?_)
  refine oz_iload_n (q := 5) cx d_Hall_level_4 rfl rfl 1 rfl ?_
  refine oz_aload_n (q := 6) cx d_Hall_level_5 rfl rfl 0 rfl ?_
  refine oz_get (q := 9) cx 0 2 (by decide) (ci := 0) rfl rfl tin_Hall (by decide) rfl rfl tw_230 d_Hall_level_6 rfl ?_
  refine oz_get (q := 12) cx 6 0 (by decide) (ci := 3) rfl rfl tin_Order (by decide) rfl rfl tw_74 d_Hall_level_9 rfl ?_
  refine oz_tS (q := 15) cx hR [.int a0, .int (M1.1 6 0)] 2 hRm (by decide) (by decide) (fun _ h => c_Hall_wantElement h) (fun _ _ hfl h => t_Hall_wantElement hfl h) ⟨tw_442, tw_443, tw_1⟩ tw_444 (by decide +kernel) rfl (st := []) rfl (Nat.le_of_ble_eq_true rfl) d_Hall_level_12 rfl (fun M2 hM2 => ?_)
  refine oz_iload_n (q := 16) cx d_Hall_level_15 rfl rfl 2 rfl ?_
  refine oz_iconst (q := 17) cx d_Hall_level_16 rfl (v := 1) rfl ?_
  refine oz_tS (q := 20) cx hR [.int a1, .int 1] 2 hRm (by decide) (by decide) (fun _ h => c_Hall_wantUpTo h) (fun _ _ hfl h => t_Hall_wantUpTo hfl h) ⟨tw_513, tw_514, tw_1⟩ tw_515 (by decide +kernel) rfl (st := []) rfl (Nat.le_of_ble_eq_true rfl) d_Hall_level_17 rfl (fun M3 hM3 => ?_)
  refine oz_iload_n (q := 21) cx d_Hall_level_20 rfl rfl 2 rfl ?_
  refine oz_if_ne (q := 24) cx d_Hall_level_21 rfl rfl (fun h6 => ?_) (fun h6 => ?_)
  · refine oz_aload_n (q := 37) cx d_Hall_level_36 rfl rfl 0 rfl ?_
    refine oz_get (q := 40) cx 0 2 (by decide) (ci := 0) rfl rfl tin_Hall (by decide) rfl rfl tw_230 d_Hall_level_37 rfl ?_
    refine oz_get (q := 43) cx 6 5 (by decide) (ci := 3) rfl rfl tin_Order (by decide) rfl rfl tw_95 d_Hall_level_40 rfl ?_
    refine oz_iload_n (q := 44) cx d_Hall_level_43 rfl rfl 1 rfl ?_
    refine oz_iald (q := 45) cx 11 14 (by decide) rfl d_Hall_level_44 rfl (fun j4 hj4 => ?_)
    exact oz_iretX cx hR d_Hall_level_45
  · refine oz_aload_n (q := 25) cx d_Hall_level_24 rfl rfl 0 rfl ?_
    refine oz_get (q := 28) cx 0 2 (by decide) (ci := 0) rfl rfl tin_Hall (by decide) rfl rfl tw_230 d_Hall_level_25 rfl ?_
    refine oz_get (q := 31) cx 6 4 (by decide) (ci := 3) rfl rfl tin_Order (by decide) rfl rfl tw_93 d_Hall_level_28 rfl ?_
    refine oz_iload_n (q := 32) cx d_Hall_level_31 rfl rfl 1 rfl ?_
    refine oz_iald (q := 33) cx 10 14 (by decide) rfl d_Hall_level_32 rfl (fun j5 hj5 => ?_)
    refine oz_goto cx d_Hall_level_33 rfl ?_
    exact oz_iretX cx hR d_Hall_level_45
theorem c_Hall_level {l : Launch} {D : va_G} {cs : Nat → ClassId} {b : Nat} {a0 : Int32} {a1 : Int32} {M : oz_M} {vz : Int32} {Mz : oz_M} (hF : f_Hall_level a0 a1 M = some (.inr vz, Mz)) : oz_Met l D cs b y_Hall_level prog_1_method_9_code 3 (some .int) (oz_rm 6) [.ref (b + 0), .int a0, .int a1] M (some (.int vz)) Mz := by
  refine oz_enter (by decide) (Nat.le_of_ble_eq_true rfl) (fun G cx hR e1 hRm e2 e3 e4 hnL => ?_)
  subst e1; subst e2; subst e3; subst e4
  exact w_Hall_level cx ⟨fun _ h => (by cases h; exact hR), fun _ h => (by cases h)⟩ hRm hnL hF
theorem t_Hall_level {l : Launch} {D : va_G} {cs : Nat → ClassId} {b : Nat} {a0 : Int32} {a1 : Int32} {M : oz_M} {kz : Nat} {Mz : oz_M} (hfl : l.stackTraces = false) (hF : f_Hall_level a0 a1 M = some (.inl kz, Mz)) : oz_MetT l D cs b y_Hall_level prog_1_method_9_code 3 (some .int) 6 [.ref (b + 0), .int a0, .int a1] M kz Mz := by
  refine oz_enterT hfl (by decide) (Nat.le_of_ble_eq_true rfl) (fun G cx hR e1 hRm e2 e3 e4 hnL => ?_)
  subst e1; subst e2; subst e3; subst e4
  exact w_Hall_level cx ⟨fun _ h => (by cases h), fun _ h => (by cases h; exact hR)⟩ hRm hnL hF
def y_Hall_most : MethodName := ⟨"OrderHall", "most", "(II)I"⟩
theorem d_Hall_most_0 : decode prog_1_method_12_code 0 = .ok (.aload_n 0, 1) := by decide +kernel
theorem d_Hall_most_1 : decode prog_1_method_12_code 1 = .ok (.invokevirtual 103, 3) := by decide +kernel
theorem d_Hall_most_4 : decode prog_1_method_12_code 4 = .ok (.iload_n 1, 1) := by decide +kernel
theorem d_Hall_most_5 : decode prog_1_method_12_code 5 = .ok (.iconst 1, 1) := by decide +kernel
theorem d_Hall_most_6 : decode prog_1_method_12_code 6 = .ok (.invokestatic 116, 3) := by decide +kernel
theorem d_Hall_most_9 : decode prog_1_method_12_code 9 = .ok (.iload_n 2, 1) := by decide +kernel
theorem d_Hall_most_10 : decode prog_1_method_12_code 10 = .ok (.bipush 14, 2) := by decide +kernel
theorem d_Hall_most_12 : decode prog_1_method_12_code 12 = .ok (.invokestatic 116, 3) := by decide +kernel
theorem d_Hall_most_15 : decode prog_1_method_12_code 15 = .ok (.aload_n 0, 1) := by decide +kernel
theorem d_Hall_most_16 : decode prog_1_method_12_code 16 = .ok (.getfield 42, 3) := by decide +kernel
theorem d_Hall_most_19 : decode prog_1_method_12_code 19 = .ok (.invokevirtual 136, 3) := by decide +kernel
theorem d_Hall_most_22 : decode prog_1_method_12_code 22 = .ok (.aload_n 0, 1) := by decide +kernel
theorem d_Hall_most_23 : decode prog_1_method_12_code 23 = .ok (.getfield 42, 3) := by decide +kernel
theorem d_Hall_most_26 : decode prog_1_method_12_code 26 = .ok (.getfield 139, 3) := by decide +kernel
theorem d_Hall_most_29 : decode prog_1_method_12_code 29 = .ok (.iload_n 1, 1) := by decide +kernel
theorem d_Hall_most_30 : decode prog_1_method_12_code 30 = .ok (.aaload, 1) := by decide +kernel
theorem d_Hall_most_31 : decode prog_1_method_12_code 31 = .ok (.iload_n 2, 1) := by decide +kernel
theorem d_Hall_most_32 : decode prog_1_method_12_code 32 = .ok (.iaload, 1) := by decide +kernel
theorem d_Hall_most_33 : decode prog_1_method_12_code 33 = .ok (.ireturn, 1) := by decide +kernel
noncomputable def f_Hall_most (a0 : Int32) (a1 : Int32) (M : oz_M) : Option ((Nat ⊕ Int32) × oz_M) := oz_b2 (f_Hall_wantSettled M) fun w M1 => oz_el (fun kx => some (.inl kx, M1)) (fun _ => oz_b2 (f_Hall_wantUpTo a0 1 M1) fun w M2 => oz_el (fun kx => some (.inl kx, M2)) (fun _ => oz_b2 (f_Hall_wantUpTo a1 14 M2) fun w M3 => oz_el (fun kx => some (.inl kx, M3)) (fun _ => oz_b2 (f_Held_measure M3) fun v4 M5 => (oz_in a0 2).bind fun j6 => (oz_in a1 15).bind fun j7 => some (.inr (M5.1 (47 + j6) j7), M5)) w) w) w
set_option maxRecDepth 20000 in
set_option maxHeartbeats 4000000 in
theorem w_Hall_most {G : oz_G} {a0 : Int32} {a1 : Int32} {M : oz_M} {r : (Nat ⊕ Int32) × oz_M} (cx : oz_C G prog_1_method_12_code "OrderHall") (hR : oz_RtX G (some .int) (fun v : Int32 => some (.int v)) r) (hRm : oz_big G.1.2.2.2.1 6) (hnL : oz_nL G = 3) (hF : f_Hall_most a0 a1 M = some r) : oz_Z G 0 [(0, .ref (oz_b G + 0)), (1, .int a0), (2, .int a1)] [] M := by
  refine (?_ : oz_R G 0 [(0, .ref (oz_b G + 0)), (1, .int a0), (2, .int a1)] [] M (f_Hall_most a0 a1 M) (fun x => x = r)) _ hF rfl
  unfold f_Hall_most
  refine oz_aload_n (q := 1) cx d_Hall_most_0 rfl rfl 0 rfl ?_
  refine oz_tV (q := 4) cx hR 0 [] 0 0 hRm (by decide) (by decide) (fun _ h => c_Hall_wantSettled h) (fun _ _ hfl h => t_Hall_wantSettled hfl h) ⟨tw_485, tw_487, ts_11, tw_1⟩ tw_488 (by decide +kernel) rfl (by decide) rfl rfl (st := []) rfl (Nat.le_of_ble_eq_true rfl) d_Hall_most_1 rfl (fun M1 hM1 => ?_)
  refine oz_iload_n (q := 5) cx d_Hall_most_4 rfl rfl 1 rfl ?_
  refine oz_iconst (q := 6) cx d_Hall_most_5 rfl (v := 1) rfl ?_
  refine oz_tS (q := 9) cx hR [.int a0, .int 1] 2 hRm (by decide) (by decide) (fun _ h => c_Hall_wantUpTo h) (fun _ _ hfl h => t_Hall_wantUpTo hfl h) ⟨tw_513, tw_514, tw_1⟩ tw_515 (by decide +kernel) rfl (st := []) rfl (Nat.le_of_ble_eq_true rfl) d_Hall_most_6 rfl (fun M2 hM2 => ?_)
  refine oz_iload_n (q := 10) cx d_Hall_most_9 rfl rfl 2 rfl ?_
  refine oz_bipush (q := 12) cx d_Hall_most_10 rfl (v := 14) rfl ?_
  refine oz_tS (q := 15) cx hR [.int a1, .int 14] 2 hRm (by decide) (by decide) (fun _ h => c_Hall_wantUpTo h) (fun _ _ hfl h => t_Hall_wantUpTo hfl h) ⟨tw_513, tw_514, tw_1⟩ tw_515 (by decide +kernel) rfl (st := []) rfl (Nat.le_of_ble_eq_true rfl) d_Hall_most_12 rfl (fun M3 hM3 => ?_)
  refine oz_aload_n (q := 16) cx d_Hall_most_15 rfl rfl 0 rfl ?_
  refine oz_get (q := 19) cx 0 4 (by decide) (ci := 0) rfl rfl tin_Hall (by decide) rfl rfl tw_232 d_Hall_most_16 rfl ?_
  refine oz_cVv (q := 22) cx 45 [] 0 5 hRm (by decide) (by decide) (fun _ _ h => c_Held_measure h) ⟨tw_539, tw_540, tw_541, tw_6⟩ tw_542 (by decide +kernel) rfl (by decide) rfl rfl (st := []) rfl (Nat.le_of_ble_eq_true rfl) d_Hall_most_19 rfl (fun v4 M5 hv4 => ?_)
  refine oz_aload_n (q := 23) cx d_Hall_most_22 rfl rfl 0 rfl ?_
  refine oz_get (q := 26) cx 0 4 (by decide) (ci := 0) rfl rfl tin_Hall (by decide) rfl rfl tw_232 d_Hall_most_23 rfl ?_
  refine oz_get (q := 29) cx 45 1 (by decide) (ci := 5) rfl rfl tin_Held (by decide) rfl rfl tw_144 d_Hall_most_26 rfl ?_
  refine oz_iload_n (q := 30) cx d_Hall_most_29 rfl rfl 1 rfl ?_
  refine oz_aald (q := 31) cx 46 2 47 (by decide) rfl d_Hall_most_30 rfl (fun j6 hj6 => ?_)
  refine oz_iload_n (q := 32) cx d_Hall_most_31 rfl rfl 2 rfl ?_
  refine oz_iald (q := 33) cx (47 + j6) 15 (oz_g46l (oz_lt hj6)) (oz_g46 (oz_lt hj6)) d_Hall_most_32 rfl (fun j7 hj7 => ?_)
  exact oz_iretX cx hR d_Hall_most_33
theorem c_Hall_most {l : Launch} {D : va_G} {cs : Nat → ClassId} {b : Nat} {a0 : Int32} {a1 : Int32} {M : oz_M} {vz : Int32} {Mz : oz_M} (hF : f_Hall_most a0 a1 M = some (.inr vz, Mz)) : oz_Met l D cs b y_Hall_most prog_1_method_12_code 3 (some .int) (oz_rm 6) [.ref (b + 0), .int a0, .int a1] M (some (.int vz)) Mz := by
  refine oz_enter (by decide) (Nat.le_of_ble_eq_true rfl) (fun G cx hR e1 hRm e2 e3 e4 hnL => ?_)
  subst e1; subst e2; subst e3; subst e4
  exact w_Hall_most cx ⟨fun _ h => (by cases h; exact hR), fun _ h => (by cases h)⟩ hRm hnL hF
theorem t_Hall_most {l : Launch} {D : va_G} {cs : Nat → ClassId} {b : Nat} {a0 : Int32} {a1 : Int32} {M : oz_M} {kz : Nat} {Mz : oz_M} (hfl : l.stackTraces = false) (hF : f_Hall_most a0 a1 M = some (.inl kz, Mz)) : oz_MetT l D cs b y_Hall_most prog_1_method_12_code 3 (some .int) 6 [.ref (b + 0), .int a0, .int a1] M kz Mz := by
  refine oz_enterT hfl (by decide) (Nat.le_of_ble_eq_true rfl) (fun G cx hR e1 hRm e2 e3 e4 hnL => ?_)
  subst e1; subst e2; subst e3; subst e4
  exact w_Hall_most cx ⟨fun _ h => (by cases h), fun _ h => (by cases h; exact hR)⟩ hRm hnL hF
def y_Hall_sequences : MethodName := ⟨"OrderHall", "sequences", "()J"⟩
theorem d_Hall_sequences_0 : decode prog_1_method_15_code 0 = .ok (.aload_n 0, 1) := by decide +kernel
theorem d_Hall_sequences_1 : decode prog_1_method_15_code 1 = .ok (.invokevirtual 103, 3) := by decide +kernel
theorem d_Hall_sequences_4 : decode prog_1_method_15_code 4 = .ok (.aload_n 0, 1) := by decide +kernel
theorem d_Hall_sequences_5 : decode prog_1_method_15_code 5 = .ok (.getfield 49, 3) := by decide +kernel
theorem d_Hall_sequences_8 : decode prog_1_method_15_code 8 = .ok (.invokevirtual 165, 3) := by decide +kernel
theorem d_Hall_sequences_11 : decode prog_1_method_15_code 11 = .ok (.lreturn, 1) := by decide +kernel
noncomputable def f_Hall_sequences (M : oz_M) : Option ((Nat ⊕ Int64) × oz_M) := oz_b2 (f_Hall_wantSettled M) fun w M1 => oz_el (fun kx => some (.inl kx, M1)) (fun _ => oz_b2 (f_Line_total M1) fun v2 M3 => some (.inr v2, M3)) w
set_option maxRecDepth 20000 in
set_option maxHeartbeats 4000000 in
theorem w_Hall_sequences {G : oz_G} {M : oz_M} {r : (Nat ⊕ Int64) × oz_M} (cx : oz_C G prog_1_method_15_code "OrderHall") (hR : oz_RtX G (some .long) (fun v : Int64 => some (.long v)) r) (hRm : oz_big G.1.2.2.2.1 6) (hnL : oz_nL G = 1) (hF : f_Hall_sequences M = some r) : oz_Z G 0 [(0, .ref (oz_b G + 0))] [] M := by
  refine (?_ : oz_R G 0 [(0, .ref (oz_b G + 0))] [] M (f_Hall_sequences  M) (fun x => x = r)) _ hF rfl
  unfold f_Hall_sequences
  refine oz_aload_n (q := 1) cx d_Hall_sequences_0 rfl rfl 0 rfl ?_
  refine oz_tV (q := 4) cx hR 0 [] 0 0 hRm (by decide) (by decide) (fun _ h => c_Hall_wantSettled h) (fun _ _ hfl h => t_Hall_wantSettled hfl h) ⟨tw_485, tw_487, ts_11, tw_1⟩ tw_488 (by decide +kernel) rfl (by decide) rfl rfl (st := []) rfl (Nat.le_of_ble_eq_true rfl) d_Hall_sequences_1 rfl (fun M1 hM1 => ?_)
  refine oz_aload_n (q := 5) cx d_Hall_sequences_4 rfl rfl 0 rfl ?_
  refine oz_get (q := 8) cx 0 5 (by decide) (ci := 0) rfl rfl tin_Hall (by decide) rfl rfl tw_233 d_Hall_sequences_5 rfl ?_
  refine oz_cVl (q := 11) cx 53 [] 0 6 hRm (by decide) (by decide) (fun _ _ h => c_Line_total h) ⟨tw_618, tw_619, tw_620, tw_7⟩ tw_621 (by decide +kernel) rfl (by decide) rfl rfl (st := []) rfl (Nat.le_of_ble_eq_true rfl) d_Hall_sequences_8 rfl (fun v2 M3 hv2 => ?_)
  exact oz_lretX cx hR d_Hall_sequences_11
theorem c_Hall_sequences {l : Launch} {D : va_G} {cs : Nat → ClassId} {b : Nat} {M : oz_M} {vz : Int64} {Mz : oz_M} (hF : f_Hall_sequences M = some (.inr vz, Mz)) : oz_Met l D cs b y_Hall_sequences prog_1_method_15_code 1 (some .long) (oz_rm 6) [.ref (b + 0)] M (some (.long vz)) Mz := by
  refine oz_enter (by decide) (Nat.le_of_ble_eq_true rfl) (fun G cx hR e1 hRm e2 e3 e4 hnL => ?_)
  subst e1; subst e2; subst e3; subst e4
  exact w_Hall_sequences cx ⟨fun _ h => (by cases h; exact hR), fun _ h => (by cases h)⟩ hRm hnL hF
theorem t_Hall_sequences {l : Launch} {D : va_G} {cs : Nat → ClassId} {b : Nat} {M : oz_M} {kz : Nat} {Mz : oz_M} (hfl : l.stackTraces = false) (hF : f_Hall_sequences M = some (.inl kz, Mz)) : oz_MetT l D cs b y_Hall_sequences prog_1_method_15_code 1 (some .long) 6 [.ref (b + 0)] M kz Mz := by
  refine oz_enterT hfl (by decide) (Nat.le_of_ble_eq_true rfl) (fun G cx hR e1 hRm e2 e3 e4 hnL => ?_)
  subst e1; subst e2; subst e3; subst e4
  exact w_Hall_sequences cx ⟨fun _ h => (by cases h), fun _ h => (by cases h; exact hR)⟩ hRm hnL hF
def y_Hall_set : MethodName := ⟨"OrderHall", "set", "(II)I"⟩
theorem d_Hall_set_0 : decode prog_1_method_8_code 0 = .ok (.aload_n 0, 1) := by decide +kernel
theorem d_Hall_set_1 : decode prog_1_method_8_code 1 = .ok (.invokevirtual 103, 3) := by decide +kernel
theorem d_Hall_set_4 : decode prog_1_method_8_code 4 = .ok (.iload_n 1, 1) := by decide +kernel
theorem d_Hall_set_5 : decode prog_1_method_8_code 5 = .ok (.aload_n 0, 1) := by decide +kernel
theorem d_Hall_set_6 : decode prog_1_method_8_code 6 = .ok (.getfield 26, 3) := by decide +kernel
theorem d_Hall_set_9 : decode prog_1_method_8_code 9 = .ok (.getfield 106, 3) := by decide +kernel
theorem d_Hall_set_12 : decode prog_1_method_8_code 12 = .ok (.invokestatic 78, 3) := by decide +kernel
theorem d_Hall_set_15 : decode prog_1_method_8_code 15 = .ok (.iload_n 2, 1) := by decide +kernel
theorem d_Hall_set_16 : decode prog_1_method_8_code 16 = .ok (.iconst 4, 1) := by decide +kernel
theorem d_Hall_set_17 : decode prog_1_method_8_code 17 = .ok (.invokestatic 116, 3) := by decide +kernel
theorem d_Hall_set_20 : decode prog_1_method_8_code 20 = .ok (.iload_n 2, 1) := by decide +kernel
theorem d_Hall_set_21 : decode prog_1_method_8_code 21 = .ok (.tableswitch 99 0 3 #[31, 41, 51, 75], 31) := by decide +kernel
theorem d_Hall_set_52 : decode prog_1_method_8_code 52 = .ok (.aload_n 0, 1) := by decide +kernel
theorem d_Hall_set_53 : decode prog_1_method_8_code 53 = .ok (.getfield 26, 3) := by decide +kernel
theorem d_Hall_set_56 : decode prog_1_method_8_code 56 = .ok (.getfield 113, 3) := by decide +kernel
theorem d_Hall_set_59 : decode prog_1_method_8_code 59 = .ok (.iload_n 1, 1) := by decide +kernel
theorem d_Hall_set_60 : decode prog_1_method_8_code 60 = .ok (.iaload, 1) := by decide +kernel
theorem d_Hall_set_61 : decode prog_1_method_8_code 61 = .ok (.ireturn, 1) := by decide +kernel
theorem d_Hall_set_62 : decode prog_1_method_8_code 62 = .ok (.aload_n 0, 1) := by decide +kernel
theorem d_Hall_set_63 : decode prog_1_method_8_code 63 = .ok (.getfield 26, 3) := by decide +kernel
theorem d_Hall_set_66 : decode prog_1_method_8_code 66 = .ok (.getfield 107, 3) := by decide +kernel
theorem d_Hall_set_69 : decode prog_1_method_8_code 69 = .ok (.iload_n 1, 1) := by decide +kernel
theorem d_Hall_set_70 : decode prog_1_method_8_code 70 = .ok (.iaload, 1) := by decide +kernel
theorem d_Hall_set_71 : decode prog_1_method_8_code 71 = .ok (.ireturn, 1) := by decide +kernel
theorem d_Hall_set_72 : decode prog_1_method_8_code 72 = .ok (.aload_n 0, 1) := by decide +kernel
theorem d_Hall_set_73 : decode prog_1_method_8_code 73 = .ok (.getfield 26, 3) := by decide +kernel
theorem d_Hall_set_76 : decode prog_1_method_8_code 76 = .ok (.aload_n 0, 1) := by decide +kernel
theorem d_Hall_set_77 : decode prog_1_method_8_code 77 = .ok (.getfield 26, 3) := by decide +kernel
theorem d_Hall_set_80 : decode prog_1_method_8_code 80 = .ok (.getfield 113, 3) := by decide +kernel
theorem d_Hall_set_83 : decode prog_1_method_8_code 83 = .ok (.iload_n 1, 1) := by decide +kernel
theorem d_Hall_set_84 : decode prog_1_method_8_code 84 = .ok (.iaload, 1) := by decide +kernel
theorem d_Hall_set_85 : decode prog_1_method_8_code 85 = .ok (.aload_n 0, 1) := by decide +kernel
theorem d_Hall_set_86 : decode prog_1_method_8_code 86 = .ok (.getfield 26, 3) := by decide +kernel
theorem d_Hall_set_89 : decode prog_1_method_8_code 89 = .ok (.getfield 107, 3) := by decide +kernel
theorem d_Hall_set_92 : decode prog_1_method_8_code 92 = .ok (.invokevirtual 119, 3) := by decide +kernel
theorem d_Hall_set_95 : decode prog_1_method_8_code 95 = .ok (.ireturn, 1) := by decide +kernel
theorem d_Hall_set_96 : decode prog_1_method_8_code 96 = .ok (.aload_n 0, 1) := by decide +kernel
theorem d_Hall_set_97 : decode prog_1_method_8_code 97 = .ok (.getfield 26, 3) := by decide +kernel
theorem d_Hall_set_100 : decode prog_1_method_8_code 100 = .ok (.aload_n 0, 1) := by decide +kernel
theorem d_Hall_set_101 : decode prog_1_method_8_code 101 = .ok (.getfield 26, 3) := by decide +kernel
theorem d_Hall_set_104 : decode prog_1_method_8_code 104 = .ok (.getfield 107, 3) := by decide +kernel
theorem d_Hall_set_107 : decode prog_1_method_8_code 107 = .ok (.iload_n 1, 1) := by decide +kernel
theorem d_Hall_set_108 : decode prog_1_method_8_code 108 = .ok (.iaload, 1) := by decide +kernel
theorem d_Hall_set_109 : decode prog_1_method_8_code 109 = .ok (.aload_n 0, 1) := by decide +kernel
theorem d_Hall_set_110 : decode prog_1_method_8_code 110 = .ok (.getfield 26, 3) := by decide +kernel
theorem d_Hall_set_113 : decode prog_1_method_8_code 113 = .ok (.getfield 113, 3) := by decide +kernel
theorem d_Hall_set_116 : decode prog_1_method_8_code 116 = .ok (.invokevirtual 119, 3) := by decide +kernel
theorem d_Hall_set_119 : decode prog_1_method_8_code 119 = .ok (.ireturn, 1) := by decide +kernel
theorem d_Hall_set_120 : decode prog_1_method_8_code 120 = .ok (.aload_n 0, 1) := by decide +kernel
theorem d_Hall_set_121 : decode prog_1_method_8_code 121 = .ok (.getfield 26, 3) := by decide +kernel
theorem d_Hall_set_124 : decode prog_1_method_8_code 124 = .ok (.getfield 123, 3) := by decide +kernel
theorem d_Hall_set_127 : decode prog_1_method_8_code 127 = .ok (.iload_n 1, 1) := by decide +kernel
theorem d_Hall_set_128 : decode prog_1_method_8_code 128 = .ok (.iaload, 1) := by decide +kernel
theorem d_Hall_set_129 : decode prog_1_method_8_code 129 = .ok (.ireturn, 1) := by decide +kernel
noncomputable def f_Hall_set (a0 : Int32) (a1 : Int32) (M : oz_M) : Option ((Nat ⊕ Int32) × oz_M) := oz_b2 (f_Hall_wantSettled M) fun w M1 => oz_el (fun kx => some (.inl kx, M1)) (fun _ => oz_b2 (f_Hall_wantElement a0 (M1.1 6 0) M1) fun w M2 => oz_el (fun kx => some (.inl kx, M2)) (fun _ => oz_b2 (f_Hall_wantUpTo a1 4 M2) fun w M3 => oz_el (fun kx => some (.inl kx, M3)) (fun _ => if a1 = 0 then ((oz_in a0 14).bind fun j4 => some (.inr (M3.1 7 j4), M3)) else if a1 = 1 then ((oz_in a0 14).bind fun j5 => some (.inr (M3.1 8 j5), M3)) else if a1 = 2 then ((oz_in a0 14).bind fun j6 => (f_Order_ends (M3.1 7 j6) 8 M3).bind fun v7 => some (.inr v7, M3)) else if a1 = 3 then ((oz_in a0 14).bind fun j8 => (f_Order_ends (M3.1 8 j8) 7 M3).bind fun v9 => some (.inr v9, M3)) else ((oz_in a0 14).bind fun j10 => some (.inr (M3.1 9 j10), M3))) w) w) w
set_option maxRecDepth 20000 in
set_option maxHeartbeats 4000000 in
theorem w_Hall_set {G : oz_G} {a0 : Int32} {a1 : Int32} {M : oz_M} {r : (Nat ⊕ Int32) × oz_M} (cx : oz_C G prog_1_method_8_code "OrderHall") (hR : oz_RtX G (some .int) (fun v : Int32 => some (.int v)) r) (hRm : oz_big G.1.2.2.2.1 6) (hnL : oz_nL G = 3) (hF : f_Hall_set a0 a1 M = some r) : oz_Z G 0 [(0, .ref (oz_b G + 0)), (1, .int a0), (2, .int a1)] [] M := by
  refine (?_ : oz_R G 0 [(0, .ref (oz_b G + 0)), (1, .int a0), (2, .int a1)] [] M (f_Hall_set a0 a1 M) (fun x => x = r)) _ hF rfl
  unfold f_Hall_set
  refine oz_aload_n (q := 1) cx d_Hall_set_0 rfl rfl 0 rfl ?_
  refine oz_tV (q := 4) cx hR 0 [] 0 0 hRm (by decide) (by decide) (fun _ h => c_Hall_wantSettled h) (fun _ _ hfl h => t_Hall_wantSettled hfl h) ⟨tw_485, tw_487, ts_11, tw_1⟩ tw_488 (by decide +kernel) rfl (by decide) rfl rfl (st := []) rfl (Nat.le_of_ble_eq_true rfl) d_Hall_set_1 rfl (fun M1 hM1 => ?_)
  refine oz_iload_n (q := 5) cx d_Hall_set_4 rfl rfl 1 rfl ?_
  refine oz_aload_n (q := 6) cx d_Hall_set_5 rfl rfl 0 rfl ?_
  refine oz_get (q := 9) cx 0 2 (by decide) (ci := 0) rfl rfl tin_Hall (by decide) rfl rfl tw_230 d_Hall_set_6 rfl ?_
  refine oz_get (q := 12) cx 6 0 (by decide) (ci := 3) rfl rfl tin_Order (by decide) rfl rfl tw_74 d_Hall_set_9 rfl ?_
  refine oz_tS (q := 15) cx hR [.int a0, .int (M1.1 6 0)] 2 hRm (by decide) (by decide) (fun _ h => c_Hall_wantElement h) (fun _ _ hfl h => t_Hall_wantElement hfl h) ⟨tw_442, tw_443, tw_1⟩ tw_444 (by decide +kernel) rfl (st := []) rfl (Nat.le_of_ble_eq_true rfl) d_Hall_set_12 rfl (fun M2 hM2 => ?_)
  refine oz_iload_n (q := 16) cx d_Hall_set_15 rfl rfl 2 rfl ?_
  refine oz_iconst (q := 17) cx d_Hall_set_16 rfl (v := 4) rfl ?_
  refine oz_tS (q := 20) cx hR [.int a1, .int 4] 2 hRm (by decide) (by decide) (fun _ h => c_Hall_wantUpTo h) (fun _ _ hfl h => t_Hall_wantUpTo hfl h) ⟨tw_513, tw_514, tw_1⟩ tw_515 (by decide +kernel) rfl (st := []) rfl (Nat.le_of_ble_eq_true rfl) d_Hall_set_17 rfl (fun M3 hM3 => ?_)
  refine oz_iload_n (q := 21) cx d_Hall_set_20 rfl rfl 2 rfl ?_
  refine oz_ite (fun h11 => ?_) (fun h11 => ?_)
  · refine oz_tin cx 0 h11 d_Hall_set_21 (by decide) (by decide) rfl rfl ?_
    refine oz_aload_n (q := 53) cx d_Hall_set_52 rfl rfl 0 rfl ?_
    refine oz_get (q := 56) cx 0 2 (by decide) (ci := 0) rfl rfl tin_Hall (by decide) rfl rfl tw_230 d_Hall_set_53 rfl ?_
    refine oz_get (q := 59) cx 6 1 (by decide) (ci := 3) rfl rfl tin_Order (by decide) rfl rfl tw_81 d_Hall_set_56 rfl ?_
    refine oz_iload_n (q := 60) cx d_Hall_set_59 rfl rfl 1 rfl ?_
    refine oz_iald (q := 61) cx 7 14 (by decide) rfl d_Hall_set_60 rfl (fun j4 hj4 => ?_)
    exact oz_iretX cx hR d_Hall_set_61
  · skip
    refine oz_ite (fun h12 => ?_) (fun h12 => ?_)
    · refine oz_tin cx 1 h12 d_Hall_set_21 (by decide) (by decide) rfl rfl ?_
      refine oz_aload_n (q := 63) cx d_Hall_set_62 rfl rfl 0 rfl ?_
      refine oz_get (q := 66) cx 0 2 (by decide) (ci := 0) rfl rfl tin_Hall (by decide) rfl rfl tw_230 d_Hall_set_63 rfl ?_
      refine oz_get (q := 69) cx 6 2 (by decide) (ci := 3) rfl rfl tin_Order (by decide) rfl rfl tw_86 d_Hall_set_66 rfl ?_
      refine oz_iload_n (q := 70) cx d_Hall_set_69 rfl rfl 1 rfl ?_
      refine oz_iald (q := 71) cx 8 14 (by decide) rfl d_Hall_set_70 rfl (fun j5 hj5 => ?_)
      exact oz_iretX cx hR d_Hall_set_71
    · skip
      refine oz_ite (fun h13 => ?_) (fun h13 => ?_)
      · refine oz_tin cx 2 h13 d_Hall_set_21 (by decide) (by decide) rfl rfl ?_
        refine oz_aload_n (q := 73) cx d_Hall_set_72 rfl rfl 0 rfl ?_
        refine oz_get (q := 76) cx 0 2 (by decide) (ci := 0) rfl rfl tin_Hall (by decide) rfl rfl tw_230 d_Hall_set_73 rfl ?_
        refine oz_aload_n (q := 77) cx d_Hall_set_76 rfl rfl 0 rfl ?_
        refine oz_get (q := 80) cx 0 2 (by decide) (ci := 0) rfl rfl tin_Hall (by decide) rfl rfl tw_230 d_Hall_set_77 rfl ?_
        refine oz_get (q := 83) cx 6 1 (by decide) (ci := 3) rfl rfl tin_Order (by decide) rfl rfl tw_81 d_Hall_set_80 rfl ?_
        refine oz_iload_n (q := 84) cx d_Hall_set_83 rfl rfl 1 rfl ?_
        refine oz_iald (q := 85) cx 7 14 (by decide) rfl d_Hall_set_84 rfl (fun j6 hj6 => ?_)
        refine oz_aload_n (q := 86) cx d_Hall_set_85 rfl rfl 0 rfl ?_
        refine oz_get (q := 89) cx 0 2 (by decide) (ci := 0) rfl rfl tin_Hall (by decide) rfl rfl tw_230 d_Hall_set_86 rfl ?_
        refine oz_get (q := 92) cx 6 2 (by decide) (ci := 3) rfl rfl tin_Order (by decide) rfl rfl tw_86 d_Hall_set_89 rfl ?_
        refine oz_cVip (q := 95) cx 6 [.int (M3.1 7 j6), .ref (oz_b G + 8)] 2 3 hRm (by decide) (by decide) (fun _ h => c_Order_ends ⟨by decide, fun _ _ _ _ => rfl⟩ h) ⟨tw_517, tw_518, tw_519, tw_4⟩ tw_520 (by decide +kernel) rfl (by decide) rfl rfl (st := []) rfl (Nat.le_of_ble_eq_true rfl) d_Hall_set_92 rfl (fun v7 hv7 => ?_)
        exact oz_iretX cx hR d_Hall_set_95
      · skip
        refine oz_ite (fun h14 => ?_) (fun h14 => ?_)
        · refine oz_tin cx 3 h14 d_Hall_set_21 (by decide) (by decide) rfl rfl ?_
          refine oz_aload_n (q := 97) cx d_Hall_set_96 rfl rfl 0 rfl ?_
          refine oz_get (q := 100) cx 0 2 (by decide) (ci := 0) rfl rfl tin_Hall (by decide) rfl rfl tw_230 d_Hall_set_97 rfl ?_
          refine oz_aload_n (q := 101) cx d_Hall_set_100 rfl rfl 0 rfl ?_
          refine oz_get (q := 104) cx 0 2 (by decide) (ci := 0) rfl rfl tin_Hall (by decide) rfl rfl tw_230 d_Hall_set_101 rfl ?_
          refine oz_get (q := 107) cx 6 2 (by decide) (ci := 3) rfl rfl tin_Order (by decide) rfl rfl tw_86 d_Hall_set_104 rfl ?_
          refine oz_iload_n (q := 108) cx d_Hall_set_107 rfl rfl 1 rfl ?_
          refine oz_iald (q := 109) cx 8 14 (by decide) rfl d_Hall_set_108 rfl (fun j8 hj8 => ?_)
          refine oz_aload_n (q := 110) cx d_Hall_set_109 rfl rfl 0 rfl ?_
          refine oz_get (q := 113) cx 0 2 (by decide) (ci := 0) rfl rfl tin_Hall (by decide) rfl rfl tw_230 d_Hall_set_110 rfl ?_
          refine oz_get (q := 116) cx 6 1 (by decide) (ci := 3) rfl rfl tin_Order (by decide) rfl rfl tw_81 d_Hall_set_113 rfl ?_
          refine oz_cVip (q := 119) cx 6 [.int (M3.1 8 j8), .ref (oz_b G + 7)] 2 3 hRm (by decide) (by decide) (fun _ h => c_Order_ends ⟨by decide, fun _ _ _ _ => rfl⟩ h) ⟨tw_517, tw_518, tw_519, tw_4⟩ tw_520 (by decide +kernel) rfl (by decide) rfl rfl (st := []) rfl (Nat.le_of_ble_eq_true rfl) d_Hall_set_116 rfl (fun v9 hv9 => ?_)
          exact oz_iretX cx hR d_Hall_set_119
        · skip
          refine oz_tout cx d_Hall_set_21 (oz_tno 4 (by decide) (fun j hj => match j, hj with | 0, _ => h11 | 1, _ => h12 | 2, _ => h13 | 3, _ => h14)) rfl ?_
          refine oz_aload_n (q := 121) cx d_Hall_set_120 rfl rfl 0 rfl ?_
          refine oz_get (q := 124) cx 0 2 (by decide) (ci := 0) rfl rfl tin_Hall (by decide) rfl rfl tw_230 d_Hall_set_121 rfl ?_
          refine oz_get (q := 127) cx 6 3 (by decide) (ci := 3) rfl rfl tin_Order (by decide) rfl rfl tw_91 d_Hall_set_124 rfl ?_
          refine oz_iload_n (q := 128) cx d_Hall_set_127 rfl rfl 1 rfl ?_
          refine oz_iald (q := 129) cx 9 14 (by decide) rfl d_Hall_set_128 rfl (fun j10 hj10 => ?_)
          exact oz_iretX cx hR d_Hall_set_129
theorem c_Hall_set {l : Launch} {D : va_G} {cs : Nat → ClassId} {b : Nat} {a0 : Int32} {a1 : Int32} {M : oz_M} {vz : Int32} {Mz : oz_M} (hF : f_Hall_set a0 a1 M = some (.inr vz, Mz)) : oz_Met l D cs b y_Hall_set prog_1_method_8_code 3 (some .int) (oz_rm 6) [.ref (b + 0), .int a0, .int a1] M (some (.int vz)) Mz := by
  refine oz_enter (by decide) (Nat.le_of_ble_eq_true rfl) (fun G cx hR e1 hRm e2 e3 e4 hnL => ?_)
  subst e1; subst e2; subst e3; subst e4
  exact w_Hall_set cx ⟨fun _ h => (by cases h; exact hR), fun _ h => (by cases h)⟩ hRm hnL hF
theorem t_Hall_set {l : Launch} {D : va_G} {cs : Nat → ClassId} {b : Nat} {a0 : Int32} {a1 : Int32} {M : oz_M} {kz : Nat} {Mz : oz_M} (hfl : l.stackTraces = false) (hF : f_Hall_set a0 a1 M = some (.inl kz, Mz)) : oz_MetT l D cs b y_Hall_set prog_1_method_8_code 3 (some .int) 6 [.ref (b + 0), .int a0, .int a1] M kz Mz := by
  refine oz_enterT hfl (by decide) (Nat.le_of_ble_eq_true rfl) (fun G cx hR e1 hRm e2 e3 e4 hnL => ?_)
  subst e1; subst e2; subst e3; subst e4
  exact w_Hall_set cx ⟨fun _ h => (by cases h), fun _ h => (by cases h; exact hR)⟩ hRm hnL hF
def y_Hall_sign : MethodName := ⟨"OrderHall", "sign", "(II)I"⟩
theorem d_Hall_sign_0 : decode prog_1_method_22_code 0 = .ok (.aload_n 0, 1) := by decide +kernel
theorem d_Hall_sign_1 : decode prog_1_method_22_code 1 = .ok (.invokevirtual 103, 3) := by decide +kernel
theorem d_Hall_sign_4 : decode prog_1_method_22_code 4 = .ok (.iload_n 1, 1) := by decide +kernel
theorem d_Hall_sign_5 : decode prog_1_method_22_code 5 = .ok (.aload_n 0, 1) := by decide +kernel
theorem d_Hall_sign_6 : decode prog_1_method_22_code 6 = .ok (.getfield 26, 3) := by decide +kernel
theorem d_Hall_sign_9 : decode prog_1_method_22_code 9 = .ok (.getfield 106, 3) := by decide +kernel
theorem d_Hall_sign_12 : decode prog_1_method_22_code 12 = .ok (.invokestatic 78, 3) := by decide +kernel
theorem d_Hall_sign_15 : decode prog_1_method_22_code 15 = .ok (.iload_n 2, 1) := by decide +kernel
theorem d_Hall_sign_16 : decode prog_1_method_22_code 16 = .ok (.aload_n 0, 1) := by decide +kernel
theorem d_Hall_sign_17 : decode prog_1_method_22_code 17 = .ok (.getfield 26, 3) := by decide +kernel
theorem d_Hall_sign_20 : decode prog_1_method_22_code 20 = .ok (.getfield 106, 3) := by decide +kernel
theorem d_Hall_sign_23 : decode prog_1_method_22_code 23 = .ok (.invokestatic 78, 3) := by decide +kernel
theorem d_Hall_sign_26 : decode prog_1_method_22_code 26 = .ok (.aload_n 0, 1) := by decide +kernel
theorem d_Hall_sign_27 : decode prog_1_method_22_code 27 = .ok (.getfield 26, 3) := by decide +kernel
theorem d_Hall_sign_30 : decode prog_1_method_22_code 30 = .ok (.iload_n 1, 1) := by decide +kernel
theorem d_Hall_sign_31 : decode prog_1_method_22_code 31 = .ok (.iload_n 2, 1) := by decide +kernel
theorem d_Hall_sign_32 : decode prog_1_method_22_code 32 = .ok (.invokevirtual 203, 3) := by decide +kernel
theorem d_Hall_sign_35 : decode prog_1_method_22_code 35 = .ok (.ireturn, 1) := by decide +kernel
noncomputable def f_Hall_sign (a0 : Int32) (a1 : Int32) (M : oz_M) : Option ((Nat ⊕ Int32) × oz_M) := oz_b2 (f_Hall_wantSettled M) fun w M1 => oz_el (fun kx => some (.inl kx, M1)) (fun _ => oz_b2 (f_Hall_wantElement a0 (M1.1 6 0) M1) fun w M2 => oz_el (fun kx => some (.inl kx, M2)) (fun _ => oz_b2 (f_Hall_wantElement a1 (M2.1 6 0) M2) fun w M3 => oz_el (fun kx => some (.inl kx, M3)) (fun _ => oz_b2 (f_Order_signOf a0 a1 M3) fun v4 M5 => some (.inr v4, M5)) w) w) w
set_option maxRecDepth 20000 in
set_option maxHeartbeats 4000000 in
theorem w_Hall_sign {G : oz_G} {a0 : Int32} {a1 : Int32} {M : oz_M} {r : (Nat ⊕ Int32) × oz_M} (cx : oz_C G prog_1_method_22_code "OrderHall") (hR : oz_RtX G (some .int) (fun v : Int32 => some (.int v)) r) (hRm : oz_big G.1.2.2.2.1 6) (hnL : oz_nL G = 3) (hF : f_Hall_sign a0 a1 M = some r) : oz_Z G 0 [(0, .ref (oz_b G + 0)), (1, .int a0), (2, .int a1)] [] M := by
  refine (?_ : oz_R G 0 [(0, .ref (oz_b G + 0)), (1, .int a0), (2, .int a1)] [] M (f_Hall_sign a0 a1 M) (fun x => x = r)) _ hF rfl
  unfold f_Hall_sign
  refine oz_aload_n (q := 1) cx d_Hall_sign_0 rfl rfl 0 rfl ?_
  refine oz_tV (q := 4) cx hR 0 [] 0 0 hRm (by decide) (by decide) (fun _ h => c_Hall_wantSettled h) (fun _ _ hfl h => t_Hall_wantSettled hfl h) ⟨tw_485, tw_487, ts_11, tw_1⟩ tw_488 (by decide +kernel) rfl (by decide) rfl rfl (st := []) rfl (Nat.le_of_ble_eq_true rfl) d_Hall_sign_1 rfl (fun M1 hM1 => ?_)
  refine oz_iload_n (q := 5) cx d_Hall_sign_4 rfl rfl 1 rfl ?_
  refine oz_aload_n (q := 6) cx d_Hall_sign_5 rfl rfl 0 rfl ?_
  refine oz_get (q := 9) cx 0 2 (by decide) (ci := 0) rfl rfl tin_Hall (by decide) rfl rfl tw_230 d_Hall_sign_6 rfl ?_
  refine oz_get (q := 12) cx 6 0 (by decide) (ci := 3) rfl rfl tin_Order (by decide) rfl rfl tw_74 d_Hall_sign_9 rfl ?_
  refine oz_tS (q := 15) cx hR [.int a0, .int (M1.1 6 0)] 2 hRm (by decide) (by decide) (fun _ h => c_Hall_wantElement h) (fun _ _ hfl h => t_Hall_wantElement hfl h) ⟨tw_442, tw_443, tw_1⟩ tw_444 (by decide +kernel) rfl (st := []) rfl (Nat.le_of_ble_eq_true rfl) d_Hall_sign_12 rfl (fun M2 hM2 => ?_)
  refine oz_iload_n (q := 16) cx d_Hall_sign_15 rfl rfl 2 rfl ?_
  refine oz_aload_n (q := 17) cx d_Hall_sign_16 rfl rfl 0 rfl ?_
  refine oz_get (q := 20) cx 0 2 (by decide) (ci := 0) rfl rfl tin_Hall (by decide) rfl rfl tw_230 d_Hall_sign_17 rfl ?_
  refine oz_get (q := 23) cx 6 0 (by decide) (ci := 3) rfl rfl tin_Order (by decide) rfl rfl tw_74 d_Hall_sign_20 rfl ?_
  refine oz_tS (q := 26) cx hR [.int a1, .int (M2.1 6 0)] 2 hRm (by decide) (by decide) (fun _ h => c_Hall_wantElement h) (fun _ _ hfl h => t_Hall_wantElement hfl h) ⟨tw_442, tw_443, tw_1⟩ tw_444 (by decide +kernel) rfl (st := []) rfl (Nat.le_of_ble_eq_true rfl) d_Hall_sign_23 rfl (fun M3 hM3 => ?_)
  refine oz_aload_n (q := 27) cx d_Hall_sign_26 rfl rfl 0 rfl ?_
  refine oz_get (q := 30) cx 0 2 (by decide) (ci := 0) rfl rfl tin_Hall (by decide) rfl rfl tw_230 d_Hall_sign_27 rfl ?_
  refine oz_iload_n (q := 31) cx d_Hall_sign_30 rfl rfl 1 rfl ?_
  refine oz_iload_n (q := 32) cx d_Hall_sign_31 rfl rfl 2 rfl ?_
  refine oz_cVi (q := 35) cx 6 [.int a0, .int a1] 2 3 hRm (by decide) (by decide) (fun _ _ h => c_Order_signOf h) ⟨tw_690, tw_691, tw_692, tw_4⟩ tw_693 (by decide +kernel) rfl (by decide) rfl rfl (st := []) rfl (Nat.le_of_ble_eq_true rfl) d_Hall_sign_32 rfl (fun v4 M5 hv4 => ?_)
  exact oz_iretX cx hR d_Hall_sign_35
theorem c_Hall_sign {l : Launch} {D : va_G} {cs : Nat → ClassId} {b : Nat} {a0 : Int32} {a1 : Int32} {M : oz_M} {vz : Int32} {Mz : oz_M} (hF : f_Hall_sign a0 a1 M = some (.inr vz, Mz)) : oz_Met l D cs b y_Hall_sign prog_1_method_22_code 3 (some .int) (oz_rm 6) [.ref (b + 0), .int a0, .int a1] M (some (.int vz)) Mz := by
  refine oz_enter (by decide) (Nat.le_of_ble_eq_true rfl) (fun G cx hR e1 hRm e2 e3 e4 hnL => ?_)
  subst e1; subst e2; subst e3; subst e4
  exact w_Hall_sign cx ⟨fun _ h => (by cases h; exact hR), fun _ h => (by cases h)⟩ hRm hnL hF
theorem t_Hall_sign {l : Launch} {D : va_G} {cs : Nat → ClassId} {b : Nat} {a0 : Int32} {a1 : Int32} {M : oz_M} {kz : Nat} {Mz : oz_M} (hfl : l.stackTraces = false) (hF : f_Hall_sign a0 a1 M = some (.inl kz, Mz)) : oz_MetT l D cs b y_Hall_sign prog_1_method_22_code 3 (some .int) 6 [.ref (b + 0), .int a0, .int a1] M kz Mz := by
  refine oz_enterT hfl (by decide) (Nat.le_of_ble_eq_true rfl) (fun G cx hR e1 hRm e2 e3 e4 hnL => ?_)
  subst e1; subst e2; subst e3; subst e4
  exact w_Hall_sign cx ⟨fun _ h => (by cases h), fun _ h => (by cases h; exact hR)⟩ hRm hnL hF
def y_Hall_take : MethodName := ⟨"OrderHall", "take", "(J)V"⟩
theorem d_Hall_take_0 : decode prog_1_method_16_code 0 = .ok (.aload_n 0, 1) := by decide +kernel
theorem d_Hall_take_1 : decode prog_1_method_16_code 1 = .ok (.invokevirtual 103, 3) := by decide +kernel
theorem d_Hall_take_4 : decode prog_1_method_16_code 4 = .ok (.lload_n 1, 1) := by decide +kernel
theorem d_Hall_take_5 : decode prog_1_method_16_code 5 = .ok (.lconst 0, 1) := by decide +kernel
theorem d_Hall_take_6 : decode prog_1_method_16_code 6 = .ok (.lcmp, 1) := by decide +kernel
theorem d_Hall_take_7 : decode prog_1_method_16_code 7 = .ok (.ifCond .lt 15, 3) := by decide +kernel
theorem d_Hall_take_10 : decode prog_1_method_16_code 10 = .ok (.lload_n 1, 1) := by decide +kernel
theorem d_Hall_take_11 : decode prog_1_method_16_code 11 = .ok (.aload_n 0, 1) := by decide +kernel
theorem d_Hall_take_12 : decode prog_1_method_16_code 12 = .ok (.getfield 49, 3) := by decide +kernel
theorem d_Hall_take_15 : decode prog_1_method_16_code 15 = .ok (.invokevirtual 165, 3) := by decide +kernel
theorem d_Hall_take_18 : decode prog_1_method_16_code 18 = .ok (.lcmp, 1) := by decide +kernel
theorem d_Hall_take_19 : decode prog_1_method_16_code 19 = .ok (.ifCond .lt 13, 3) := by decide +kernel
theorem d_Hall_take_22 : decode prog_1_method_16_code 22 = .ok (.new 60, 3) := by decide +kernel
theorem d_Hall_take_25 : decode prog_1_method_16_code 25 = .ok (.dup, 1) := by decide +kernel
theorem d_Hall_take_26 : decode prog_1_method_16_code 26 = .ok (.ldc 169, 2) := by decide +kernel
theorem d_Hall_take_28 : decode prog_1_method_16_code 28 = .ok (.invokespecial 64, 3) := by decide +kernel
theorem d_Hall_take_31 : decode prog_1_method_16_code 31 = .ok (.athrow, 1) := by decide +kernel
theorem d_Hall_take_32 : decode prog_1_method_16_code 32 = .ok (.aload_n 0, 1) := by decide +kernel
theorem d_Hall_take_33 : decode prog_1_method_16_code 33 = .ok (.getfield 49, 3) := by decide +kernel
theorem d_Hall_take_36 : decode prog_1_method_16_code 36 = .ok (.lload_n 1, 1) := by decide +kernel
theorem d_Hall_take_37 : decode prog_1_method_16_code 37 = .ok (.invokevirtual 171, 3) := by decide +kernel
theorem d_Hall_take_40 : decode prog_1_method_16_code 40 = .ok (.return_, 1) := by decide +kernel
noncomputable def f_Hall_take (a0 : Int64) (M : oz_M) : Option ((Nat ⊕ Unit) × oz_M) := oz_b2 (f_Hall_wantSettled M) fun w M1 => oz_el (fun kx => some (.inl kx, M1)) (fun _ => if (lg_cmp a0 0) < 0 then (some (.inl 2, M1)) else (oz_b2 (f_Line_total M1) fun v2 M3 => if (lg_cmp a0 v2) < 0 then (oz_b2 (f_Line_write a0 M3) fun v4 M5 => some (.inr (), M5)) else (some (.inl 2, M3)))) w
set_option maxRecDepth 20000 in
set_option maxHeartbeats 4000000 in
theorem w_Hall_take {G : oz_G} {a0 : Int64} {M : oz_M} {r : (Nat ⊕ Unit) × oz_M} (cx : oz_C G prog_1_method_16_code "OrderHall") (hR : oz_RtX G none (fun _ : Unit => none) r) (hRm : oz_big G.1.2.2.2.1 6) (hnL : oz_nL G = 3) (hF : f_Hall_take a0 M = some r) : oz_Z G 0 [(0, .ref (oz_b G + 0)), (1, .long a0)] [] M := by
  refine (?_ : oz_R G 0 [(0, .ref (oz_b G + 0)), (1, .long a0)] [] M (f_Hall_take a0 M) (fun x => x = r)) _ hF rfl
  unfold f_Hall_take
  refine oz_aload_n (q := 1) cx d_Hall_take_0 rfl rfl 0 rfl ?_
  refine oz_tV (q := 4) cx hR 0 [] 0 0 hRm (by decide) (by decide) (fun _ h => c_Hall_wantSettled h) (fun _ _ hfl h => t_Hall_wantSettled hfl h) ⟨tw_485, tw_487, ts_11, tw_1⟩ tw_488 (by decide +kernel) rfl (by decide) rfl rfl (st := []) rfl (Nat.le_of_ble_eq_true rfl) d_Hall_take_1 rfl (fun M1 hM1 => ?_)
  refine oz_lload_n (q := 5) cx d_Hall_take_4 rfl rfl 1 rfl ?_
  refine oz_lconst (q := 6) cx d_Hall_take_5 rfl (v := 0) rfl ?_
  refine oz_lcmp (q := 7) cx d_Hall_take_6 rfl ?_
  refine oz_if_lt (q := 10) cx d_Hall_take_7 rfl rfl (fun h7 => ?_) (fun h7 => ?_)
  · exact oz_throw cx 2 hR (by decide) (oz_up hRm (by decide)) ⟨tw_363, tw_364, tw_13⟩ (List.mem_of_getElem? (i := 1) rfl) rfl d_Hall_take_22 d_Hall_take_25 d_Hall_take_26 d_Hall_take_28 d_Hall_take_31
  · refine oz_lload_n (q := 11) cx d_Hall_take_10 rfl rfl 1 rfl ?_
    refine oz_aload_n (q := 12) cx d_Hall_take_11 rfl rfl 0 rfl ?_
    refine oz_get (q := 15) cx 0 5 (by decide) (ci := 0) rfl rfl tin_Hall (by decide) rfl rfl tw_233 d_Hall_take_12 rfl ?_
    refine oz_cVl (q := 18) cx 53 [] 0 6 hRm (by decide) (by decide) (fun _ _ h => c_Line_total h) ⟨tw_618, tw_619, tw_620, tw_7⟩ tw_621 (by decide +kernel) rfl (by decide) rfl rfl (st := [.long a0]) rfl (Nat.le_of_ble_eq_true rfl) d_Hall_take_15 rfl (fun v2 M3 hv2 => ?_)
    refine oz_lcmp (q := 19) cx d_Hall_take_18 rfl ?_
    refine oz_if_lt (q := 22) cx d_Hall_take_19 rfl rfl (fun h6 => ?_) (fun h6 => ?_)
    · refine oz_aload_n (q := 33) cx d_Hall_take_32 rfl rfl 0 rfl ?_
      refine oz_get (q := 36) cx 0 5 (by decide) (ci := 0) rfl rfl tin_Hall (by decide) rfl rfl tw_233 d_Hall_take_33 rfl ?_
      refine oz_lload_n (q := 37) cx d_Hall_take_36 rfl rfl 1 rfl ?_
      refine oz_cVv (q := 40) cx 53 [.long a0] 1 6 hRm (by decide) (by decide) (fun _ _ h => c_Line_write h) ⟨tw_639, tw_640, tw_641, tw_7⟩ tw_642 (by decide +kernel) rfl (by decide) rfl rfl (st := []) rfl (Nat.le_of_ble_eq_true rfl) d_Hall_take_37 rfl (fun v4 M5 hv4 => ?_)
      exact oz_vretX cx hR d_Hall_take_40
    · exact oz_throw cx 2 hR (by decide) (oz_up hRm (by decide)) ⟨tw_363, tw_364, tw_13⟩ (List.mem_of_getElem? (i := 1) rfl) rfl d_Hall_take_22 d_Hall_take_25 d_Hall_take_26 d_Hall_take_28 d_Hall_take_31
theorem c_Hall_take {l : Launch} {D : va_G} {cs : Nat → ClassId} {b : Nat} {a0 : Int64} {M : oz_M} {Mz : oz_M} (hF : f_Hall_take a0 M = some (.inr (), Mz)) : oz_Met l D cs b y_Hall_take prog_1_method_16_code 3 none (oz_rm 6) [.ref (b + 0), .long a0] M (none) Mz := by
  refine oz_enter (by decide) (Nat.le_of_ble_eq_true rfl) (fun G cx hR e1 hRm e2 e3 e4 hnL => ?_)
  subst e1; subst e2; subst e3; subst e4
  exact w_Hall_take cx ⟨fun _ h => (by cases h; exact hR), fun _ h => (by cases h)⟩ hRm hnL hF
theorem t_Hall_take {l : Launch} {D : va_G} {cs : Nat → ClassId} {b : Nat} {a0 : Int64} {M : oz_M} {kz : Nat} {Mz : oz_M} (hfl : l.stackTraces = false) (hF : f_Hall_take a0 M = some (.inl kz, Mz)) : oz_MetT l D cs b y_Hall_take prog_1_method_16_code 3 none 6 [.ref (b + 0), .long a0] M kz Mz := by
  refine oz_enterT hfl (by decide) (Nat.le_of_ble_eq_true rfl) (fun G cx hR e1 hRm e2 e3 e4 hnL => ?_)
  subst e1; subst e2; subst e3; subst e4
  exact w_Hall_take cx ⟨fun _ h => (by cases h), fun _ h => (by cases h; exact hR)⟩ hRm hnL hF
def y_Hall_turn : MethodName := ⟨"OrderHall", "turn", "()V"⟩
theorem d_Hall_turn_0 : decode prog_1_method_23_code 0 = .ok (.aload_n 0, 1) := by decide +kernel
theorem d_Hall_turn_1 : decode prog_1_method_23_code 1 = .ok (.invokevirtual 103, 3) := by decide +kernel
theorem d_Hall_turn_4 : decode prog_1_method_23_code 4 = .ok (.aload_n 0, 1) := by decide +kernel
theorem d_Hall_turn_5 : decode prog_1_method_23_code 5 = .ok (.invokevirtual 67, 3) := by decide +kernel
theorem d_Hall_turn_8 : decode prog_1_method_23_code 8 = .ok (.aload_n 0, 1) := by decide +kernel
theorem d_Hall_turn_9 : decode prog_1_method_23_code 9 = .ok (.getfield 10, 3) := by decide +kernel
theorem d_Hall_turn_12 : decode prog_1_method_23_code 12 = .ok (.invokevirtual 206, 3) := by decide +kernel
theorem d_Hall_turn_15 : decode prog_1_method_23_code 15 = .ok (.aload_n 0, 1) := by decide +kernel
theorem d_Hall_turn_16 : decode prog_1_method_23_code 16 = .ok (.invokevirtual 96, 3) := by decide +kernel
theorem d_Hall_turn_19 : decode prog_1_method_23_code 19 = .ok (.return_, 1) := by decide +kernel
noncomputable def f_Hall_turn (M : oz_M) : Option ((Nat ⊕ Unit) × oz_M) := oz_b2 (f_Hall_wantSettled M) fun w M1 => oz_el (fun kx => some (.inl kx, M1)) (fun _ => oz_b2 (f_Hall_unsettle M1) fun v2 M3 => oz_b2 (f_Arcs_reverse M3) fun v4 M5 => oz_b2 (f_Hall_adopt M5) fun v6 M7 => some (.inr (), M7)) w
set_option maxRecDepth 20000 in
set_option maxHeartbeats 4000000 in
theorem w_Hall_turn {G : oz_G} {M : oz_M} {r : (Nat ⊕ Unit) × oz_M} (cx : oz_C G prog_1_method_23_code "OrderHall") (hR : oz_RtX G none (fun _ : Unit => none) r) (hRm : oz_big G.1.2.2.2.1 6) (hnL : oz_nL G = 1) (hF : f_Hall_turn M = some r) : oz_Z G 0 [(0, .ref (oz_b G + 0))] [] M := by
  refine (?_ : oz_R G 0 [(0, .ref (oz_b G + 0))] [] M (f_Hall_turn  M) (fun x => x = r)) _ hF rfl
  unfold f_Hall_turn
  refine oz_aload_n (q := 1) cx d_Hall_turn_0 rfl rfl 0 rfl ?_
  refine oz_tV (q := 4) cx hR 0 [] 0 0 hRm (by decide) (by decide) (fun _ h => c_Hall_wantSettled h) (fun _ _ hfl h => t_Hall_wantSettled hfl h) ⟨tw_485, tw_487, ts_11, tw_1⟩ tw_488 (by decide +kernel) rfl (by decide) rfl rfl (st := []) rfl (Nat.le_of_ble_eq_true rfl) d_Hall_turn_1 rfl (fun M1 hM1 => ?_)
  refine oz_aload_n (q := 5) cx d_Hall_turn_4 rfl rfl 0 rfl ?_
  refine oz_cVv (q := 8) cx 0 [] 0 0 hRm (by decide) (by decide) (fun _ _ h => c_Hall_unsettle h) ⟨tw_257, tw_259, ts_0, tw_1⟩ tw_260 (by decide +kernel) rfl (by decide) rfl rfl (st := []) rfl (Nat.le_of_ble_eq_true rfl) d_Hall_turn_5 rfl (fun v2 M3 hv2 => ?_)
  refine oz_aload_n (q := 9) cx d_Hall_turn_8 rfl rfl 0 rfl ?_
  refine oz_get (q := 12) cx 0 0 (by decide) (ci := 0) rfl rfl tin_Hall (by decide) rfl rfl tw_228 d_Hall_turn_9 rfl ?_
  refine oz_cVv (q := 15) cx 1 [] 0 1 hRm (by decide) (by decide) (fun _ _ h => c_Arcs_reverse h) ⟨tw_701, tw_702, tw_703, tw_2⟩ tw_704 (by decide +kernel) rfl (by decide) rfl rfl (st := []) rfl (Nat.le_of_ble_eq_true rfl) d_Hall_turn_12 rfl (fun v4 M5 hv4 => ?_)
  refine oz_aload_n (q := 16) cx d_Hall_turn_15 rfl rfl 0 rfl ?_
  refine oz_cVv (q := 19) cx 0 [] 0 0 hRm (by decide) (by decide) (fun _ _ h => c_Hall_adopt h) ⟨tw_283, tw_285, ts_3, tw_1⟩ tw_286 (by decide +kernel) rfl (by decide) rfl rfl (st := []) rfl (Nat.le_of_ble_eq_true rfl) d_Hall_turn_16 rfl (fun v6 M7 hv6 => ?_)
  exact oz_vretX cx hR d_Hall_turn_19
theorem c_Hall_turn {l : Launch} {D : va_G} {cs : Nat → ClassId} {b : Nat} {M : oz_M} {Mz : oz_M} (hF : f_Hall_turn M = some (.inr (), Mz)) : oz_Met l D cs b y_Hall_turn prog_1_method_23_code 1 none (oz_rm 6) [.ref (b + 0)] M (none) Mz := by
  refine oz_enter (by decide) (Nat.le_of_ble_eq_true rfl) (fun G cx hR e1 hRm e2 e3 e4 hnL => ?_)
  subst e1; subst e2; subst e3; subst e4
  exact w_Hall_turn cx ⟨fun _ h => (by cases h; exact hR), fun _ h => (by cases h)⟩ hRm hnL hF
theorem t_Hall_turn {l : Launch} {D : va_G} {cs : Nat → ClassId} {b : Nat} {M : oz_M} {kz : Nat} {Mz : oz_M} (hfl : l.stackTraces = false) (hF : f_Hall_turn M = some (.inl kz, Mz)) : oz_MetT l D cs b y_Hall_turn prog_1_method_23_code 1 none 6 [.ref (b + 0)] M kz Mz := by
  refine oz_enterT hfl (by decide) (Nat.le_of_ble_eq_true rfl) (fun G cx hR e1 hRm e2 e3 e4 hnL => ?_)
  subst e1; subst e2; subst e3; subst e4
  exact w_Hall_turn cx ⟨fun _ h => (by cases h), fun _ h => (by cases h; exact hR)⟩ hRm hnL hF
