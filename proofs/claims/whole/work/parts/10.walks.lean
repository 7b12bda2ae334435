def y_Arcs_clear : MethodName := ⟨"OrderHall$Arcs", "clear", "(I)V"⟩
theorem d_Arcs_clear_0 : decode prog_2_method_2_code 0 = .ok (.aload_n 0, 1) := by decide +kernel
theorem d_Arcs_clear_1 : decode prog_2_method_2_code 1 = .ok (.iload_n 1, 1) := by decide +kernel
theorem d_Arcs_clear_2 : decode prog_2_method_2_code 2 = .ok (.putfield 9, 3) := by decide +kernel
theorem d_Arcs_clear_5 : decode prog_2_method_2_code 5 = .ok (.iconst 0, 1) := by decide +kernel
theorem d_Arcs_clear_6 : decode prog_2_method_2_code 6 = .ok (.istore_n 2, 1) := by decide +kernel
theorem d_Arcs_clear_7 : decode prog_2_method_2_code 7 = .ok (.iload_n 2, 1) := by decide +kernel
theorem d_Arcs_clear_8 : decode prog_2_method_2_code 8 = .ok (.bipush 14, 2) := by decide +kernel
theorem d_Arcs_clear_10 : decode prog_2_method_2_code 10 = .ok (.if_icmp .ge 16, 3) := by decide +kernel
theorem d_Arcs_clear_13 : decode prog_2_method_2_code 13 = .ok (.aload_n 0, 1) := by decide +kernel
theorem d_Arcs_clear_14 : decode prog_2_method_2_code 14 = .ok (.getfield 15, 3) := by decide +kernel
theorem d_Arcs_clear_17 : decode prog_2_method_2_code 17 = .ok (.iload_n 2, 1) := by decide +kernel
theorem d_Arcs_clear_18 : decode prog_2_method_2_code 18 = .ok (.iconst 0, 1) := by decide +kernel
theorem d_Arcs_clear_19 : decode prog_2_method_2_code 19 = .ok (.iastore, 1) := by decide +kernel
theorem d_Arcs_clear_20 : decode prog_2_method_2_code 20 = .ok (.iinc 2 1, 3) := by decide +kernel
theorem d_Arcs_clear_23 : decode prog_2_method_2_code 23 = .ok (.goto (-16), 3) := by decide +kernel
theorem d_Arcs_clear_26 : decode prog_2_method_2_code 26 = .ok (.return_, 1) := by decide +kernel
noncomputable def f_Arcs_clear (a0 : Int32) (M : oz_M) : Option (Unit × oz_M) := (some (oz_s M 1 0 a0)).bind fun M1 => (oz_lp (fun (s2 : Int32 × oz_M) => (if s2.1 < 14 then ((oz_in s2.1 14).bind fun j3 => (some (oz_s s2.2 2 j3 0)).bind fun M4 => some (.inl (s2.1 + 1, M4))) else (some (.inr (s2.1, s2.2))) : Option ((Int32 × oz_M) ⊕ (Int32 × oz_M)))) (0, M1)).bind fun (y6 : Int32 × oz_M) => some ((), y6.2)
set_option maxRecDepth 20000 in
set_option maxHeartbeats 4000000 in
theorem c_Arcs_clear {l : Launch} {D : va_G} {cs : Nat → ClassId} {b : Nat} {a0 : Int32} {M : oz_M} {vz : Unit} {Mz : oz_M} (hF : f_Arcs_clear a0 M = some (vz, Mz)) : oz_Met l D cs b y_Arcs_clear prog_2_method_2_code 3 none (oz_rm 0) [.ref (b + 1), .int a0] M (none) Mz := by
  refine oz_enter (by decide) (Nat.le_of_ble_eq_true rfl) (fun G cx hR e1 hRm e2 e3 e4 hnL => ?_)
  subst e1; subst e2; subst e3; subst e4
  refine (?_ : oz_R G 0 [(0, .ref (oz_b G + 1)), (1, .int a0)] [] M (f_Arcs_clear a0 M) (fun x => x = (vz, Mz))) _ hF rfl
  unfold f_Arcs_clear
  refine oz_aload_n (q := 1) cx d_Arcs_clear_0 rfl rfl 0 rfl ?_
  refine oz_iload_n (q := 2) cx d_Arcs_clear_1 rfl rfl 1 rfl ?_
  refine oz_put (q := 5) cx 1 0 (by decide) (ci := 1) rfl rfl rfl tin_Arcs t_Arcs t_Arcs_ok n_Arcs (by decide) (Nat.le_of_ble_eq_true rfl) rfl tw_32 rfl rfl rfl d_Arcs_clear_2 rfl ?_
  refine oz_nm (fun M1 hM1 => ?_)
  refine oz_iconst (q := 6) cx d_Arcs_clear_5 rfl (v := 0) rfl ?_
  refine oz_istore_n (q := 7) cx d_Arcs_clear_6 rfl rfl (by rw [hnL]; decide) (lv2 := [(2, .int 0), (0, .ref (oz_b G + 1)), (1, .int a0)]) rfl ?_
  refine oz_lv [1, 0] rfl ?_
  refine oz_seq (p2 := 26) (lv2 := fun (y6 : Int32 × oz_M) => []) (st2 := fun y6 => []) (M2 := fun y6 => y6.2) ?_ (fun y6 => ?_)
  · refine oz_loop (Y := Int32 × oz_M) 7 (fun (s2 : Int32 × oz_M) => [(0, .ref (oz_b G + 1)), (2, .int s2.1)]) (fun (s2 : Int32 × oz_M) => s2.2) (0, M1) (fun s2 => ?_)
    refine oz_iload_n (q := 8) cx d_Arcs_clear_7 rfl rfl 1 rfl ?_
    refine oz_bipush (q := 10) cx d_Arcs_clear_8 rfl (v := 14) rfl ?_
    refine oz_icmp_ge (q := 13) cx d_Arcs_clear_10 rfl rfl (fun h5 => ?_) (fun h5 => ?_)
    · exact oz_lv [] rfl (oz_leaf (fun h => h))
    · refine oz_aload_n (q := 14) cx d_Arcs_clear_13 rfl rfl 0 rfl ?_
      refine oz_get (q := 17) cx 1 1 (by decide) (ci := 1) rfl rfl tin_Arcs (by decide) rfl rfl tw_36 d_Arcs_clear_14 rfl ?_
      refine oz_iload_n (q := 18) cx d_Arcs_clear_17 rfl rfl 1 rfl ?_
      refine oz_iconst (q := 19) cx d_Arcs_clear_18 rfl (v := 0) rfl ?_
      refine oz_iast (q := 20) cx 2 14 (by decide) (fun _ => rfl) d_Arcs_clear_19 rfl (fun j3 hj3 => ?_)
      refine oz_nm (fun M4 hM4 => ?_)
      refine oz_iinc (q := 23) cx (s2.1 + 1) d_Arcs_clear_20 rfl 1 rfl rfl (by rw [hnL]; decide) (lv2 := [(2, .int (s2.1 + 1)), (0, .ref (oz_b G + 1))]) rfl ?_
      refine oz_goto cx d_Arcs_clear_23 rfl ?_
      exact oz_lv [1, 0] rfl (oz_leaf (fun h => h))
  · exact oz_vret cx hR d_Arcs_clear_26
def y_Arcs_into : MethodName := ⟨"OrderHall$Arcs", "into", "(I)I"⟩
theorem d_Arcs_into_0 : decode prog_2_method_5_code 0 = .ok (.iconst 0, 1) := by decide +kernel
theorem d_Arcs_into_1 : decode prog_2_method_5_code 1 = .ok (.istore_n 2, 1) := by decide +kernel
theorem d_Arcs_into_2 : decode prog_2_method_5_code 2 = .ok (.iconst 0, 1) := by decide +kernel
theorem d_Arcs_into_3 : decode prog_2_method_5_code 3 = .ok (.istore_n 3, 1) := by decide +kernel
theorem d_Arcs_into_4 : decode prog_2_method_5_code 4 = .ok (.iload_n 3, 1) := by decide +kernel
theorem d_Arcs_into_5 : decode prog_2_method_5_code 5 = .ok (.aload_n 0, 1) := by decide +kernel
theorem d_Arcs_into_6 : decode prog_2_method_5_code 6 = .ok (.getfield 9, 3) := by decide +kernel
theorem d_Arcs_into_9 : decode prog_2_method_5_code 9 = .ok (.if_icmp .ge 26, 3) := by decide +kernel
theorem d_Arcs_into_12 : decode prog_2_method_5_code 12 = .ok (.aload_n 0, 1) := by decide +kernel
theorem d_Arcs_into_13 : decode prog_2_method_5_code 13 = .ok (.getfield 15, 3) := by decide +kernel
theorem d_Arcs_into_16 : decode prog_2_method_5_code 16 = .ok (.iload_n 3, 1) := by decide +kernel
theorem d_Arcs_into_17 : decode prog_2_method_5_code 17 = .ok (.iaload, 1) := by decide +kernel
theorem d_Arcs_into_18 : decode prog_2_method_5_code 18 = .ok (.iload_n 1, 1) := by decide +kernel
theorem d_Arcs_into_19 : decode prog_2_method_5_code 19 = .ok (.iand, 1) := by decide +kernel
theorem d_Arcs_into_20 : decode prog_2_method_5_code 20 = .ok (.ifCond .eq 9, 3) := by decide +kernel
theorem d_Arcs_into_23 : decode prog_2_method_5_code 23 = .ok (.iload_n 2, 1) := by decide +kernel
theorem d_Arcs_into_24 : decode prog_2_method_5_code 24 = .ok (.iconst 1, 1) := by decide +kernel
theorem d_Arcs_into_25 : decode prog_2_method_5_code 25 = .ok (.iload_n 3, 1) := by decide +kernel
theorem d_Arcs_into_26 : decode prog_2_method_5_code 26 = .ok (.ishl, 1) := by decide +kernel
theorem d_Arcs_into_27 : decode prog_2_method_5_code 27 = .ok (.ior, 1) := by decide +kernel
theorem d_Arcs_into_28 : decode prog_2_method_5_code 28 = .ok (.istore_n 2, 1) := by decide +kernel
theorem d_Arcs_into_29 : decode prog_2_method_5_code 29 = .ok (.iinc 3 1, 3) := by decide +kernel
theorem d_Arcs_into_32 : decode prog_2_method_5_code 32 = .ok (.goto (-28), 3) := by decide +kernel
theorem d_Arcs_into_35 : decode prog_2_method_5_code 35 = .ok (.iload_n 2, 1) := by decide +kernel
theorem d_Arcs_into_36 : decode prog_2_method_5_code 36 = .ok (.ireturn, 1) := by decide +kernel
noncomputable def f_Arcs_into (a0 : Int32) (M : oz_M) : Option (Int32) := (oz_lp (fun (s1 : Int32 × Int32) => (if s1.2 < (M.1 1 0) then ((oz_in s1.2 14).bind fun j2 => if ((M.1 2 j2) &&& a0) = 0 then (some (.inl (s1.1, s1.2 + 1))) else (some (.inl (s1.1 ||| (1 <<< (s1.2 &&& 31)), s1.2 + 1)))) else (some (.inr (s1.1, s1.2))) : Option ((Int32 × Int32) ⊕ (Int32 × Int32)))) (0, 0)).bind fun (y5 : Int32 × Int32) => some y5.1
set_option maxRecDepth 20000 in
set_option maxHeartbeats 4000000 in
theorem c_Arcs_into {l : Launch} {D : va_G} {cs : Nat → ClassId} {b : Nat} {a0 : Int32} {M : oz_M} {vz : Int32} (hF : f_Arcs_into a0 M = some vz) : oz_Met l D cs b y_Arcs_into prog_2_method_5_code 4 (some .int) (oz_rm 0) [.ref (b + 1), .int a0] M (some (.int vz)) M := by
  refine oz_enter (by decide) (Nat.le_of_ble_eq_true rfl) (fun G cx hR e1 hRm e2 e3 e4 hnL => ?_)
  subst e1; subst e2; subst e3; subst e4
  refine (?_ : oz_R G 0 [(0, .ref (oz_b G + 1)), (1, .int a0)] [] M (f_Arcs_into a0 M) (fun x => x = vz)) _ hF rfl
  unfold f_Arcs_into
  refine oz_iconst (q := 1) cx d_Arcs_into_0 rfl (v := 0) rfl ?_
  refine oz_istore_n (q := 2) cx d_Arcs_into_1 rfl rfl (by rw [hnL]; decide) (lv2 := [(2, .int 0), (0, .ref (oz_b G + 1)), (1, .int a0)]) rfl ?_
  refine oz_iconst (q := 3) cx d_Arcs_into_2 rfl (v := 0) rfl ?_
  refine oz_istore_n (q := 4) cx d_Arcs_into_3 rfl rfl (by rw [hnL]; decide) (lv2 := [(3, .int 0), (2, .int 0), (0, .ref (oz_b G + 1)), (1, .int a0)]) rfl ?_
  refine oz_lv [2, 3, 1, 0] rfl ?_
  refine oz_seq (p2 := 35) (lv2 := fun (y5 : Int32 × Int32) => [(2, .int y5.1)]) (st2 := fun y5 => []) (M2 := fun y5 => M) ?_ (fun y5 => ?_)
  · refine oz_loop (Y := Int32 × Int32) 4 (fun (s1 : Int32 × Int32) => [(0, .ref (oz_b G + 1)), (1, .int a0), (2, .int s1.1), (3, .int s1.2)]) (fun (s1 : Int32 × Int32) => M) (0, 0) (fun s1 => ?_)
    refine oz_iload_n (q := 5) cx d_Arcs_into_4 rfl rfl 3 rfl ?_
    refine oz_aload_n (q := 6) cx d_Arcs_into_5 rfl rfl 0 rfl ?_
    refine oz_get (q := 9) cx 1 0 (by decide) (ci := 1) rfl rfl tin_Arcs (by decide) rfl rfl tw_32 d_Arcs_into_6 rfl ?_
    refine oz_icmp_ge (q := 12) cx d_Arcs_into_9 rfl rfl (fun h4 => ?_) (fun h4 => ?_)
    · exact oz_lv [2] rfl (oz_leaf (fun h => h))
    · refine oz_aload_n (q := 13) cx d_Arcs_into_12 rfl rfl 0 rfl ?_
      refine oz_get (q := 16) cx 1 1 (by decide) (ci := 1) rfl rfl tin_Arcs (by decide) rfl rfl tw_36 d_Arcs_into_13 rfl ?_
      refine oz_iload_n (q := 17) cx d_Arcs_into_16 rfl rfl 3 rfl ?_
      refine oz_iald (q := 18) cx 2 14 (by decide) rfl d_Arcs_into_17 rfl (fun j2 hj2 => ?_)
      refine oz_iload_n (q := 19) cx d_Arcs_into_18 rfl rfl 1 rfl ?_
      refine oz_iand (q := 20) cx d_Arcs_into_19 rfl ?_
      refine oz_if_eq (q := 23) cx d_Arcs_into_20 rfl rfl (fun h3 => ?_) (fun h3 => ?_)
      · refine oz_iinc (q := 32) cx (s1.2 + 1) d_Arcs_into_29 rfl 3 rfl rfl (by rw [hnL]; decide) (lv2 := [(3, .int (s1.2 + 1)), (0, .ref (oz_b G + 1)), (1, .int a0), (2, .int s1.1)]) rfl ?_
        refine oz_goto cx d_Arcs_into_32 rfl ?_
        exact oz_lv [1, 2, 3, 0] rfl (oz_leaf (fun h => h))
      · refine oz_iload_n (q := 24) cx d_Arcs_into_23 rfl rfl 2 rfl ?_
        refine oz_iconst (q := 25) cx d_Arcs_into_24 rfl (v := 1) rfl ?_
        refine oz_iload_n (q := 26) cx d_Arcs_into_25 rfl rfl 3 rfl ?_
        refine oz_ishl (q := 27) cx d_Arcs_into_26 rfl ?_
        refine oz_ior (q := 28) cx d_Arcs_into_27 rfl ?_
        refine oz_istore_n (q := 29) cx d_Arcs_into_28 rfl rfl (by rw [hnL]; decide) (lv2 := [(2, .int (s1.1 ||| (1 <<< (s1.2 &&& 31)))), (0, .ref (oz_b G + 1)), (1, .int a0), (3, .int s1.2)]) rfl ?_
        refine oz_iinc (q := 32) cx (s1.2 + 1) d_Arcs_into_29 rfl 3 rfl rfl (by rw [hnL]; decide) (lv2 := [(3, .int (s1.2 + 1)), (2, .int (s1.1 ||| (1 <<< (s1.2 &&& 31)))), (0, .ref (oz_b G + 1)), (1, .int a0)]) rfl ?_
        refine oz_goto cx d_Arcs_into_32 rfl ?_
        exact oz_lv [2, 3, 1, 0] rfl (oz_leaf (fun h => h))
  · refine oz_iload_n (q := 36) cx d_Arcs_into_35 rfl rfl 0 rfl ?_
    exact oz_iretp cx hR d_Arcs_into_36
def y_Bounds_common : MethodName := ⟨"OrderHall$Bounds", "common", "([III)I"⟩
theorem d_Bounds_common_0 : decode prog_3_method_4_code 0 = .ok (.aload_n 0, 1) := by decide +kernel
theorem d_Bounds_common_1 : decode prog_3_method_4_code 1 = .ok (.iload_n 1, 1) := by decide +kernel
theorem d_Bounds_common_2 : decode prog_3_method_4_code 2 = .ok (.iaload, 1) := by decide +kernel
theorem d_Bounds_common_3 : decode prog_3_method_4_code 3 = .ok (.iconst 1, 1) := by decide +kernel
theorem d_Bounds_common_4 : decode prog_3_method_4_code 4 = .ok (.iload_n 1, 1) := by decide +kernel
theorem d_Bounds_common_5 : decode prog_3_method_4_code 5 = .ok (.ishl, 1) := by decide +kernel
theorem d_Bounds_common_6 : decode prog_3_method_4_code 6 = .ok (.ior, 1) := by decide +kernel
theorem d_Bounds_common_7 : decode prog_3_method_4_code 7 = .ok (.aload_n 0, 1) := by decide +kernel
theorem d_Bounds_common_8 : decode prog_3_method_4_code 8 = .ok (.iload_n 2, 1) := by decide +kernel
theorem d_Bounds_common_9 : decode prog_3_method_4_code 9 = .ok (.iaload, 1) := by decide +kernel
theorem d_Bounds_common_10 : decode prog_3_method_4_code 10 = .ok (.iconst 1, 1) := by decide +kernel
theorem d_Bounds_common_11 : decode prog_3_method_4_code 11 = .ok (.iload_n 2, 1) := by decide +kernel
theorem d_Bounds_common_12 : decode prog_3_method_4_code 12 = .ok (.ishl, 1) := by decide +kernel
theorem d_Bounds_common_13 : decode prog_3_method_4_code 13 = .ok (.ior, 1) := by decide +kernel
theorem d_Bounds_common_14 : decode prog_3_method_4_code 14 = .ok (.iand, 1) := by decide +kernel
theorem d_Bounds_common_15 : decode prog_3_method_4_code 15 = .ok (.ireturn, 1) := by decide +kernel
def f_Bounds_common (a0 : Nat) (a1 : Int32) (a2 : Int32) (M : oz_M) : Option (Int32) := (oz_in a1 14).bind fun j1 => (oz_in a2 14).bind fun j2 => some (((M.1 a0 j1) ||| (1 <<< (a1 &&& 31))) &&& ((M.1 a0 j2) ||| (1 <<< (a2 &&& 31))))
set_option maxRecDepth 20000 in
set_option maxHeartbeats 4000000 in
theorem c_Bounds_common {l : Launch} {D : va_G} {cs : Nat → ClassId} {b : Nat} {a0 : Nat} {a1 : Int32} {a2 : Int32} {M : oz_M} {vz : Int32} (ha0 : oz_A 14 a0) (hF : f_Bounds_common a0 a1 a2 M = some vz) : oz_Met l D cs b y_Bounds_common prog_3_method_4_code 3 (some .int) (oz_rm 0) [.ref (b + a0), .int a1, .int a2] M (some (.int vz)) M := by
  refine oz_enter (by decide) (Nat.le_of_ble_eq_true rfl) (fun G cx hR e1 hRm e2 e3 e4 hnL => ?_)
  subst e1; subst e2; subst e3; subst e4
  refine (?_ : oz_R G 0 [(0, .ref (oz_b G + a0)), (1, .int a1), (2, .int a2)] [] M (f_Bounds_common a0 a1 a2 M) (fun x => x = vz)) _ hF rfl
  unfold f_Bounds_common
  refine oz_aload_n (q := 1) cx d_Bounds_common_0 rfl rfl 0 rfl ?_
  refine oz_iload_n (q := 2) cx d_Bounds_common_1 rfl rfl 1 rfl ?_
  refine oz_iald (q := 3) cx a0 14 ha0.1 (ha0.2 _ _ _ _) d_Bounds_common_2 rfl (fun j1 hj1 => ?_)
  refine oz_iconst (q := 4) cx d_Bounds_common_3 rfl (v := 1) rfl ?_
  refine oz_iload_n (q := 5) cx d_Bounds_common_4 rfl rfl 1 rfl ?_
  refine oz_ishl (q := 6) cx d_Bounds_common_5 rfl ?_
  refine oz_ior (q := 7) cx d_Bounds_common_6 rfl ?_
  refine oz_aload_n (q := 8) cx d_Bounds_common_7 rfl rfl 0 rfl ?_
  refine oz_iload_n (q := 9) cx d_Bounds_common_8 rfl rfl 2 rfl ?_
  refine oz_iald (q := 10) cx a0 14 ha0.1 (ha0.2 _ _ _ _) d_Bounds_common_9 rfl (fun j2 hj2 => ?_)
  refine oz_iconst (q := 11) cx d_Bounds_common_10 rfl (v := 1) rfl ?_
  refine oz_iload_n (q := 12) cx d_Bounds_common_11 rfl rfl 2 rfl ?_
  refine oz_ishl (q := 13) cx d_Bounds_common_12 rfl ?_
  refine oz_ior (q := 14) cx d_Bounds_common_13 rfl ?_
  refine oz_iand (q := 15) cx d_Bounds_common_14 rfl ?_
  exact oz_iretp cx hR d_Bounds_common_15
def y_Bounds_distributive : MethodName := ⟨"OrderHall$Bounds", "distributive", "()Z"⟩
theorem d_Bounds_distributive_0 : decode prog_3_method_7_code 0 = .ok (.iconst 0, 1) := by decide +kernel
theorem d_Bounds_distributive_1 : decode prog_3_method_7_code 1 = .ok (.istore_n 1, 1) := by decide +kernel
theorem d_Bounds_distributive_2 : decode prog_3_method_7_code 2 = .ok (.iload_n 1, 1) := by decide +kernel
theorem d_Bounds_distributive_3 : decode prog_3_method_7_code 3 = .ok (.aload_n 0, 1) := by decide +kernel
theorem d_Bounds_distributive_4 : decode prog_3_method_7_code 4 = .ok (.getfield 19, 3) := by decide +kernel
theorem d_Bounds_distributive_7 : decode prog_3_method_7_code 7 = .ok (.getfield 40, 3) := by decide +kernel
theorem d_Bounds_distributive_10 : decode prog_3_method_7_code 10 = .ok (.if_icmp .ge 89, 3) := by decide +kernel
theorem d_Bounds_distributive_13 : decode prog_3_method_7_code 13 = .ok (.iconst 0, 1) := by decide +kernel
theorem d_Bounds_distributive_14 : decode prog_3_method_7_code 14 = .ok (.istore_n 2, 1) := by decide +kernel
theorem d_Bounds_distributive_15 : decode prog_3_method_7_code 15 = .ok (.iload_n 2, 1) := by decide +kernel
theorem d_Bounds_distributive_16 : decode prog_3_method_7_code 16 = .ok (.aload_n 0, 1) := by decide +kernel
theorem d_Bounds_distributive_17 : decode prog_3_method_7_code 17 = .ok (.getfield 19, 3) := by decide +kernel
theorem d_Bounds_distributive_20 : decode prog_3_method_7_code 20 = .ok (.getfield 40, 3) := by decide +kernel
theorem d_Bounds_distributive_23 : decode prog_3_method_7_code 23 = .ok (.if_icmp .ge 70, 3) := by decide +kernel
theorem d_Bounds_distributive_26 : decode prog_3_method_7_code 26 = .ok (.iconst 0, 1) := by decide +kernel
theorem d_Bounds_distributive_27 : decode prog_3_method_7_code 27 = .ok (.istore_n 3, 1) := by decide +kernel
theorem d_Bounds_distributive_28 : decode prog_3_method_7_code 28 = .ok (.iload_n 3, 1) := by decide +kernel
theorem d_Bounds_distributive_29 : decode prog_3_method_7_code 29 = .ok (.aload_n 0, 1) := by decide +kernel
theorem d_Bounds_distributive_30 : decode prog_3_method_7_code 30 = .ok (.getfield 19, 3) := by decide +kernel
theorem d_Bounds_distributive_33 : decode prog_3_method_7_code 33 = .ok (.getfield 40, 3) := by decide +kernel
theorem d_Bounds_distributive_36 : decode prog_3_method_7_code 36 = .ok (.if_icmp .ge 51, 3) := by decide +kernel
theorem d_Bounds_distributive_39 : decode prog_3_method_7_code 39 = .ok (.aload_n 0, 1) := by decide +kernel
theorem d_Bounds_distributive_40 : decode prog_3_method_7_code 40 = .ok (.getfield 11, 3) := by decide +kernel
theorem d_Bounds_distributive_43 : decode prog_3_method_7_code 43 = .ok (.iload_n 1, 1) := by decide +kernel
theorem d_Bounds_distributive_44 : decode prog_3_method_7_code 44 = .ok (.aaload, 1) := by decide +kernel
theorem d_Bounds_distributive_45 : decode prog_3_method_7_code 45 = .ok (.aload_n 0, 1) := by decide +kernel
theorem d_Bounds_distributive_46 : decode prog_3_method_7_code 46 = .ok (.getfield 16, 3) := by decide +kernel
theorem d_Bounds_distributive_49 : decode prog_3_method_7_code 49 = .ok (.iload_n 2, 1) := by decide +kernel
theorem d_Bounds_distributive_50 : decode prog_3_method_7_code 50 = .ok (.aaload, 1) := by decide +kernel
theorem d_Bounds_distributive_51 : decode prog_3_method_7_code 51 = .ok (.iload_n 3, 1) := by decide +kernel
theorem d_Bounds_distributive_52 : decode prog_3_method_7_code 52 = .ok (.iaload, 1) := by decide +kernel
theorem d_Bounds_distributive_53 : decode prog_3_method_7_code 53 = .ok (.iaload, 1) := by decide +kernel
theorem d_Bounds_distributive_54 : decode prog_3_method_7_code 54 = .ok (.aload_n 0, 1) := by decide +kernel
theorem d_Bounds_distributive_55 : decode prog_3_method_7_code 55 = .ok (.getfield 16, 3) := by decide +kernel
theorem d_Bounds_distributive_58 : decode prog_3_method_7_code 58 = .ok (.aload_n 0, 1) := by decide +kernel
theorem d_Bounds_distributive_59 : decode prog_3_method_7_code 59 = .ok (.getfield 11, 3) := by decide +kernel
theorem d_Bounds_distributive_62 : decode prog_3_method_7_code 62 = .ok (.iload_n 1, 1) := by decide +kernel
theorem d_Bounds_distributive_63 : decode prog_3_method_7_code 63 = .ok (.aaload, 1) := by decide +kernel
theorem d_Bounds_distributive_64 : decode prog_3_method_7_code 64 = .ok (.iload_n 2, 1) := by decide +kernel
theorem d_Bounds_distributive_65 : decode prog_3_method_7_code 65 = .ok (.iaload, 1) := by decide +kernel
theorem d_Bounds_distributive_66 : decode prog_3_method_7_code 66 = .ok (.aaload, 1) := by decide +kernel
theorem d_Bounds_distributive_67 : decode prog_3_method_7_code 67 = .ok (.aload_n 0, 1) := by decide +kernel
theorem d_Bounds_distributive_68 : decode prog_3_method_7_code 68 = .ok (.getfield 11, 3) := by decide +kernel
theorem d_Bounds_distributive_71 : decode prog_3_method_7_code 71 = .ok (.iload_n 1, 1) := by decide +kernel
theorem d_Bounds_distributive_72 : decode prog_3_method_7_code 72 = .ok (.aaload, 1) := by decide +kernel
theorem d_Bounds_distributive_73 : decode prog_3_method_7_code 73 = .ok (.iload_n 3, 1) := by decide +kernel
theorem d_Bounds_distributive_74 : decode prog_3_method_7_code 74 = .ok (.iaload, 1) := by decide +kernel
theorem d_Bounds_distributive_75 : decode prog_3_method_7_code 75 = .ok (.iaload, 1) := by decide +kernel
theorem d_Bounds_distributive_76 : decode prog_3_method_7_code 76 = .ok (.if_icmp .eq 5, 3) := by decide +kernel
theorem d_Bounds_distributive_79 : decode prog_3_method_7_code 79 = .ok (.iconst 0, 1) := by decide +kernel
theorem d_Bounds_distributive_80 : decode prog_3_method_7_code 80 = .ok (.ireturn, 1) := by decide +kernel
theorem d_Bounds_distributive_81 : decode prog_3_method_7_code 81 = .ok (.iinc 3 1, 3) := by decide +kernel
theorem d_Bounds_distributive_84 : decode prog_3_method_7_code 84 = .ok (.goto (-56), 3) := by decide +kernel
theorem d_Bounds_distributive_87 : decode prog_3_method_7_code 87 = .ok (.iinc 2 1, 3) := by decide +kernel
theorem d_Bounds_distributive_90 : decode prog_3_method_7_code 90 = .ok (.goto (-75), 3) := by decide +kernel
theorem d_Bounds_distributive_93 : decode prog_3_method_7_code 93 = .ok (.iinc 1 1, 3) := by decide +kernel
theorem d_Bounds_distributive_96 : decode prog_3_method_7_code 96 = .ok (.goto (-94), 3) := by decide +kernel
theorem d_Bounds_distributive_99 : decode prog_3_method_7_code 99 = .ok (.iconst 1, 1) := by decide +kernel
theorem d_Bounds_distributive_100 : decode prog_3_method_7_code 100 = .ok (.ireturn, 1) := by decide +kernel
noncomputable def f_Bounds_distributive (M : oz_M) : Option (Int32) := (oz_lp (fun (s1 : Int32) => (if s1 < (M.1 6 0) then ((oz_lp (fun (s2 : Int32) => (if s2 < (M.1 6 0) then ((oz_lp (fun (s3 : Int32) => (if s3 < (M.1 6 0) then ((oz_in s1 14).bind fun j4 => (oz_in s2 14).bind fun j5 => (oz_in s3 14).bind fun j6 => (oz_in (M.1 (31 + j5) j6) 14).bind fun j7 => (oz_in s1 14).bind fun j8 => (oz_in s2 14).bind fun j9 => (oz_in (M.1 (16 + j8) j9) 14).bind fun j10 => (oz_in s1 14).bind fun j11 => (oz_in s3 14).bind fun j12 => (oz_in (M.1 (16 + j11) j12) 14).bind fun j13 => if (M.1 (16 + j4) j7) = (M.1 (31 + j10) j13) then (some (.inl (s3 + 1))) else ((oz_z 0).bind fun z => some (.inr (.inr z)))) else (some (.inr (.inl s3))) : Option ((Int32) ⊕ ((Int32) ⊕ (Int32))))) 0).bind (oz_el (fun (y16 : Int32) => some (.inl (s2 + 1))) (fun r17 => some (.inr (.inr r17))))) else (some (.inr (.inl s2))) : Option ((Int32) ⊕ ((Int32) ⊕ (Int32))))) 0).bind (oz_el (fun (y19 : Int32) => some (.inl (s1 + 1))) (fun r20 => some (.inr (.inr r20))))) else (some (.inr (.inl s1))) : Option ((Int32) ⊕ ((Int32) ⊕ (Int32))))) 0).bind (oz_el (fun (y22 : Int32) => oz_z 1) (fun r23 => some (r23)))
set_option maxRecDepth 20000 in
set_option maxHeartbeats 4000000 in
theorem c_Bounds_distributive {l : Launch} {D : va_G} {cs : Nat → ClassId} {b : Nat} {M : oz_M} {vz : Int32} (hF : f_Bounds_distributive M = some vz) : oz_Met l D cs b y_Bounds_distributive prog_3_method_7_code 4 (some .boolean) (oz_rm 0) [.ref (b + 14)] M (some (.int vz)) M := by
  refine oz_enter (by decide) (Nat.le_of_ble_eq_true rfl) (fun G cx hR e1 hRm e2 e3 e4 hnL => ?_)
  subst e1; subst e2; subst e3; subst e4
  refine (?_ : oz_R G 0 [(0, .ref (oz_b G + 14))] [] M (f_Bounds_distributive  M) (fun x => x = vz)) _ hF rfl
  unfold f_Bounds_distributive
  refine oz_iconst (q := 1) cx d_Bounds_distributive_0 rfl (v := 0) rfl ?_
  refine oz_istore_n (q := 2) cx d_Bounds_distributive_1 rfl rfl (by rw [hnL]; decide) (lv2 := [(1, .int 0), (0, .ref (oz_b G + 14))]) rfl ?_
  refine oz_lv [1, 0] rfl ?_
  refine oz_seqE (p2 := 99) (lv2 := fun (y22 : Int32) => []) (M2 := fun y22 => M) (fun x => x = vz) ?_ (fun y22 => ?_) (fun _ _ hx hK => by cases hx; exact hK)
  · refine oz_loop (Y := (Int32) ⊕ (Int32)) 2 (fun (s1 : Int32) => [(0, .ref (oz_b G + 14)), (1, .int s1)]) (fun (s1 : Int32) => M) 0 (fun s1 => ?_)
    refine oz_iload_n (q := 3) cx d_Bounds_distributive_2 rfl rfl 1 rfl ?_
    refine oz_aload_n (q := 4) cx d_Bounds_distributive_3 rfl rfl 0 rfl ?_
    refine oz_get (q := 7) cx 14 0 (by decide) (ci := 4) rfl rfl tin_Bounds (by decide) rfl rfl tw_123 d_Bounds_distributive_4 rfl ?_
    refine oz_get (q := 10) cx 6 0 (by decide) (ci := 3) rfl rfl tin_Order (by decide) rfl rfl tw_73 d_Bounds_distributive_7 rfl ?_
    refine oz_icmp_ge (q := 13) cx d_Bounds_distributive_10 rfl rfl (fun h21 => ?_) (fun h21 => ?_)
    · exact oz_lv [] rfl (oz_leaf (fun h => h))
    · refine oz_iconst (q := 14) cx d_Bounds_distributive_13 rfl (v := 0) rfl ?_
      refine oz_istore_n (q := 15) cx d_Bounds_distributive_14 rfl rfl (by rw [hnL]; decide) (lv2 := [(2, .int 0), (0, .ref (oz_b G + 14)), (1, .int s1)]) rfl ?_
      refine oz_lv [1, 2, 0] rfl ?_
      refine oz_seqE (p2 := 93) (lv2 := fun (y19 : Int32) => [(0, .ref (oz_b G + 14)), (1, .int s1)]) (M2 := fun y19 => M) (fun x => x = vz) ?_ (fun y19 => ?_) (fun _ _ hx hK => by cases hx; exact hK)
      · refine oz_loop (Y := (Int32) ⊕ (Int32)) 15 (fun (s2 : Int32) => [(0, .ref (oz_b G + 14)), (1, .int s1), (2, .int s2)]) (fun (s2 : Int32) => M) 0 (fun s2 => ?_)
        refine oz_iload_n (q := 16) cx d_Bounds_distributive_15 rfl rfl 2 rfl ?_
        refine oz_aload_n (q := 17) cx d_Bounds_distributive_16 rfl rfl 0 rfl ?_
        refine oz_get (q := 20) cx 14 0 (by decide) (ci := 4) rfl rfl tin_Bounds (by decide) rfl rfl tw_123 d_Bounds_distributive_17 rfl ?_
        refine oz_get (q := 23) cx 6 0 (by decide) (ci := 3) rfl rfl tin_Order (by decide) rfl rfl tw_73 d_Bounds_distributive_20 rfl ?_
        refine oz_icmp_ge (q := 26) cx d_Bounds_distributive_23 rfl rfl (fun h18 => ?_) (fun h18 => ?_)
        · exact oz_lv [0, 1] rfl (oz_leaf (fun h => h))
        · refine oz_iconst (q := 27) cx d_Bounds_distributive_26 rfl (v := 0) rfl ?_
          refine oz_istore_n (q := 28) cx d_Bounds_distributive_27 rfl rfl (by rw [hnL]; decide) (lv2 := [(3, .int 0), (0, .ref (oz_b G + 14)), (1, .int s1), (2, .int s2)]) rfl ?_
          refine oz_lv [1, 2, 3, 0] rfl ?_
          refine oz_seqE (p2 := 87) (lv2 := fun (y16 : Int32) => [(0, .ref (oz_b G + 14)), (1, .int s1), (2, .int s2)]) (M2 := fun y16 => M) (fun x => x = vz) ?_ (fun y16 => ?_) (fun _ _ hx hK => by cases hx; exact hK)
          · refine oz_loop (Y := (Int32) ⊕ (Int32)) 28 (fun (s3 : Int32) => [(0, .ref (oz_b G + 14)), (1, .int s1), (2, .int s2), (3, .int s3)]) (fun (s3 : Int32) => M) 0 (fun s3 => ?_)
            refine oz_iload_n (q := 29) cx d_Bounds_distributive_28 rfl rfl 3 rfl ?_
            refine oz_aload_n (q := 30) cx d_Bounds_distributive_29 rfl rfl 0 rfl ?_
            refine oz_get (q := 33) cx 14 0 (by decide) (ci := 4) rfl rfl tin_Bounds (by decide) rfl rfl tw_123 d_Bounds_distributive_30 rfl ?_
            refine oz_get (q := 36) cx 6 0 (by decide) (ci := 3) rfl rfl tin_Order (by decide) rfl rfl tw_73 d_Bounds_distributive_33 rfl ?_
            refine oz_icmp_ge (q := 39) cx d_Bounds_distributive_36 rfl rfl (fun h15 => ?_) (fun h15 => ?_)
            · exact oz_lv [0, 1, 2] rfl (oz_leaf (fun h => h))
            · refine oz_aload_n (q := 40) cx d_Bounds_distributive_39 rfl rfl 0 rfl ?_
              refine oz_get (q := 43) cx 14 1 (by decide) (ci := 4) rfl rfl tin_Bounds (by decide) rfl rfl tw_124 d_Bounds_distributive_40 rfl ?_
              refine oz_iload_n (q := 44) cx d_Bounds_distributive_43 rfl rfl 1 rfl ?_
              refine oz_aald (q := 45) cx 15 14 16 (by decide) rfl d_Bounds_distributive_44 rfl (fun j4 hj4 => ?_)
              refine oz_aload_n (q := 46) cx d_Bounds_distributive_45 rfl rfl 0 rfl ?_
              refine oz_get (q := 49) cx 14 2 (by decide) (ci := 4) rfl rfl tin_Bounds (by decide) rfl rfl tw_125 d_Bounds_distributive_46 rfl ?_
              refine oz_iload_n (q := 50) cx d_Bounds_distributive_49 rfl rfl 2 rfl ?_
              refine oz_aald (q := 51) cx 30 14 31 (by decide) rfl d_Bounds_distributive_50 rfl (fun j5 hj5 => ?_)
              refine oz_iload_n (q := 52) cx d_Bounds_distributive_51 rfl rfl 3 rfl ?_
              refine oz_iald (q := 53) cx (31 + j5) 14 (oz_g30l (oz_lt hj5)) (oz_g30 (oz_lt hj5)) d_Bounds_distributive_52 rfl (fun j6 hj6 => ?_)
              refine oz_iald (q := 54) cx (16 + j4) 14 (oz_g15l (oz_lt hj4)) (oz_g15 (oz_lt hj4)) d_Bounds_distributive_53 rfl (fun j7 hj7 => ?_)
              refine oz_aload_n (q := 55) cx d_Bounds_distributive_54 rfl rfl 0 rfl ?_
              refine oz_get (q := 58) cx 14 2 (by decide) (ci := 4) rfl rfl tin_Bounds (by decide) rfl rfl tw_125 d_Bounds_distributive_55 rfl ?_
              refine oz_aload_n (q := 59) cx d_Bounds_distributive_58 rfl rfl 0 rfl ?_
              refine oz_get (q := 62) cx 14 1 (by decide) (ci := 4) rfl rfl tin_Bounds (by decide) rfl rfl tw_124 d_Bounds_distributive_59 rfl ?_
              refine oz_iload_n (q := 63) cx d_Bounds_distributive_62 rfl rfl 1 rfl ?_
              refine oz_aald (q := 64) cx 15 14 16 (by decide) rfl d_Bounds_distributive_63 rfl (fun j8 hj8 => ?_)
              refine oz_iload_n (q := 65) cx d_Bounds_distributive_64 rfl rfl 2 rfl ?_
              refine oz_iald (q := 66) cx (16 + j8) 14 (oz_g15l (oz_lt hj8)) (oz_g15 (oz_lt hj8)) d_Bounds_distributive_65 rfl (fun j9 hj9 => ?_)
              refine oz_aald (q := 67) cx 30 14 31 (by decide) rfl d_Bounds_distributive_66 rfl (fun j10 hj10 => ?_)
              refine oz_aload_n (q := 68) cx d_Bounds_distributive_67 rfl rfl 0 rfl ?_
              refine oz_get (q := 71) cx 14 1 (by decide) (ci := 4) rfl rfl tin_Bounds (by decide) rfl rfl tw_124 d_Bounds_distributive_68 rfl ?_
              refine oz_iload_n (q := 72) cx d_Bounds_distributive_71 rfl rfl 1 rfl ?_
              refine oz_aald (q := 73) cx 15 14 16 (by decide) rfl d_Bounds_distributive_72 rfl (fun j11 hj11 => ?_)
              refine oz_iload_n (q := 74) cx d_Bounds_distributive_73 rfl rfl 3 rfl ?_
              refine oz_iald (q := 75) cx (16 + j11) 14 (oz_g15l (oz_lt hj11)) (oz_g15 (oz_lt hj11)) d_Bounds_distributive_74 rfl (fun j12 hj12 => ?_)
              refine oz_iald (q := 76) cx (31 + j10) 14 (oz_g30l (oz_lt hj10)) (oz_g30 (oz_lt hj10)) d_Bounds_distributive_75 rfl (fun j13 hj13 => ?_)
              refine oz_icmp_eq (q := 79) cx d_Bounds_distributive_76 rfl rfl (fun h14 => ?_) (fun h14 => ?_)
              · refine oz_iinc (q := 84) cx (s3 + 1) d_Bounds_distributive_81 rfl 3 rfl rfl (by rw [hnL]; decide) (lv2 := [(3, .int (s3 + 1)), (0, .ref (oz_b G + 14)), (1, .int s1), (2, .int s2)]) rfl ?_
                refine oz_goto cx d_Bounds_distributive_84 rfl ?_
                exact oz_lv [1, 2, 3, 0] rfl (oz_leaf (fun h => h))
              · refine oz_iconst (q := 80) cx d_Bounds_distributive_79 rfl (v := 0) rfl ?_
                exact oz_wrapz (oz_zretp cx hR d_Bounds_distributive_80) (fun _ h => h)
          · refine oz_iinc (q := 90) cx (s2 + 1) d_Bounds_distributive_87 rfl 2 rfl rfl (by rw [hnL]; decide) (lv2 := [(2, .int (s2 + 1)), (0, .ref (oz_b G + 14)), (1, .int s1)]) rfl ?_
            refine oz_goto cx d_Bounds_distributive_90 rfl ?_
            exact oz_lv [1, 2, 0] rfl (oz_leaf (fun h => h))
      · refine oz_iinc (q := 96) cx (s1 + 1) d_Bounds_distributive_93 rfl 1 rfl rfl (by rw [hnL]; decide) (lv2 := [(1, .int (s1 + 1)), (0, .ref (oz_b G + 14))]) rfl ?_
        refine oz_goto cx d_Bounds_distributive_96 rfl ?_
        exact oz_lv [1, 0] rfl (oz_leaf (fun h => h))
  · refine oz_iconst (q := 100) cx d_Bounds_distributive_99 rfl (v := 1) rfl ?_
    exact oz_zretp cx hR d_Bounds_distributive_100
def y_Held_spreadFirsts : MethodName := ⟨"OrderHall$Held", "spreadFirsts", "([I[I)V"⟩
theorem d_Held_spreadFirsts_0 : decode prog_4_method_6_code 0 = .ok (.iconst 1, 1) := by decide +kernel
theorem d_Held_spreadFirsts_1 : decode prog_4_method_6_code 1 = .ok (.istore_n 3, 1) := by decide +kernel
theorem d_Held_spreadFirsts_2 : decode prog_4_method_6_code 2 = .ok (.iload_n 3, 1) := by decide +kernel
theorem d_Held_spreadFirsts_3 : decode prog_4_method_6_code 3 = .ok (.bipush 14, 2) := by decide +kernel
theorem d_Held_spreadFirsts_5 : decode prog_4_method_6_code 5 = .ok (.if_icmp .gt 36, 3) := by decide +kernel
theorem d_Held_spreadFirsts_8 : decode prog_4_method_6_code 8 = .ok (.aload_n 1, 1) := by decide +kernel
theorem d_Held_spreadFirsts_9 : decode prog_4_method_6_code 9 = .ok (.iload_n 3, 1) := by decide +kernel
theorem d_Held_spreadFirsts_10 : decode prog_4_method_6_code 10 = .ok (.iconst 1, 1) := by decide +kernel
theorem d_Held_spreadFirsts_11 : decode prog_4_method_6_code 11 = .ok (.isub, 1) := by decide +kernel
theorem d_Held_spreadFirsts_12 : decode prog_4_method_6_code 12 = .ok (.iaload, 1) := by decide +kernel
theorem d_Held_spreadFirsts_13 : decode prog_4_method_6_code 13 = .ok (.aload_n 1, 1) := by decide +kernel
theorem d_Held_spreadFirsts_14 : decode prog_4_method_6_code 14 = .ok (.iload_n 3, 1) := by decide +kernel
theorem d_Held_spreadFirsts_15 : decode prog_4_method_6_code 15 = .ok (.iaload, 1) := by decide +kernel
theorem d_Held_spreadFirsts_16 : decode prog_4_method_6_code 16 = .ok (.if_icmp .le 19, 3) := by decide +kernel
theorem d_Held_spreadFirsts_19 : decode prog_4_method_6_code 19 = .ok (.aload_n 1, 1) := by decide +kernel
theorem d_Held_spreadFirsts_20 : decode prog_4_method_6_code 20 = .ok (.iload_n 3, 1) := by decide +kernel
theorem d_Held_spreadFirsts_21 : decode prog_4_method_6_code 21 = .ok (.aload_n 1, 1) := by decide +kernel
theorem d_Held_spreadFirsts_22 : decode prog_4_method_6_code 22 = .ok (.iload_n 3, 1) := by decide +kernel
theorem d_Held_spreadFirsts_23 : decode prog_4_method_6_code 23 = .ok (.iconst 1, 1) := by decide +kernel
theorem d_Held_spreadFirsts_24 : decode prog_4_method_6_code 24 = .ok (.isub, 1) := by decide +kernel
theorem d_Held_spreadFirsts_25 : decode prog_4_method_6_code 25 = .ok (.iaload, 1) := by decide +kernel
theorem d_Held_spreadFirsts_26 : decode prog_4_method_6_code 26 = .ok (.iastore, 1) := by decide +kernel
theorem d_Held_spreadFirsts_27 : decode prog_4_method_6_code 27 = .ok (.aload_n 2, 1) := by decide +kernel
theorem d_Held_spreadFirsts_28 : decode prog_4_method_6_code 28 = .ok (.iload_n 3, 1) := by decide +kernel
theorem d_Held_spreadFirsts_29 : decode prog_4_method_6_code 29 = .ok (.aload_n 2, 1) := by decide +kernel
theorem d_Held_spreadFirsts_30 : decode prog_4_method_6_code 30 = .ok (.iload_n 3, 1) := by decide +kernel
theorem d_Held_spreadFirsts_31 : decode prog_4_method_6_code 31 = .ok (.iconst 1, 1) := by decide +kernel
theorem d_Held_spreadFirsts_32 : decode prog_4_method_6_code 32 = .ok (.isub, 1) := by decide +kernel
theorem d_Held_spreadFirsts_33 : decode prog_4_method_6_code 33 = .ok (.iaload, 1) := by decide +kernel
theorem d_Held_spreadFirsts_34 : decode prog_4_method_6_code 34 = .ok (.iastore, 1) := by decide +kernel
theorem d_Held_spreadFirsts_35 : decode prog_4_method_6_code 35 = .ok (.iinc 3 1, 3) := by decide +kernel
theorem d_Held_spreadFirsts_38 : decode prog_4_method_6_code 38 = .ok (.goto (-36), 3) := by decide +kernel
theorem d_Held_spreadFirsts_41 : decode prog_4_method_6_code 41 = .ok (.return_, 1) := by decide +kernel
noncomputable def f_Held_spreadFirsts (a0 : Nat) (a1 : Nat) (M : oz_M) : Option (Unit × oz_M) := (oz_lp (fun (s1 : Int32 × oz_M) => (if 14 < s1.1 then (some (.inr (s1.1, s1.2))) else ((oz_in (s1.1 - 1) 15).bind fun j2 => (oz_in s1.1 15).bind fun j3 => if (s1.2.1 a0 j3) < (s1.2.1 a0 j2) then ((oz_in (s1.1 - 1) 15).bind fun j4 => (oz_in s1.1 15).bind fun j5 => (some (oz_s s1.2 a0 j5 (s1.2.1 a0 j4))).bind fun M6 => (oz_in (s1.1 - 1) 15).bind fun j7 => (oz_in s1.1 15).bind fun j8 => (some (oz_s M6 a1 j8 (M6.1 a1 j7))).bind fun M9 => some (.inl (s1.1 + 1, M9))) else (some (.inl (s1.1 + 1, s1.2)))) : Option ((Int32 × oz_M) ⊕ (Int32 × oz_M)))) (1, M)).bind fun (y12 : Int32 × oz_M) => some ((), y12.2)
set_option maxRecDepth 20000 in
set_option maxHeartbeats 4000000 in
theorem c_Held_spreadFirsts {l : Launch} {D : va_G} {cs : Nat → ClassId} {b : Nat} {a0 : Nat} {a1 : Nat} {M : oz_M} {vz : Unit} {Mz : oz_M} (ha0 : oz_A 15 a0) (ha1 : oz_A 15 a1) (hF : f_Held_spreadFirsts a0 a1 M = some (vz, Mz)) : oz_Met l D cs b y_Held_spreadFirsts prog_4_method_6_code 4 none (oz_rm 0) [.ref (b + 45), .ref (b + a0), .ref (b + a1)] M (none) Mz := by
  refine oz_enter (by decide) (Nat.le_of_ble_eq_true rfl) (fun G cx hR e1 hRm e2 e3 e4 hnL => ?_)
  subst e1; subst e2; subst e3; subst e4
  refine (?_ : oz_R G 0 [(0, .ref (oz_b G + 45)), (1, .ref (oz_b G + a0)), (2, .ref (oz_b G + a1))] [] M (f_Held_spreadFirsts a0 a1 M) (fun x => x = (vz, Mz))) _ hF rfl
  unfold f_Held_spreadFirsts
  refine oz_iconst (q := 1) cx d_Held_spreadFirsts_0 rfl (v := 1) rfl ?_
  refine oz_istore_n (q := 2) cx d_Held_spreadFirsts_1 rfl rfl (by rw [hnL]; decide) (lv2 := [(3, .int 1), (0, .ref (oz_b G + 45)), (1, .ref (oz_b G + a0)), (2, .ref (oz_b G + a1))]) rfl ?_
  refine oz_lv [2, 3, 0] rfl ?_
  refine oz_seq (p2 := 41) (lv2 := fun (y12 : Int32 × oz_M) => []) (st2 := fun y12 => []) (M2 := fun y12 => y12.2) ?_ (fun y12 => ?_)
  · refine oz_loop (Y := Int32 × oz_M) 2 (fun (s1 : Int32 × oz_M) => [(1, .ref (oz_b G + a0)), (2, .ref (oz_b G + a1)), (3, .int s1.1)]) (fun (s1 : Int32 × oz_M) => s1.2) (1, M) (fun s1 => ?_)
    refine oz_iload_n (q := 3) cx d_Held_spreadFirsts_2 rfl rfl 2 rfl ?_
    refine oz_bipush (q := 5) cx d_Held_spreadFirsts_3 rfl (v := 14) rfl ?_
    refine oz_icmp_gt (q := 8) cx d_Held_spreadFirsts_5 rfl rfl (fun h11 => ?_) (fun h11 => ?_)
    · exact oz_lv [] rfl (oz_leaf (fun h => h))
    · refine oz_aload_n (q := 9) cx d_Held_spreadFirsts_8 rfl rfl 0 rfl ?_
      refine oz_iload_n (q := 10) cx d_Held_spreadFirsts_9 rfl rfl 2 rfl ?_
      refine oz_iconst (q := 11) cx d_Held_spreadFirsts_10 rfl (v := 1) rfl ?_
      refine oz_isub (q := 12) cx d_Held_spreadFirsts_11 rfl ?_
      refine oz_iald (q := 13) cx a0 15 ha0.1 (ha0.2 _ _ _ _) d_Held_spreadFirsts_12 rfl (fun j2 hj2 => ?_)
      refine oz_aload_n (q := 14) cx d_Held_spreadFirsts_13 rfl rfl 0 rfl ?_
      refine oz_iload_n (q := 15) cx d_Held_spreadFirsts_14 rfl rfl 2 rfl ?_
      refine oz_iald (q := 16) cx a0 15 ha0.1 (ha0.2 _ _ _ _) d_Held_spreadFirsts_15 rfl (fun j3 hj3 => ?_)
      refine oz_icmp_le (q := 19) cx d_Held_spreadFirsts_16 rfl rfl (fun h10 => ?_) (fun h10 => ?_)
      · refine oz_iinc (q := 38) cx (s1.1 + 1) d_Held_spreadFirsts_35 rfl 2 rfl rfl (by rw [hnL]; decide) (lv2 := [(3, .int (s1.1 + 1)), (1, .ref (oz_b G + a0)), (2, .ref (oz_b G + a1))]) rfl ?_
        refine oz_goto cx d_Held_spreadFirsts_38 rfl ?_
        exact oz_lv [1, 2, 0] rfl (oz_leaf (fun h => h))
      · refine oz_aload_n (q := 20) cx d_Held_spreadFirsts_19 rfl rfl 0 rfl ?_
        refine oz_iload_n (q := 21) cx d_Held_spreadFirsts_20 rfl rfl 2 rfl ?_
        refine oz_aload_n (q := 22) cx d_Held_spreadFirsts_21 rfl rfl 0 rfl ?_
        refine oz_iload_n (q := 23) cx d_Held_spreadFirsts_22 rfl rfl 2 rfl ?_
        refine oz_iconst (q := 24) cx d_Held_spreadFirsts_23 rfl (v := 1) rfl ?_
        refine oz_isub (q := 25) cx d_Held_spreadFirsts_24 rfl ?_
        refine oz_iald (q := 26) cx a0 15 ha0.1 (ha0.2 _ _ _ _) d_Held_spreadFirsts_25 rfl (fun j4 hj4 => ?_)
        refine oz_iast (q := 27) cx a0 15 ha0.1 (fun _ => (ha0.2 _ _ _ _)) d_Held_spreadFirsts_26 rfl (fun j5 hj5 => ?_)
        refine oz_nm (fun M6 hM6 => ?_)
        refine oz_aload_n (q := 28) cx d_Held_spreadFirsts_27 rfl rfl 1 rfl ?_
        refine oz_iload_n (q := 29) cx d_Held_spreadFirsts_28 rfl rfl 2 rfl ?_
        refine oz_aload_n (q := 30) cx d_Held_spreadFirsts_29 rfl rfl 1 rfl ?_
        refine oz_iload_n (q := 31) cx d_Held_spreadFirsts_30 rfl rfl 2 rfl ?_
        refine oz_iconst (q := 32) cx d_Held_spreadFirsts_31 rfl (v := 1) rfl ?_
        refine oz_isub (q := 33) cx d_Held_spreadFirsts_32 rfl ?_
        refine oz_iald (q := 34) cx a1 15 ha1.1 (ha1.2 _ _ _ _) d_Held_spreadFirsts_33 rfl (fun j7 hj7 => ?_)
        refine oz_iast (q := 35) cx a1 15 ha1.1 (fun _ => (ha1.2 _ _ _ _)) d_Held_spreadFirsts_34 rfl (fun j8 hj8 => ?_)
        refine oz_nm (fun M9 hM9 => ?_)
        refine oz_iinc (q := 38) cx (s1.1 + 1) d_Held_spreadFirsts_35 rfl 2 rfl rfl (by rw [hnL]; decide) (lv2 := [(3, .int (s1.1 + 1)), (1, .ref (oz_b G + a0)), (2, .ref (oz_b G + a1))]) rfl ?_
        refine oz_goto cx d_Held_spreadFirsts_38 rfl ?_
        exact oz_lv [1, 2, 0] rfl (oz_leaf (fun h => h))
  · exact oz_vret cx hR d_Held_spreadFirsts_41
def y_Order_everything : MethodName := ⟨"OrderHall$Order", "everything", "()I"⟩
theorem d_Order_everything_0 : decode prog_6_method_3_code 0 = .ok (.iconst 1, 1) := by decide +kernel
theorem d_Order_everything_1 : decode prog_6_method_3_code 1 = .ok (.aload_n 0, 1) := by decide +kernel
theorem d_Order_everything_2 : decode prog_6_method_3_code 2 = .ok (.getfield 9, 3) := by decide +kernel
theorem d_Order_everything_5 : decode prog_6_method_3_code 5 = .ok (.ishl, 1) := by decide +kernel
theorem d_Order_everything_6 : decode prog_6_method_3_code 6 = .ok (.iconst 1, 1) := by decide +kernel
theorem d_Order_everything_7 : decode prog_6_method_3_code 7 = .ok (.isub, 1) := by decide +kernel
theorem d_Order_everything_8 : decode prog_6_method_3_code 8 = .ok (.ireturn, 1) := by decide +kernel
def f_Order_everything (M : oz_M) : Option (Int32) := some ((1 <<< ((M.1 6 0) &&& 31)) - 1)
set_option maxRecDepth 20000 in
set_option maxHeartbeats 4000000 in
theorem c_Order_everything {l : Launch} {D : va_G} {cs : Nat → ClassId} {b : Nat} {M : oz_M} {vz : Int32} (hF : f_Order_everything M = some vz) : oz_Met l D cs b y_Order_everything prog_6_method_3_code 1 (some .int) (oz_rm 0) [.ref (b + 6)] M (some (.int vz)) M := by
  refine oz_enter (by decide) (Nat.le_of_ble_eq_true rfl) (fun G cx hR e1 hRm e2 e3 e4 hnL => ?_)
  subst e1; subst e2; subst e3; subst e4
  refine (?_ : oz_R G 0 [(0, .ref (oz_b G + 6))] [] M (f_Order_everything  M) (fun x => x = vz)) _ hF rfl
  unfold f_Order_everything
  refine oz_iconst (q := 1) cx d_Order_everything_0 rfl (v := 1) rfl ?_
  refine oz_aload_n (q := 2) cx d_Order_everything_1 rfl rfl 0 rfl ?_
  refine oz_get (q := 5) cx 6 0 (by decide) (ci := 3) rfl rfl tin_Order (by decide) rfl rfl tw_69 d_Order_everything_2 rfl ?_
  refine oz_ishl (q := 6) cx d_Order_everything_5 rfl ?_
  refine oz_iconst (q := 7) cx d_Order_everything_6 rfl (v := 1) rfl ?_
  refine oz_isub (q := 8) cx d_Order_everything_7 rfl ?_
  exact oz_iretp cx hR d_Order_everything_8
def y_Parts_addPart : MethodName := ⟨"OrderHall$Parts", "addPart", "(I)V"⟩
theorem d_Parts_addPart_0 : decode prog_7_method_5_code 0 = .ok (.aload_n 0, 1) := by decide +kernel
theorem d_Parts_addPart_1 : decode prog_7_method_5_code 1 = .ok (.getfield 15, 3) := by decide +kernel
theorem d_Parts_addPart_4 : decode prog_7_method_5_code 4 = .ok (.bipush 14, 2) := by decide +kernel
theorem d_Parts_addPart_6 : decode prog_7_method_5_code 6 = .ok (.if_icmp .ge 23, 3) := by decide +kernel
theorem d_Parts_addPart_9 : decode prog_7_method_5_code 9 = .ok (.aload_n 0, 1) := by decide +kernel
theorem d_Parts_addPart_10 : decode prog_7_method_5_code 10 = .ok (.getfield 9, 3) := by decide +kernel
theorem d_Parts_addPart_13 : decode prog_7_method_5_code 13 = .ok (.aload_n 0, 1) := by decide +kernel
theorem d_Parts_addPart_14 : decode prog_7_method_5_code 14 = .ok (.getfield 15, 3) := by decide +kernel
theorem d_Parts_addPart_17 : decode prog_7_method_5_code 17 = .ok (.iload_n 1, 1) := by decide +kernel
theorem d_Parts_addPart_18 : decode prog_7_method_5_code 18 = .ok (.iastore, 1) := by decide +kernel
theorem d_Parts_addPart_19 : decode prog_7_method_5_code 19 = .ok (.aload_n 0, 1) := by decide +kernel
theorem d_Parts_addPart_20 : decode prog_7_method_5_code 20 = .ok (.dup, 1) := by decide +kernel
theorem d_Parts_addPart_21 : decode prog_7_method_5_code 21 = .ok (.getfield 15, 3) := by decide +kernel
theorem d_Parts_addPart_24 : decode prog_7_method_5_code 24 = .ok (.iconst 1, 1) := by decide +kernel
theorem d_Parts_addPart_25 : decode prog_7_method_5_code 25 = .ok (.iadd, 1) := by decide +kernel
theorem d_Parts_addPart_26 : decode prog_7_method_5_code 26 = .ok (.putfield 15, 3) := by decide +kernel
theorem d_Parts_addPart_29 : decode prog_7_method_5_code 29 = .ok (.return_, 1) := by decide +kernel
def f_Parts_addPart (a0 : Int32) (M : oz_M) : Option (Unit × oz_M) := if (M.1 56 2) < 14 then ((oz_in (M.1 56 2) 14).bind fun j1 => (some (oz_s M 57 j1 a0)).bind fun M2 => (some (oz_s M2 56 2 ((M2.1 56 2) + 1))).bind fun M3 => some ((), M3)) else (some ((), M))
set_option maxRecDepth 20000 in
set_option maxHeartbeats 4000000 in
theorem c_Parts_addPart {l : Launch} {D : va_G} {cs : Nat → ClassId} {b : Nat} {a0 : Int32} {M : oz_M} {vz : Unit} {Mz : oz_M} (hF : f_Parts_addPart a0 M = some (vz, Mz)) : oz_Met l D cs b y_Parts_addPart prog_7_method_5_code 2 none (oz_rm 0) [.ref (b + 56), .int a0] M (none) Mz := by
  refine oz_enter (by decide) (Nat.le_of_ble_eq_true rfl) (fun G cx hR e1 hRm e2 e3 e4 hnL => ?_)
  subst e1; subst e2; subst e3; subst e4
  refine (?_ : oz_R G 0 [(0, .ref (oz_b G + 56)), (1, .int a0)] [] M (f_Parts_addPart a0 M) (fun x => x = (vz, Mz))) _ hF rfl
  unfold f_Parts_addPart
  refine oz_aload_n (q := 1) cx d_Parts_addPart_0 rfl rfl 0 rfl ?_
  refine oz_get (q := 4) cx 56 2 (by decide) (ci := 7) rfl rfl tin_Parts (by decide) rfl rfl tw_208 d_Parts_addPart_1 rfl ?_
  refine oz_bipush (q := 6) cx d_Parts_addPart_4 rfl (v := 14) rfl ?_
  refine oz_icmp_ge (q := 9) cx d_Parts_addPart_6 rfl rfl (fun h4 => ?_) (fun h4 => ?_)
  · exact oz_vret cx hR d_Parts_addPart_29
  · refine oz_aload_n (q := 10) cx d_Parts_addPart_9 rfl rfl 0 rfl ?_
    refine oz_get (q := 13) cx 56 1 (by decide) (ci := 7) rfl rfl tin_Parts (by decide) rfl rfl tw_207 d_Parts_addPart_10 rfl ?_
    refine oz_aload_n (q := 14) cx d_Parts_addPart_13 rfl rfl 0 rfl ?_
    refine oz_get (q := 17) cx 56 2 (by decide) (ci := 7) rfl rfl tin_Parts (by decide) rfl rfl tw_208 d_Parts_addPart_14 rfl ?_
    refine oz_iload_n (q := 18) cx d_Parts_addPart_17 rfl rfl 1 rfl ?_
    refine oz_iast (q := 19) cx 57 14 (by decide) (fun _ => rfl) d_Parts_addPart_18 rfl (fun j1 hj1 => ?_)
    refine oz_nm (fun M2 hM2 => ?_)
    refine oz_aload_n (q := 20) cx d_Parts_addPart_19 rfl rfl 0 rfl ?_
    refine oz_dup (q := 21) cx d_Parts_addPart_20 rfl rfl ?_
    refine oz_get (q := 24) cx 56 2 (by decide) (ci := 7) rfl rfl tin_Parts (by decide) rfl rfl tw_208 d_Parts_addPart_21 rfl ?_
    refine oz_iconst (q := 25) cx d_Parts_addPart_24 rfl (v := 1) rfl ?_
    refine oz_iadd (q := 26) cx d_Parts_addPart_25 rfl ?_
    refine oz_put (q := 29) cx 56 2 (by decide) (ci := 7) rfl rfl rfl tin_Parts t_Parts t_Parts_ok n_Parts (by decide) (Nat.le_of_ble_eq_true rfl) rfl tw_208 rfl rfl rfl d_Parts_addPart_26 rfl ?_
    refine oz_nm (fun M3 hM3 => ?_)
    exact oz_vret cx hR d_Parts_addPart_29
def y_Parts_chainFrom : MethodName := ⟨"OrderHall$Parts", "chainFrom", "(I)I"⟩
theorem d_Parts_chainFrom_0 : decode prog_7_method_8_code 0 = .ok (.iconst 1, 1) := by decide +kernel
theorem d_Parts_chainFrom_1 : decode prog_7_method_8_code 1 = .ok (.istore_n 2, 1) := by decide +kernel
theorem d_Parts_chainFrom_2 : decode prog_7_method_8_code 2 = .ok (.aload_n 0, 1) := by decide +kernel
theorem d_Parts_chainFrom_3 : decode prog_7_method_8_code 3 = .ok (.getfield 19, 3) := by decide +kernel
theorem d_Parts_chainFrom_6 : decode prog_7_method_8_code 6 = .ok (.iload_n 1, 1) := by decide +kernel
theorem d_Parts_chainFrom_7 : decode prog_7_method_8_code 7 = .ok (.iaload, 1) := by decide +kernel
theorem d_Parts_chainFrom_8 : decode prog_7_method_8_code 8 = .ok (.istore_n 3, 1) := by decide +kernel
theorem d_Parts_chainFrom_9 : decode prog_7_method_8_code 9 = .ok (.iconst 0, 1) := by decide +kernel
theorem d_Parts_chainFrom_10 : decode prog_7_method_8_code 10 = .ok (.istore 4, 2) := by decide +kernel
theorem d_Parts_chainFrom_12 : decode prog_7_method_8_code 12 = .ok (.iload 4, 2) := by decide +kernel
theorem d_Parts_chainFrom_14 : decode prog_7_method_8_code 14 = .ok (.aload_n 0, 1) := by decide +kernel
theorem d_Parts_chainFrom_15 : decode prog_7_method_8_code 15 = .ok (.getfield 31, 3) := by decide +kernel
theorem d_Parts_chainFrom_18 : decode prog_7_method_8_code 18 = .ok (.getfield 35, 3) := by decide +kernel
theorem d_Parts_chainFrom_21 : decode prog_7_method_8_code 21 = .ok (.if_icmp .ge 24, 3) := by decide +kernel
theorem d_Parts_chainFrom_24 : decode prog_7_method_8_code 24 = .ok (.iload_n 3, 1) := by decide +kernel
theorem d_Parts_chainFrom_25 : decode prog_7_method_8_code 25 = .ok (.iconst (-1), 1) := by decide +kernel
theorem d_Parts_chainFrom_26 : decode prog_7_method_8_code 26 = .ok (.if_icmp .eq 19, 3) := by decide +kernel
theorem d_Parts_chainFrom_29 : decode prog_7_method_8_code 29 = .ok (.iinc 2 1, 3) := by decide +kernel
theorem d_Parts_chainFrom_32 : decode prog_7_method_8_code 32 = .ok (.aload_n 0, 1) := by decide +kernel
theorem d_Parts_chainFrom_33 : decode prog_7_method_8_code 33 = .ok (.getfield 19, 3) := by decide +kernel
theorem d_Parts_chainFrom_36 : decode prog_7_method_8_code 36 = .ok (.iload_n 3, 1) := by decide +kernel
theorem d_Parts_chainFrom_37 : decode prog_7_method_8_code 37 = .ok (.iaload, 1) := by decide +kernel
theorem d_Parts_chainFrom_38 : decode prog_7_method_8_code 38 = .ok (.istore_n 3, 1) := by decide +kernel
theorem d_Parts_chainFrom_39 : decode prog_7_method_8_code 39 = .ok (.iinc 4 1, 3) := by decide +kernel
theorem d_Parts_chainFrom_42 : decode prog_7_method_8_code 42 = .ok (.goto (-30), 3) := by decide +kernel
theorem d_Parts_chainFrom_45 : decode prog_7_method_8_code 45 = .ok (.iload_n 2, 1) := by decide +kernel
theorem d_Parts_chainFrom_46 : decode prog_7_method_8_code 46 = .ok (.ireturn, 1) := by decide +kernel
noncomputable def f_Parts_chainFrom (a0 : Int32) (M : oz_M) : Option (Int32) := (oz_in a0 14).bind fun j1 => (oz_lp (fun (s2 : Int32 × Int32 × Int32) => (if s2.2.2 < (M.1 6 0) then (if s2.2.1 = (-1) then (some (.inr (s2.1, s2.2.1, s2.2.2))) else ((oz_in s2.2.1 14).bind fun j3 => some (.inl (s2.1 + 1, M.1 58 j3, s2.2.2 + 1)))) else (some (.inr (s2.1, s2.2.1, s2.2.2))) : Option ((Int32 × Int32 × Int32) ⊕ (Int32 × Int32 × Int32)))) (1, M.1 58 j1, 0)).bind fun (y6 : Int32 × Int32 × Int32) => some y6.1
set_option maxRecDepth 20000 in
set_option maxHeartbeats 4000000 in
theorem c_Parts_chainFrom {l : Launch} {D : va_G} {cs : Nat → ClassId} {b : Nat} {a0 : Int32} {M : oz_M} {vz : Int32} (hF : f_Parts_chainFrom a0 M = some vz) : oz_Met l D cs b y_Parts_chainFrom prog_7_method_8_code 5 (some .int) (oz_rm 0) [.ref (b + 56), .int a0] M (some (.int vz)) M := by
  refine oz_enter (by decide) (Nat.le_of_ble_eq_true rfl) (fun G cx hR e1 hRm e2 e3 e4 hnL => ?_)
  subst e1; subst e2; subst e3; subst e4
  refine (?_ : oz_R G 0 [(0, .ref (oz_b G + 56)), (1, .int a0)] [] M (f_Parts_chainFrom a0 M) (fun x => x = vz)) _ hF rfl
  unfold f_Parts_chainFrom
  refine oz_iconst (q := 1) cx d_Parts_chainFrom_0 rfl (v := 1) rfl ?_
  refine oz_istore_n (q := 2) cx d_Parts_chainFrom_1 rfl rfl (by rw [hnL]; decide) (lv2 := [(2, .int 1), (0, .ref (oz_b G + 56)), (1, .int a0)]) rfl ?_
  refine oz_aload_n (q := 3) cx d_Parts_chainFrom_2 rfl rfl 1 rfl ?_
  refine oz_get (q := 6) cx 56 3 (by decide) (ci := 7) rfl rfl tin_Parts (by decide) rfl rfl tw_209 d_Parts_chainFrom_3 rfl ?_
  refine oz_iload_n (q := 7) cx d_Parts_chainFrom_6 rfl rfl 2 rfl ?_
  refine oz_iald (q := 8) cx 58 14 (by decide) rfl d_Parts_chainFrom_7 rfl (fun j1 hj1 => ?_)
  refine oz_istore_n (q := 9) cx d_Parts_chainFrom_8 rfl rfl (by rw [hnL]; decide) (lv2 := [(3, .int (M.1 58 j1)), (2, .int 1), (0, .ref (oz_b G + 56)), (1, .int a0)]) rfl ?_
  refine oz_iconst (q := 10) cx d_Parts_chainFrom_9 rfl (v := 0) rfl ?_
  refine oz_istore (q := 12) cx d_Parts_chainFrom_10 rfl (by rw [hnL]; decide) (lv2 := [(4, .int 0), (3, .int (M.1 58 j1)), (2, .int 1), (0, .ref (oz_b G + 56)), (1, .int a0)]) rfl ?_
  refine oz_lv [3, 2, 1, 0] rfl ?_
  refine oz_seq (p2 := 45) (lv2 := fun (y6 : Int32 × Int32 × Int32) => [(2, .int y6.1)]) (st2 := fun y6 => []) (M2 := fun y6 => M) ?_ (fun y6 => ?_)
  · refine oz_loop (Y := Int32 × Int32 × Int32) 12 (fun (s2 : Int32 × Int32 × Int32) => [(0, .ref (oz_b G + 56)), (2, .int s2.1), (3, .int s2.2.1), (4, .int s2.2.2)]) (fun (s2 : Int32 × Int32 × Int32) => M) (1, M.1 58 j1, 0) (fun s2 => ?_)
    refine oz_iload (q := 14) cx d_Parts_chainFrom_12 rfl 3 rfl ?_
    refine oz_aload_n (q := 15) cx d_Parts_chainFrom_14 rfl rfl 0 rfl ?_
    refine oz_get (q := 18) cx 56 0 (by decide) (ci := 7) rfl rfl tin_Parts (by decide) rfl rfl tw_206 d_Parts_chainFrom_15 rfl ?_
    refine oz_get (q := 21) cx 6 0 (by decide) (ci := 3) rfl rfl tin_Order (by decide) rfl rfl tw_70 d_Parts_chainFrom_18 rfl ?_
    refine oz_icmp_ge (q := 24) cx d_Parts_chainFrom_21 rfl rfl (fun h5 => ?_) (fun h5 => ?_)
    · exact oz_lv [1] rfl (oz_leaf (fun h => h))
    · refine oz_iload_n (q := 25) cx d_Parts_chainFrom_24 rfl rfl 2 rfl ?_
      refine oz_iconst (q := 26) cx d_Parts_chainFrom_25 rfl (v := (-1)) rfl ?_
      refine oz_icmp_eq (q := 29) cx d_Parts_chainFrom_26 rfl rfl (fun h4 => ?_) (fun h4 => ?_)
      · exact oz_lv [1] rfl (oz_leaf (fun h => h))
      · refine oz_iinc (q := 32) cx (s2.1 + 1) d_Parts_chainFrom_29 rfl 1 rfl rfl (by rw [hnL]; decide) (lv2 := [(2, .int (s2.1 + 1)), (0, .ref (oz_b G + 56)), (3, .int s2.2.1), (4, .int s2.2.2)]) rfl ?_
        refine oz_aload_n (q := 33) cx d_Parts_chainFrom_32 rfl rfl 1 rfl ?_
        refine oz_get (q := 36) cx 56 3 (by decide) (ci := 7) rfl rfl tin_Parts (by decide) rfl rfl tw_209 d_Parts_chainFrom_33 rfl ?_
        refine oz_iload_n (q := 37) cx d_Parts_chainFrom_36 rfl rfl 2 rfl ?_
        refine oz_iald (q := 38) cx 58 14 (by decide) rfl d_Parts_chainFrom_37 rfl (fun j3 hj3 => ?_)
        refine oz_istore_n (q := 39) cx d_Parts_chainFrom_38 rfl rfl (by rw [hnL]; decide) (lv2 := [(3, .int (M.1 58 j3)), (2, .int (s2.1 + 1)), (0, .ref (oz_b G + 56)), (4, .int s2.2.2)]) rfl ?_
        refine oz_iinc (q := 42) cx (s2.2.2 + 1) d_Parts_chainFrom_39 rfl 3 rfl rfl (by rw [hnL]; decide) (lv2 := [(4, .int (s2.2.2 + 1)), (3, .int (M.1 58 j3)), (2, .int (s2.1 + 1)), (0, .ref (oz_b G + 56))]) rfl ?_
        refine oz_goto cx d_Parts_chainFrom_42 rfl ?_
        exact oz_lv [3, 2, 1, 0] rfl (oz_leaf (fun h => h))
  · refine oz_iload_n (q := 46) cx d_Parts_chainFrom_45 rfl rfl 0 rfl ?_
    exact oz_iretp cx hR d_Parts_chainFrom_46
def y_Parts_relink : MethodName := ⟨"OrderHall$Parts", "relink", "(I)V"⟩
theorem d_Parts_relink_0 : decode prog_7_method_11_code 0 = .ok (.iload_n 1, 1) := by decide +kernel
theorem d_Parts_relink_1 : decode prog_7_method_11_code 1 = .ok (.istore_n 2, 1) := by decide +kernel
theorem d_Parts_relink_2 : decode prog_7_method_11_code 2 = .ok (.iconst 0, 1) := by decide +kernel
theorem d_Parts_relink_3 : decode prog_7_method_11_code 3 = .ok (.istore_n 3, 1) := by decide +kernel
theorem d_Parts_relink_4 : decode prog_7_method_11_code 4 = .ok (.iload_n 3, 1) := by decide +kernel
theorem d_Parts_relink_5 : decode prog_7_method_11_code 5 = .ok (.aload_n 0, 1) := by decide +kernel
theorem d_Parts_relink_6 : decode prog_7_method_11_code 6 = .ok (.getfield 31, 3) := by decide +kernel
theorem d_Parts_relink_9 : decode prog_7_method_11_code 9 = .ok (.getfield 35, 3) := by decide +kernel
theorem d_Parts_relink_12 : decode prog_7_method_11_code 12 = .ok (.if_icmp .ge 50, 3) := by decide +kernel
theorem d_Parts_relink_15 : decode prog_7_method_11_code 15 = .ok (.iload_n 2, 1) := by decide +kernel
theorem d_Parts_relink_16 : decode prog_7_method_11_code 16 = .ok (.iconst (-1), 1) := by decide +kernel
theorem d_Parts_relink_17 : decode prog_7_method_11_code 17 = .ok (.if_icmp .eq 45, 3) := by decide +kernel
theorem d_Parts_relink_20 : decode prog_7_method_11_code 20 = .ok (.aload_n 0, 1) := by decide +kernel
theorem d_Parts_relink_21 : decode prog_7_method_11_code 21 = .ok (.getfield 25, 3) := by decide +kernel
theorem d_Parts_relink_24 : decode prog_7_method_11_code 24 = .ok (.iload_n 2, 1) := by decide +kernel
theorem d_Parts_relink_25 : decode prog_7_method_11_code 25 = .ok (.iaload, 1) := by decide +kernel
theorem d_Parts_relink_26 : decode prog_7_method_11_code 26 = .ok (.istore 4, 2) := by decide +kernel
theorem d_Parts_relink_28 : decode prog_7_method_11_code 28 = .ok (.aload_n 0, 1) := by decide +kernel
theorem d_Parts_relink_29 : decode prog_7_method_11_code 29 = .ok (.getfield 19, 3) := by decide +kernel
theorem d_Parts_relink_32 : decode prog_7_method_11_code 32 = .ok (.iload 4, 2) := by decide +kernel
theorem d_Parts_relink_34 : decode prog_7_method_11_code 34 = .ok (.iaload, 1) := by decide +kernel
theorem d_Parts_relink_35 : decode prog_7_method_11_code 35 = .ok (.istore 5, 2) := by decide +kernel
theorem d_Parts_relink_37 : decode prog_7_method_11_code 37 = .ok (.aload_n 0, 1) := by decide +kernel
theorem d_Parts_relink_38 : decode prog_7_method_11_code 38 = .ok (.getfield 19, 3) := by decide +kernel
theorem d_Parts_relink_41 : decode prog_7_method_11_code 41 = .ok (.iload 4, 2) := by decide +kernel
theorem d_Parts_relink_43 : decode prog_7_method_11_code 43 = .ok (.iload_n 2, 1) := by decide +kernel
theorem d_Parts_relink_44 : decode prog_7_method_11_code 44 = .ok (.iastore, 1) := by decide +kernel
theorem d_Parts_relink_45 : decode prog_7_method_11_code 45 = .ok (.aload_n 0, 1) := by decide +kernel
theorem d_Parts_relink_46 : decode prog_7_method_11_code 46 = .ok (.getfield 22, 3) := by decide +kernel
theorem d_Parts_relink_49 : decode prog_7_method_11_code 49 = .ok (.iload_n 2, 1) := by decide +kernel
theorem d_Parts_relink_50 : decode prog_7_method_11_code 50 = .ok (.iload 4, 2) := by decide +kernel
theorem d_Parts_relink_52 : decode prog_7_method_11_code 52 = .ok (.iastore, 1) := by decide +kernel
theorem d_Parts_relink_53 : decode prog_7_method_11_code 53 = .ok (.iload 5, 2) := by decide +kernel
theorem d_Parts_relink_55 : decode prog_7_method_11_code 55 = .ok (.istore_n 2, 1) := by decide +kernel
theorem d_Parts_relink_56 : decode prog_7_method_11_code 56 = .ok (.iinc 3 1, 3) := by decide +kernel
theorem d_Parts_relink_59 : decode prog_7_method_11_code 59 = .ok (.goto (-55), 3) := by decide +kernel
theorem d_Parts_relink_62 : decode prog_7_method_11_code 62 = .ok (.return_, 1) := by decide +kernel
noncomputable def f_Parts_relink (a0 : Int32) (M : oz_M) : Option (Unit × oz_M) := (oz_lp (fun (s1 : Int32 × Int32 × oz_M) => (if s1.2.1 < (s1.2.2.1 6 0) then (if s1.1 = (-1) then (some (.inr (s1.1, s1.2.1, s1.2.2))) else ((oz_in s1.1 14).bind fun j2 => (oz_in (s1.2.2.1 60 j2) 14).bind fun j3 => (oz_in (s1.2.2.1 60 j2) 14).bind fun j4 => (some (oz_s s1.2.2 58 j4 s1.1)).bind fun M5 => (oz_in s1.1 14).bind fun j6 => (some (oz_s M5 59 j6 (s1.2.2.1 60 j2))).bind fun M7 => some (.inl (s1.2.2.1 58 j3, s1.2.1 + 1, M7)))) else (some (.inr (s1.1, s1.2.1, s1.2.2))) : Option ((Int32 × Int32 × oz_M) ⊕ (Int32 × Int32 × oz_M)))) (a0, 0, M)).bind fun (y10 : Int32 × Int32 × oz_M) => some ((), y10.2.2)
set_option maxRecDepth 20000 in
set_option maxHeartbeats 4000000 in
theorem c_Parts_relink {l : Launch} {D : va_G} {cs : Nat → ClassId} {b : Nat} {a0 : Int32} {M : oz_M} {vz : Unit} {Mz : oz_M} (hF : f_Parts_relink a0 M = some (vz, Mz)) : oz_Met l D cs b y_Parts_relink prog_7_method_11_code 6 none (oz_rm 0) [.ref (b + 56), .int a0] M (none) Mz := by
  refine oz_enter (by decide) (Nat.le_of_ble_eq_true rfl) (fun G cx hR e1 hRm e2 e3 e4 hnL => ?_)
  subst e1; subst e2; subst e3; subst e4
  refine (?_ : oz_R G 0 [(0, .ref (oz_b G + 56)), (1, .int a0)] [] M (f_Parts_relink a0 M) (fun x => x = (vz, Mz))) _ hF rfl
  unfold f_Parts_relink
  refine oz_iload_n (q := 1) cx d_Parts_relink_0 rfl rfl 1 rfl ?_
  refine oz_istore_n (q := 2) cx d_Parts_relink_1 rfl rfl (by rw [hnL]; decide) (lv2 := [(2, .int a0), (0, .ref (oz_b G + 56)), (1, .int a0)]) rfl ?_
  refine oz_iconst (q := 3) cx d_Parts_relink_2 rfl (v := 0) rfl ?_
  refine oz_istore_n (q := 4) cx d_Parts_relink_3 rfl rfl (by rw [hnL]; decide) (lv2 := [(3, .int 0), (2, .int a0), (0, .ref (oz_b G + 56)), (1, .int a0)]) rfl ?_
  refine oz_lv [2, 1, 0] rfl ?_
  refine oz_seq (p2 := 62) (lv2 := fun (y10 : Int32 × Int32 × oz_M) => []) (st2 := fun y10 => []) (M2 := fun y10 => y10.2.2) ?_ (fun y10 => ?_)
  · refine oz_loop (Y := Int32 × Int32 × oz_M) 4 (fun (s1 : Int32 × Int32 × oz_M) => [(0, .ref (oz_b G + 56)), (2, .int s1.1), (3, .int s1.2.1)]) (fun (s1 : Int32 × Int32 × oz_M) => s1.2.2) (a0, 0, M) (fun s1 => ?_)
    refine oz_iload_n (q := 5) cx d_Parts_relink_4 rfl rfl 2 rfl ?_
    refine oz_aload_n (q := 6) cx d_Parts_relink_5 rfl rfl 0 rfl ?_
    refine oz_get (q := 9) cx 56 0 (by decide) (ci := 7) rfl rfl tin_Parts (by decide) rfl rfl tw_206 d_Parts_relink_6 rfl ?_
    refine oz_get (q := 12) cx 6 0 (by decide) (ci := 3) rfl rfl tin_Order (by decide) rfl rfl tw_70 d_Parts_relink_9 rfl ?_
    refine oz_icmp_ge (q := 15) cx d_Parts_relink_12 rfl rfl (fun h9 => ?_) (fun h9 => ?_)
    · exact oz_lv [] rfl (oz_leaf (fun h => h))
    · refine oz_iload_n (q := 16) cx d_Parts_relink_15 rfl rfl 1 rfl ?_
      refine oz_iconst (q := 17) cx d_Parts_relink_16 rfl (v := (-1)) rfl ?_
      refine oz_icmp_eq (q := 20) cx d_Parts_relink_17 rfl rfl (fun h8 => ?_) (fun h8 => ?_)
      · exact oz_lv [] rfl (oz_leaf (fun h => h))
      · refine oz_aload_n (q := 21) cx d_Parts_relink_20 rfl rfl 0 rfl ?_
        refine oz_get (q := 24) cx 56 5 (by decide) (ci := 7) rfl rfl tin_Parts (by decide) rfl rfl tw_211 d_Parts_relink_21 rfl ?_
        refine oz_iload_n (q := 25) cx d_Parts_relink_24 rfl rfl 1 rfl ?_
        refine oz_iald (q := 26) cx 60 14 (by decide) rfl d_Parts_relink_25 rfl (fun j2 hj2 => ?_)
        refine oz_istore (q := 28) cx d_Parts_relink_26 rfl (by rw [hnL]; decide) (lv2 := [(4, .int (s1.2.2.1 60 j2)), (0, .ref (oz_b G + 56)), (2, .int s1.1), (3, .int s1.2.1)]) rfl ?_
        refine oz_aload_n (q := 29) cx d_Parts_relink_28 rfl rfl 1 rfl ?_
        refine oz_get (q := 32) cx 56 3 (by decide) (ci := 7) rfl rfl tin_Parts (by decide) rfl rfl tw_209 d_Parts_relink_29 rfl ?_
        refine oz_iload (q := 34) cx d_Parts_relink_32 rfl 0 rfl ?_
        refine oz_iald (q := 35) cx 58 14 (by decide) rfl d_Parts_relink_34 rfl (fun j3 hj3 => ?_)
        refine oz_istore (q := 37) cx d_Parts_relink_35 rfl (by rw [hnL]; decide) (lv2 := [(5, .int (s1.2.2.1 58 j3)), (4, .int (s1.2.2.1 60 j2)), (0, .ref (oz_b G + 56)), (2, .int s1.1), (3, .int s1.2.1)]) rfl ?_
        refine oz_aload_n (q := 38) cx d_Parts_relink_37 rfl rfl 2 rfl ?_
        refine oz_get (q := 41) cx 56 3 (by decide) (ci := 7) rfl rfl tin_Parts (by decide) rfl rfl tw_209 d_Parts_relink_38 rfl ?_
        refine oz_iload (q := 43) cx d_Parts_relink_41 rfl 1 rfl ?_
        refine oz_iload_n (q := 44) cx d_Parts_relink_43 rfl rfl 3 rfl ?_
        refine oz_iast (q := 45) cx 58 14 (by decide) (fun _ => rfl) d_Parts_relink_44 rfl (fun j4 hj4 => ?_)
        refine oz_nm (fun M5 hM5 => ?_)
        refine oz_aload_n (q := 46) cx d_Parts_relink_45 rfl rfl 2 rfl ?_
        refine oz_get (q := 49) cx 56 4 (by decide) (ci := 7) rfl rfl tin_Parts (by decide) rfl rfl tw_210 d_Parts_relink_46 rfl ?_
        refine oz_iload_n (q := 50) cx d_Parts_relink_49 rfl rfl 3 rfl ?_
        refine oz_iload (q := 52) cx d_Parts_relink_50 rfl 1 rfl ?_
        refine oz_iast (q := 53) cx 59 14 (by decide) (fun _ => rfl) d_Parts_relink_52 rfl (fun j6 hj6 => ?_)
        refine oz_nm (fun M7 hM7 => ?_)
        refine oz_iload (q := 55) cx d_Parts_relink_53 rfl 0 rfl ?_
        refine oz_istore_n (q := 56) cx d_Parts_relink_55 rfl rfl (by rw [hnL]; decide) (lv2 := [(2, .int (s1.2.2.1 58 j3)), (5, .int (s1.2.2.1 58 j3)), (4, .int (s1.2.2.1 60 j2)), (0, .ref (oz_b G + 56)), (3, .int s1.2.1)]) rfl ?_
        refine oz_iinc (q := 59) cx (s1.2.1 + 1) d_Parts_relink_56 rfl 4 rfl rfl (by rw [hnL]; decide) (lv2 := [(3, .int (s1.2.1 + 1)), (2, .int (s1.2.2.1 58 j3)), (5, .int (s1.2.2.1 58 j3)), (4, .int (s1.2.2.1 60 j2)), (0, .ref (oz_b G + 56))]) rfl ?_
        refine oz_goto cx d_Parts_relink_59 rfl ?_
        exact oz_lv [4, 1, 0] rfl (oz_leaf (fun h => h))
  · exact oz_vret cx hR d_Parts_relink_62
def y_Hall_at : MethodName := ⟨"OrderHall", "at", "(I)I"⟩
theorem d_Hall_at_0 : decode prog_1_method_17_code 0 = .ok (.aload_n 0, 1) := by decide +kernel
theorem d_Hall_at_1 : decode prog_1_method_17_code 1 = .ok (.getfield 49, 3) := by decide +kernel
theorem d_Hall_at_4 : decode prog_1_method_17_code 4 = .ok (.getfield 175, 3) := by decide +kernel
theorem d_Hall_at_7 : decode prog_1_method_17_code 7 = .ok (.ifCond .eq 30, 3) := by decide +kernel
theorem d_Hall_at_10 : decode prog_1_method_17_code 10 = .ok (.iload_n 1, 1) := by decide +kernel
theorem d_Hall_at_11 : decode prog_1_method_17_code 11 = .ok (.ifCond .lt 26, 3) := by decide +kernel
theorem d_Hall_at_14 : decode prog_1_method_17_code 14 = .ok (.iload_n 1, 1) := by decide +kernel
theorem d_Hall_at_15 : decode prog_1_method_17_code 15 = .ok (.aload_n 0, 1) := by decide +kernel
theorem d_Hall_at_16 : decode prog_1_method_17_code 16 = .ok (.getfield 26, 3) := by decide +kernel
theorem d_Hall_at_19 : decode prog_1_method_17_code 19 = .ok (.getfield 106, 3) := by decide +kernel
theorem d_Hall_at_22 : decode prog_1_method_17_code 22 = .ok (.if_icmp .ge 15, 3) := by decide +kernel
theorem d_Hall_at_25 : decode prog_1_method_17_code 25 = .ok (.aload_n 0, 1) := by decide +kernel
theorem d_Hall_at_26 : decode prog_1_method_17_code 26 = .ok (.getfield 49, 3) := by decide +kernel
theorem d_Hall_at_29 : decode prog_1_method_17_code 29 = .ok (.getfield 179, 3) := by decide +kernel
theorem d_Hall_at_32 : decode prog_1_method_17_code 32 = .ok (.iload_n 1, 1) := by decide +kernel
theorem d_Hall_at_33 : decode prog_1_method_17_code 33 = .ok (.iaload, 1) := by decide +kernel
theorem d_Hall_at_34 : decode prog_1_method_17_code 34 = .ok (.goto 4, 3) := by decide +kernel
theorem d_Hall_at_37 : decode prog_1_method_17_code 37 = .ok (.iconst (-1), 1) := by decide +kernel
theorem d_Hall_at_38 : decode prog_1_method_17_code 38 = .ok (.ireturn, 1) := by decide +kernel
def f_Hall_at (a0 : Int32) (M : oz_M) : Option (Int32) := if (M.1 53 1) = 0 then (some (-1)) else (if a0 < 0 then (some (-1)) else (if a0 < (M.1 6 0) then ((oz_in a0 14).bind fun j1 => some (M.1 54 j1)) else (some (-1))))
set_option maxRecDepth 20000 in
set_option maxHeartbeats 4000000 in
theorem c_Hall_at {l : Launch} {D : va_G} {cs : Nat → ClassId} {b : Nat} {a0 : Int32} {M : oz_M} {vz : Int32} (hF : f_Hall_at a0 M = some vz) : oz_Met l D cs b y_Hall_at prog_1_method_17_code 2 (some .int) (oz_rm 0) [.ref (b + 0), .int a0] M (some (.int vz)) M := by
  refine oz_enter (by decide) (Nat.le_of_ble_eq_true rfl) (fun G cx hR e1 hRm e2 e3 e4 hnL => ?_)
  subst e1; subst e2; subst e3; subst e4
  refine (?_ : oz_R G 0 [(0, .ref (oz_b G + 0)), (1, .int a0)] [] M (f_Hall_at a0 M) (fun x => x = vz)) _ hF rfl
  unfold f_Hall_at
  refine oz_aload_n (q := 1) cx d_Hall_at_0 rfl rfl 0 rfl ?_
  refine oz_get (q := 4) cx 0 5 (by decide) (ci := 0) rfl rfl tin_Hall (by decide) rfl rfl tw_233 d_Hall_at_1 rfl ?_
  refine oz_get (q := 7) cx 53 1 (by decide) (ci := 6) rfl rfl tin_Line (by decide) rfl rfl tw_183 d_Hall_at_4 rfl ?_
  refine oz_if_eq (q := 10) cx d_Hall_at_7 rfl rfl (fun h4 => ?_) (fun h4 => ?_)
  · refine oz_iconst (q := 38) cx d_Hall_at_37 rfl (v := (-1)) rfl ?_
    exact oz_iretp cx hR d_Hall_at_38
  · refine oz_iload_n (q := 11) cx d_Hall_at_10 rfl rfl 1 rfl ?_
    refine oz_if_lt (q := 14) cx d_Hall_at_11 rfl rfl (fun h3 => ?_) (fun h3 => ?_)
    · refine oz_iconst (q := 38) cx d_Hall_at_37 rfl (v := (-1)) rfl ?_
      exact oz_iretp cx hR d_Hall_at_38
    · refine oz_iload_n (q := 15) cx d_Hall_at_14 rfl rfl 1 rfl ?_
      refine oz_aload_n (q := 16) cx d_Hall_at_15 rfl rfl 0 rfl ?_
      refine oz_get (q := 19) cx 0 2 (by decide) (ci := 0) rfl rfl tin_Hall (by decide) rfl rfl tw_230 d_Hall_at_16 rfl ?_
      refine oz_get (q := 22) cx 6 0 (by decide) (ci := 3) rfl rfl tin_Order (by decide) rfl rfl tw_74 d_Hall_at_19 rfl ?_
      refine oz_icmp_ge (q := 25) cx d_Hall_at_22 rfl rfl (fun h2 => ?_) (fun h2 => ?_)
      · refine oz_iconst (q := 38) cx d_Hall_at_37 rfl (v := (-1)) rfl ?_
        exact oz_iretp cx hR d_Hall_at_38
      · refine oz_aload_n (q := 26) cx d_Hall_at_25 rfl rfl 0 rfl ?_
        refine oz_get (q := 29) cx 0 5 (by decide) (ci := 0) rfl rfl tin_Hall (by decide) rfl rfl tw_233 d_Hall_at_26 rfl ?_
        refine oz_get (q := 32) cx 53 2 (by decide) (ci := 6) rfl rfl tin_Line (by decide) rfl rfl tw_185 d_Hall_at_29 rfl ?_
        refine oz_iload_n (q := 33) cx d_Hall_at_32 rfl rfl 1 rfl ?_
        refine oz_iald (q := 34) cx 54 14 (by decide) rfl d_Hall_at_33 rfl (fun j1 hj1 => ?_)
        refine oz_goto cx d_Hall_at_34 rfl ?_
        exact oz_iretp cx hR d_Hall_at_38
def y_Hall_cycle : MethodName := ⟨"OrderHall", "cycle", "(I)I"⟩
theorem d_Hall_cycle_0 : decode prog_1_method_6_code 0 = .ok (.iload_n 1, 1) := by decide +kernel
theorem d_Hall_cycle_1 : decode prog_1_method_6_code 1 = .ok (.ifCond .lt 26, 3) := by decide +kernel
theorem d_Hall_cycle_4 : decode prog_1_method_6_code 4 = .ok (.iload_n 1, 1) := by decide +kernel
theorem d_Hall_cycle_5 : decode prog_1_method_6_code 5 = .ok (.aload_n 0, 1) := by decide +kernel
theorem d_Hall_cycle_6 : decode prog_1_method_6_code 6 = .ok (.getfield 19, 3) := by decide +kernel
theorem d_Hall_cycle_9 : decode prog_1_method_6_code 9 = .ok (.getfield 93, 3) := by decide +kernel
theorem d_Hall_cycle_12 : decode prog_1_method_6_code 12 = .ok (.if_icmp .ge 15, 3) := by decide +kernel
theorem d_Hall_cycle_15 : decode prog_1_method_6_code 15 = .ok (.aload_n 0, 1) := by decide +kernel
theorem d_Hall_cycle_16 : decode prog_1_method_6_code 16 = .ok (.getfield 19, 3) := by decide +kernel
theorem d_Hall_cycle_19 : decode prog_1_method_6_code 19 = .ok (.getfield 99, 3) := by decide +kernel
theorem d_Hall_cycle_22 : decode prog_1_method_6_code 22 = .ok (.iload_n 1, 1) := by decide +kernel
theorem d_Hall_cycle_23 : decode prog_1_method_6_code 23 = .ok (.iaload, 1) := by decide +kernel
theorem d_Hall_cycle_24 : decode prog_1_method_6_code 24 = .ok (.goto 4, 3) := by decide +kernel
theorem d_Hall_cycle_27 : decode prog_1_method_6_code 27 = .ok (.iconst (-1), 1) := by decide +kernel
theorem d_Hall_cycle_28 : decode prog_1_method_6_code 28 = .ok (.ireturn, 1) := by decide +kernel
def f_Hall_cycle (a0 : Int32) (M : oz_M) : Option (Int32) := if a0 < 0 then (some (-1)) else (if a0 < (M.1 3 0) then ((oz_in a0 14).bind fun j1 => some (M.1 4 j1)) else (some (-1)))
set_option maxRecDepth 20000 in
set_option maxHeartbeats 4000000 in
theorem c_Hall_cycle {l : Launch} {D : va_G} {cs : Nat → ClassId} {b : Nat} {a0 : Int32} {M : oz_M} {vz : Int32} (hF : f_Hall_cycle a0 M = some vz) : oz_Met l D cs b y_Hall_cycle prog_1_method_6_code 2 (some .int) (oz_rm 0) [.ref (b + 0), .int a0] M (some (.int vz)) M := by
  refine oz_enter (by decide) (Nat.le_of_ble_eq_true rfl) (fun G cx hR e1 hRm e2 e3 e4 hnL => ?_)
  subst e1; subst e2; subst e3; subst e4
  refine (?_ : oz_R G 0 [(0, .ref (oz_b G + 0)), (1, .int a0)] [] M (f_Hall_cycle a0 M) (fun x => x = vz)) _ hF rfl
  unfold f_Hall_cycle
  refine oz_iload_n (q := 1) cx d_Hall_cycle_0 rfl rfl 1 rfl ?_
  refine oz_if_lt (q := 4) cx d_Hall_cycle_1 rfl rfl (fun h3 => ?_) (fun h3 => ?_)
  · refine oz_iconst (q := 28) cx d_Hall_cycle_27 rfl (v := (-1)) rfl ?_
    exact oz_iretp cx hR d_Hall_cycle_28
  · refine oz_iload_n (q := 5) cx d_Hall_cycle_4 rfl rfl 1 rfl ?_
    refine oz_aload_n (q := 6) cx d_Hall_cycle_5 rfl rfl 0 rfl ?_
    refine oz_get (q := 9) cx 0 1 (by decide) (ci := 0) rfl rfl tin_Hall (by decide) rfl rfl tw_229 d_Hall_cycle_6 rfl ?_
    refine oz_get (q := 12) cx 3 0 (by decide) (ci := 2) rfl rfl tin_Ring (by decide) rfl rfl tw_52 d_Hall_cycle_9 rfl ?_
    refine oz_icmp_ge (q := 15) cx d_Hall_cycle_12 rfl rfl (fun h2 => ?_) (fun h2 => ?_)
    · refine oz_iconst (q := 28) cx d_Hall_cycle_27 rfl (v := (-1)) rfl ?_
      exact oz_iretp cx hR d_Hall_cycle_28
    · refine oz_aload_n (q := 16) cx d_Hall_cycle_15 rfl rfl 0 rfl ?_
      refine oz_get (q := 19) cx 0 1 (by decide) (ci := 0) rfl rfl tin_Hall (by decide) rfl rfl tw_229 d_Hall_cycle_16 rfl ?_
      refine oz_get (q := 22) cx 3 1 (by decide) (ci := 2) rfl rfl tin_Ring (by decide) rfl rfl tw_54 d_Hall_cycle_19 rfl ?_
      refine oz_iload_n (q := 23) cx d_Hall_cycle_22 rfl rfl 1 rfl ?_
      refine oz_iald (q := 24) cx 4 14 (by decide) rfl d_Hall_cycle_23 rfl (fun j1 hj1 => ?_)
      refine oz_goto cx d_Hall_cycle_24 rfl ?_
      exact oz_iretp cx hR d_Hall_cycle_28
def y_Hall_has : MethodName := ⟨"OrderHall", "has", "(II)Z"⟩
theorem d_Hall_has_0 : decode prog_1_method_31_code 0 = .ok (.iload_n 0, 1) := by decide +kernel
theorem d_Hall_has_1 : decode prog_1_method_31_code 1 = .ok (.iload_n 1, 1) := by decide +kernel
theorem d_Hall_has_2 : decode prog_1_method_31_code 2 = .ok (.ishr, 1) := by decide +kernel
theorem d_Hall_has_3 : decode prog_1_method_31_code 3 = .ok (.iconst 1, 1) := by decide +kernel
theorem d_Hall_has_4 : decode prog_1_method_31_code 4 = .ok (.iand, 1) := by decide +kernel
theorem d_Hall_has_5 : decode prog_1_method_31_code 5 = .ok (.ifCond .eq 7, 3) := by decide +kernel
theorem d_Hall_has_8 : decode prog_1_method_31_code 8 = .ok (.iconst 1, 1) := by decide +kernel
theorem d_Hall_has_9 : decode prog_1_method_31_code 9 = .ok (.goto 4, 3) := by decide +kernel
theorem d_Hall_has_12 : decode prog_1_method_31_code 12 = .ok (.iconst 0, 1) := by decide +kernel
theorem d_Hall_has_13 : decode prog_1_method_31_code 13 = .ok (.ireturn, 1) := by decide +kernel
def f_Hall_has (a0 : Int32) (a1 : Int32) (M : oz_M) : Option (Int32) := if ((a0 >>> (a1 &&& 31)) &&& 1) = 0 then (oz_z 0) else (oz_z 1)
set_option maxRecDepth 20000 in
set_option maxHeartbeats 4000000 in
theorem c_Hall_has {l : Launch} {D : va_G} {cs : Nat → ClassId} {b : Nat} {a0 : Int32} {a1 : Int32} {M : oz_M} {vz : Int32} (hF : f_Hall_has a0 a1 M = some vz) : oz_Met l D cs b y_Hall_has prog_1_method_31_code 2 (some .boolean) (oz_rm 0) [.int a0, .int a1] M (some (.int vz)) M := by
  refine oz_enter (by decide) (Nat.le_of_ble_eq_true rfl) (fun G cx hR e1 hRm e2 e3 e4 hnL => ?_)
  subst e1; subst e2; subst e3; subst e4
  refine (?_ : oz_R G 0 [(0, .int a0), (1, .int a1)] [] M (f_Hall_has a0 a1 M) (fun x => x = vz)) _ hF rfl
  unfold f_Hall_has
  refine oz_iload_n (q := 1) cx d_Hall_has_0 rfl rfl 0 rfl ?_
  refine oz_iload_n (q := 2) cx d_Hall_has_1 rfl rfl 1 rfl ?_
  refine oz_ishr (q := 3) cx d_Hall_has_2 rfl ?_
  refine oz_iconst (q := 4) cx d_Hall_has_3 rfl (v := 1) rfl ?_
  refine oz_iand (q := 5) cx d_Hall_has_4 rfl ?_
  refine oz_if_eq (q := 8) cx d_Hall_has_5 rfl rfl (fun h1 => ?_) (fun h1 => ?_)
  · refine oz_iconst (q := 13) cx d_Hall_has_12 rfl (v := 0) rfl ?_
    exact oz_zretp cx hR d_Hall_has_13
  · refine oz_iconst (q := 9) cx d_Hall_has_8 rfl (v := 1) rfl ?_
    refine oz_goto cx d_Hall_has_9 rfl ?_
    exact oz_zretp cx hR d_Hall_has_13
def y_Hall_unsettle : MethodName := ⟨"OrderHall", "unsettle", "()V"⟩
theorem d_Hall_unsettle_0 : decode prog_1_method_29_code 0 = .ok (.aload_n 0, 1) := by decide +kernel
theorem d_Hall_unsettle_1 : decode prog_1_method_29_code 1 = .ok (.iconst 0, 1) := by decide +kernel
theorem d_Hall_unsettle_2 : decode prog_1_method_29_code 2 = .ok (.putfield 222, 3) := by decide +kernel
theorem d_Hall_unsettle_5 : decode prog_1_method_29_code 5 = .ok (.aload_n 0, 1) := by decide +kernel
theorem d_Hall_unsettle_6 : decode prog_1_method_29_code 6 = .ok (.getfield 19, 3) := by decide +kernel
theorem d_Hall_unsettle_9 : decode prog_1_method_29_code 9 = .ok (.iconst 0, 1) := by decide +kernel
theorem d_Hall_unsettle_10 : decode prog_1_method_29_code 10 = .ok (.putfield 93, 3) := by decide +kernel
theorem d_Hall_unsettle_13 : decode prog_1_method_29_code 13 = .ok (.aload_n 0, 1) := by decide +kernel
theorem d_Hall_unsettle_14 : decode prog_1_method_29_code 14 = .ok (.getfield 49, 3) := by decide +kernel
theorem d_Hall_unsettle_17 : decode prog_1_method_29_code 17 = .ok (.iconst 0, 1) := by decide +kernel
theorem d_Hall_unsettle_18 : decode prog_1_method_29_code 18 = .ok (.putfield 175, 3) := by decide +kernel
theorem d_Hall_unsettle_21 : decode prog_1_method_29_code 21 = .ok (.return_, 1) := by decide +kernel
def f_Hall_unsettle (M : oz_M) : Option (Unit × oz_M) := (some (oz_s M 0 7 0)).bind fun M1 => (some (oz_s M1 3 0 0)).bind fun M2 => (some (oz_s M2 53 1 0)).bind fun M3 => some ((), M3)
set_option maxRecDepth 20000 in
set_option maxHeartbeats 4000000 in
theorem c_Hall_unsettle {l : Launch} {D : va_G} {cs : Nat → ClassId} {b : Nat} {M : oz_M} {vz : Unit} {Mz : oz_M} (hF : f_Hall_unsettle M = some (vz, Mz)) : oz_Met l D cs b y_Hall_unsettle prog_1_method_29_code 1 none (oz_rm 0) [.ref (b + 0)] M (none) Mz := by
  refine oz_enter (by decide) (Nat.le_of_ble_eq_true rfl) (fun G cx hR e1 hRm e2 e3 e4 hnL => ?_)
  subst e1; subst e2; subst e3; subst e4
  refine (?_ : oz_R G 0 [(0, .ref (oz_b G + 0))] [] M (f_Hall_unsettle  M) (fun x => x = (vz, Mz))) _ hF rfl
  unfold f_Hall_unsettle
  refine oz_aload_n (q := 1) cx d_Hall_unsettle_0 rfl rfl 0 rfl ?_
  refine oz_iconst (q := 2) cx d_Hall_unsettle_1 rfl (v := 0) rfl ?_
  refine oz_put (q := 5) cx 0 7 (by decide) (ci := 0) rfl rfl rfl tin_Hall t_Hall t_Hall_ok n_Hall (by decide) (Nat.le_of_ble_eq_true rfl) rfl tw_235 rfl rfl rfl d_Hall_unsettle_2 rfl ?_
  refine oz_nm (fun M1 hM1 => ?_)
  refine oz_aload_n (q := 6) cx d_Hall_unsettle_5 rfl rfl 0 rfl ?_
  refine oz_get (q := 9) cx 0 1 (by decide) (ci := 0) rfl rfl tin_Hall (by decide) rfl rfl tw_229 d_Hall_unsettle_6 rfl ?_
  refine oz_iconst (q := 10) cx d_Hall_unsettle_9 rfl (v := 0) rfl ?_
  refine oz_put (q := 13) cx 3 0 (by decide) (ci := 2) rfl rfl rfl tin_Ring t_Ring t_Ring_ok n_Ring (by decide) (Nat.le_of_ble_eq_true rfl) rfl tw_52 rfl rfl rfl d_Hall_unsettle_10 rfl ?_
  refine oz_nm (fun M2 hM2 => ?_)
  refine oz_aload_n (q := 14) cx d_Hall_unsettle_13 rfl rfl 0 rfl ?_
  refine oz_get (q := 17) cx 0 5 (by decide) (ci := 0) rfl rfl tin_Hall (by decide) rfl rfl tw_233 d_Hall_unsettle_14 rfl ?_
  refine oz_iconst (q := 18) cx d_Hall_unsettle_17 rfl (v := 0) rfl ?_
  refine oz_put (q := 21) cx 53 1 (by decide) (ci := 6) rfl rfl rfl tin_Line t_Line t_Line_ok n_Line (by decide) (Nat.le_of_ble_eq_true rfl) rfl tw_183 rfl rfl rfl d_Hall_unsettle_18 rfl ?_
  refine oz_nm (fun M3 hM3 => ?_)
  exact oz_vret cx hR d_Hall_unsettle_21
def y_Model_asks : MethodName := ⟨"OrderHallModel", "asks", "(II)Z"⟩
theorem d_Model_asks_0 : decode prog_10_method_33_code 0 = .ok (.aload_n 0, 1) := by decide +kernel
theorem d_Model_asks_1 : decode prog_10_method_33_code 1 = .ok (.aload_n 0, 1) := by decide +kernel
theorem d_Model_asks_2 : decode prog_10_method_33_code 2 = .ok (.getfield 53, 3) := by decide +kernel
theorem d_Model_asks_5 : decode prog_10_method_33_code 5 = .ok (.ifCond .ne 7, 3) := by decide +kernel
theorem d_Model_asks_8 : decode prog_10_method_33_code 8 = .ok (.iconst 1, 1) := by decide +kernel
theorem d_Model_asks_9 : decode prog_10_method_33_code 9 = .ok (.goto 27, 3) := by decide +kernel
theorem d_Model_asks_12 : decode prog_10_method_33_code 12 = .ok (.iload_n 1, 1) := by decide +kernel
theorem d_Model_asks_13 : decode prog_10_method_33_code 13 = .ok (.ifCond .lt 18, 3) := by decide +kernel
theorem d_Model_asks_16 : decode prog_10_method_33_code 16 = .ok (.iload_n 1, 1) := by decide +kernel
theorem d_Model_asks_17 : decode prog_10_method_33_code 17 = .ok (.iconst 1, 1) := by decide +kernel
theorem d_Model_asks_18 : decode prog_10_method_33_code 18 = .ok (.if_icmp .gt 13, 3) := by decide +kernel
theorem d_Model_asks_21 : decode prog_10_method_33_code 21 = .ok (.iload_n 2, 1) := by decide +kernel
theorem d_Model_asks_22 : decode prog_10_method_33_code 22 = .ok (.ifCond .lt 9, 3) := by decide +kernel
theorem d_Model_asks_25 : decode prog_10_method_33_code 25 = .ok (.iload_n 2, 1) := by decide +kernel
theorem d_Model_asks_26 : decode prog_10_method_33_code 26 = .ok (.bipush 14, 2) := by decide +kernel
theorem d_Model_asks_28 : decode prog_10_method_33_code 28 = .ok (.if_icmp .le 7, 3) := by decide +kernel
theorem d_Model_asks_31 : decode prog_10_method_33_code 31 = .ok (.iconst 2, 1) := by decide +kernel
theorem d_Model_asks_32 : decode prog_10_method_33_code 32 = .ok (.goto 4, 3) := by decide +kernel
theorem d_Model_asks_35 : decode prog_10_method_33_code 35 = .ok (.iconst 0, 1) := by decide +kernel
theorem d_Model_asks_36 : decode prog_10_method_33_code 36 = .ok (.putfield 50, 3) := by decide +kernel
theorem d_Model_asks_39 : decode prog_10_method_33_code 39 = .ok (.aload_n 0, 1) := by decide +kernel
theorem d_Model_asks_40 : decode prog_10_method_33_code 40 = .ok (.getfield 50, 3) := by decide +kernel
theorem d_Model_asks_43 : decode prog_10_method_33_code 43 = .ok (.ifCond .ne 7, 3) := by decide +kernel
theorem d_Model_asks_46 : decode prog_10_method_33_code 46 = .ok (.iconst 1, 1) := by decide +kernel
theorem d_Model_asks_47 : decode prog_10_method_33_code 47 = .ok (.goto 4, 3) := by decide +kernel
theorem d_Model_asks_50 : decode prog_10_method_33_code 50 = .ok (.iconst 0, 1) := by decide +kernel
theorem d_Model_asks_51 : decode prog_10_method_33_code 51 = .ok (.ireturn, 1) := by decide +kernel
def f_Model_asks (a0 : Int32) (a1 : Int32) (M : oz_M) : Option (Int32 × oz_M) := (if (M.1 62 2) = 0 then (some 1) else (if a0 < 0 then (some 2) else (if 1 < a0 then (some 2) else (if a1 < 0 then (some 2) else (if 14 < a1 then (some 2) else (some 0)))))).bind fun (z1 : Int32) => (some (oz_s M 62 0 z1)).bind fun M7 => if (M7.1 62 0) = 0 then ((oz_z 1).bind fun z => some (z, M7)) else ((oz_z 0).bind fun z => some (z, M7))
set_option maxRecDepth 20000 in
set_option maxHeartbeats 4000000 in
theorem c_Model_asks {l : Launch} {D : va_G} {cs : Nat → ClassId} {b : Nat} {a0 : Int32} {a1 : Int32} {M : oz_M} {vz : Int32} {Mz : oz_M} (hF : f_Model_asks a0 a1 M = some (vz, Mz)) : oz_Met l D cs b y_Model_asks prog_10_method_33_code 3 (some .boolean) (oz_rm 0) [.ref (b + 62), .int a0, .int a1] M (some (.int vz)) Mz := by
  refine oz_enter (by decide) (Nat.le_of_ble_eq_true rfl) (fun G cx hR e1 hRm e2 e3 e4 hnL => ?_)
  subst e1; subst e2; subst e3; subst e4
  refine (?_ : oz_R G 0 [(0, .ref (oz_b G + 62)), (1, .int a0), (2, .int a1)] [] M (f_Model_asks a0 a1 M) (fun x => x = (vz, Mz))) _ hF rfl
  unfold f_Model_asks
  refine oz_aload_n (q := 1) cx d_Model_asks_0 rfl rfl 0 rfl ?_
  refine oz_aload_n (q := 2) cx d_Model_asks_1 rfl rfl 0 rfl ?_
  refine oz_get (q := 5) cx 62 2 (by decide) (ci := 8) rfl rfl tin_Model (by decide) rfl rfl tw_788 d_Model_asks_2 rfl ?_
  refine oz_seq (p2 := 36) (lv2 := fun (z1 : Int32) => [(0, .ref (oz_b G + 62))]) (st2 := fun z1 => [.int z1, .ref (oz_b G + 62)]) (M2 := fun z1 => M) ?_ (fun z1 => ?_)
  · refine oz_if_ne (q := 8) cx d_Model_asks_5 rfl rfl (fun h6 => ?_) (fun h6 => ?_)
    · refine oz_iload_n (q := 13) cx d_Model_asks_12 rfl rfl 1 rfl ?_
      refine oz_if_lt (q := 16) cx d_Model_asks_13 rfl rfl (fun h5 => ?_) (fun h5 => ?_)
      · refine oz_iconst (q := 32) cx d_Model_asks_31 rfl (v := 2) rfl ?_
        refine oz_goto cx d_Model_asks_32 rfl ?_
        exact oz_lv [0] rfl (oz_leaf (fun h => h))
      · refine oz_iload_n (q := 17) cx d_Model_asks_16 rfl rfl 1 rfl ?_
        refine oz_iconst (q := 18) cx d_Model_asks_17 rfl (v := 1) rfl ?_
        refine oz_icmp_gt (q := 21) cx d_Model_asks_18 rfl rfl (fun h4 => ?_) (fun h4 => ?_)
        · refine oz_iconst (q := 32) cx d_Model_asks_31 rfl (v := 2) rfl ?_
          refine oz_goto cx d_Model_asks_32 rfl ?_
          exact oz_lv [0] rfl (oz_leaf (fun h => h))
        · refine oz_iload_n (q := 22) cx d_Model_asks_21 rfl rfl 2 rfl ?_
          refine oz_if_lt (q := 25) cx d_Model_asks_22 rfl rfl (fun h3 => ?_) (fun h3 => ?_)
          · refine oz_iconst (q := 32) cx d_Model_asks_31 rfl (v := 2) rfl ?_
            refine oz_goto cx d_Model_asks_32 rfl ?_
            exact oz_lv [0] rfl (oz_leaf (fun h => h))
          · refine oz_iload_n (q := 26) cx d_Model_asks_25 rfl rfl 2 rfl ?_
            refine oz_bipush (q := 28) cx d_Model_asks_26 rfl (v := 14) rfl ?_
            refine oz_icmp_le (q := 31) cx d_Model_asks_28 rfl rfl (fun h2 => ?_) (fun h2 => ?_)
            · refine oz_iconst (q := 36) cx d_Model_asks_35 rfl (v := 0) rfl ?_
              exact oz_lv [0] rfl (oz_leaf (fun h => h))
            · refine oz_iconst (q := 32) cx d_Model_asks_31 rfl (v := 2) rfl ?_
              refine oz_goto cx d_Model_asks_32 rfl ?_
              exact oz_lv [0] rfl (oz_leaf (fun h => h))
    · refine oz_iconst (q := 9) cx d_Model_asks_8 rfl (v := 1) rfl ?_
      refine oz_goto cx d_Model_asks_9 rfl ?_
      exact oz_lv [0] rfl (oz_leaf (fun h => h))
  · refine oz_put (q := 39) cx 62 0 (by decide) (ci := 8) rfl rfl rfl tin_Model t_Model t_Model_ok n_Model (by decide) (Nat.le_of_ble_eq_true rfl) rfl tw_786 rfl rfl rfl d_Model_asks_36 rfl ?_
    refine oz_nm (fun M7 hM7 => ?_)
    refine oz_aload_n (q := 40) cx d_Model_asks_39 rfl rfl 0 rfl ?_
    refine oz_get (q := 43) cx 62 0 (by decide) (ci := 8) rfl rfl tin_Model (by decide) rfl rfl tw_786 d_Model_asks_40 rfl ?_
    refine oz_if_ne (q := 46) cx d_Model_asks_43 rfl rfl (fun h8 => ?_) (fun h8 => ?_)
    · refine oz_iconst (q := 51) cx d_Model_asks_50 rfl (v := 0) rfl ?_
      exact oz_zret cx hR d_Model_asks_51
    · refine oz_iconst (q := 47) cx d_Model_asks_46 rfl (v := 1) rfl ?_
      refine oz_goto cx d_Model_asks_47 rfl ?_
      exact oz_zret cx hR d_Model_asks_51
def y_Model_at : MethodName := ⟨"OrderHallModel", "at", "(I)I"⟩
theorem d_Model_at_0 : decode prog_10_method_39_code 0 = .ok (.aload_n 0, 1) := by decide +kernel
theorem d_Model_at_1 : decode prog_10_method_39_code 1 = .ok (.iconst 0, 1) := by decide +kernel
theorem d_Model_at_2 : decode prog_10_method_39_code 2 = .ok (.putfield 50, 3) := by decide +kernel
theorem d_Model_at_5 : decode prog_10_method_39_code 5 = .ok (.aload_n 0, 1) := by decide +kernel
theorem d_Model_at_6 : decode prog_10_method_39_code 6 = .ok (.getfield 57, 3) := by decide +kernel
theorem d_Model_at_9 : decode prog_10_method_39_code 9 = .ok (.ifCond .eq 24, 3) := by decide +kernel
theorem d_Model_at_12 : decode prog_10_method_39_code 12 = .ok (.iload_n 1, 1) := by decide +kernel
theorem d_Model_at_13 : decode prog_10_method_39_code 13 = .ok (.ifCond .lt 20, 3) := by decide +kernel
theorem d_Model_at_16 : decode prog_10_method_39_code 16 = .ok (.iload_n 1, 1) := by decide +kernel
theorem d_Model_at_17 : decode prog_10_method_39_code 17 = .ok (.aload_n 0, 1) := by decide +kernel
theorem d_Model_at_18 : decode prog_10_method_39_code 18 = .ok (.getfield 7, 3) := by decide +kernel
theorem d_Model_at_21 : decode prog_10_method_39_code 21 = .ok (.if_icmp .ge 12, 3) := by decide +kernel
theorem d_Model_at_24 : decode prog_10_method_39_code 24 = .ok (.aload_n 0, 1) := by decide +kernel
theorem d_Model_at_25 : decode prog_10_method_39_code 25 = .ok (.getfield 35, 3) := by decide +kernel
theorem d_Model_at_28 : decode prog_10_method_39_code 28 = .ok (.iload_n 1, 1) := by decide +kernel
theorem d_Model_at_29 : decode prog_10_method_39_code 29 = .ok (.iaload, 1) := by decide +kernel
theorem d_Model_at_30 : decode prog_10_method_39_code 30 = .ok (.goto 4, 3) := by decide +kernel
theorem d_Model_at_33 : decode prog_10_method_39_code 33 = .ok (.iconst (-1), 1) := by decide +kernel
theorem d_Model_at_34 : decode prog_10_method_39_code 34 = .ok (.ireturn, 1) := by decide +kernel
def f_Model_at (a0 : Int32) (M : oz_M) : Option (Int32 × oz_M) := (some (oz_s M 62 0 0)).bind fun M1 => if (M1.1 62 12) = 0 then (some ((-1), M1)) else (if a0 < 0 then (some ((-1), M1)) else (if a0 < (M1.1 62 1) then ((oz_in a0 14).bind fun j2 => some (M1.1 69 j2, M1)) else (some ((-1), M1))))
set_option maxRecDepth 20000 in
set_option maxHeartbeats 4000000 in
theorem c_Model_at {l : Launch} {D : va_G} {cs : Nat → ClassId} {b : Nat} {a0 : Int32} {M : oz_M} {vz : Int32} {Mz : oz_M} (hF : f_Model_at a0 M = some (vz, Mz)) : oz_Met l D cs b y_Model_at prog_10_method_39_code 2 (some .int) (oz_rm 0) [.ref (b + 62), .int a0] M (some (.int vz)) Mz := by
  refine oz_enter (by decide) (Nat.le_of_ble_eq_true rfl) (fun G cx hR e1 hRm e2 e3 e4 hnL => ?_)
  subst e1; subst e2; subst e3; subst e4
  refine (?_ : oz_R G 0 [(0, .ref (oz_b G + 62)), (1, .int a0)] [] M (f_Model_at a0 M) (fun x => x = (vz, Mz))) _ hF rfl
  unfold f_Model_at
  refine oz_aload_n (q := 1) cx d_Model_at_0 rfl rfl 0 rfl ?_
  refine oz_iconst (q := 2) cx d_Model_at_1 rfl (v := 0) rfl ?_
  refine oz_put (q := 5) cx 62 0 (by decide) (ci := 8) rfl rfl rfl tin_Model t_Model t_Model_ok n_Model (by decide) (Nat.le_of_ble_eq_true rfl) rfl tw_786 rfl rfl rfl d_Model_at_2 rfl ?_
  refine oz_nm (fun M1 hM1 => ?_)
  refine oz_aload_n (q := 6) cx d_Model_at_5 rfl rfl 0 rfl ?_
  refine oz_get (q := 9) cx 62 12 (by decide) (ci := 8) rfl rfl tin_Model (by decide) rfl rfl tw_798 d_Model_at_6 rfl ?_
  refine oz_if_eq (q := 12) cx d_Model_at_9 rfl rfl (fun h5 => ?_) (fun h5 => ?_)
  · refine oz_iconst (q := 34) cx d_Model_at_33 rfl (v := (-1)) rfl ?_
    exact oz_iret cx hR d_Model_at_34
  · refine oz_iload_n (q := 13) cx d_Model_at_12 rfl rfl 1 rfl ?_
    refine oz_if_lt (q := 16) cx d_Model_at_13 rfl rfl (fun h4 => ?_) (fun h4 => ?_)
    · refine oz_iconst (q := 34) cx d_Model_at_33 rfl (v := (-1)) rfl ?_
      exact oz_iret cx hR d_Model_at_34
    · refine oz_iload_n (q := 17) cx d_Model_at_16 rfl rfl 1 rfl ?_
      refine oz_aload_n (q := 18) cx d_Model_at_17 rfl rfl 0 rfl ?_
      refine oz_get (q := 21) cx 62 1 (by decide) (ci := 8) rfl rfl tin_Model (by decide) rfl rfl tw_787 d_Model_at_18 rfl ?_
      refine oz_icmp_ge (q := 24) cx d_Model_at_21 rfl rfl (fun h3 => ?_) (fun h3 => ?_)
      · refine oz_iconst (q := 34) cx d_Model_at_33 rfl (v := (-1)) rfl ?_
        exact oz_iret cx hR d_Model_at_34
      · refine oz_aload_n (q := 25) cx d_Model_at_24 rfl rfl 0 rfl ?_
        refine oz_get (q := 28) cx 62 11 (by decide) (ci := 8) rfl rfl tin_Model (by decide) rfl rfl tw_797 d_Model_at_25 rfl ?_
        refine oz_iload_n (q := 29) cx d_Model_at_28 rfl rfl 1 rfl ?_
        refine oz_iald (q := 30) cx 69 14 (by decide) rfl d_Model_at_29 rfl (fun j2 hj2 => ?_)
        refine oz_goto cx d_Model_at_30 rfl ?_
        exact oz_iret cx hR d_Model_at_34
def y_Model_change : MethodName := ⟨"OrderHallModel", "change", "()V"⟩
theorem d_Model_change_0 : decode prog_10_method_4_code 0 = .ok (.aload_n 0, 1) := by decide +kernel
theorem d_Model_change_1 : decode prog_10_method_4_code 1 = .ok (.iconst 0, 1) := by decide +kernel
theorem d_Model_change_2 : decode prog_10_method_4_code 2 = .ok (.putfield 53, 3) := by decide +kernel
theorem d_Model_change_5 : decode prog_10_method_4_code 5 = .ok (.aload_n 0, 1) := by decide +kernel
theorem d_Model_change_6 : decode prog_10_method_4_code 6 = .ok (.iconst 0, 1) := by decide +kernel
theorem d_Model_change_7 : decode prog_10_method_4_code 7 = .ok (.putfield 57, 3) := by decide +kernel
theorem d_Model_change_10 : decode prog_10_method_4_code 10 = .ok (.aload_n 0, 1) := by decide +kernel
theorem d_Model_change_11 : decode prog_10_method_4_code 11 = .ok (.iconst 0, 1) := by decide +kernel
theorem d_Model_change_12 : decode prog_10_method_4_code 12 = .ok (.putfield 60, 3) := by decide +kernel
theorem d_Model_change_15 : decode prog_10_method_4_code 15 = .ok (.aload_n 0, 1) := by decide +kernel
theorem d_Model_change_16 : decode prog_10_method_4_code 16 = .ok (.iconst 0, 1) := by decide +kernel
theorem d_Model_change_17 : decode prog_10_method_4_code 17 = .ok (.putfield 63, 3) := by decide +kernel
theorem d_Model_change_20 : decode prog_10_method_4_code 20 = .ok (.return_, 1) := by decide +kernel
def f_Model_change (M : oz_M) : Option (Unit × oz_M) := (some (oz_s M 62 2 0)).bind fun M1 => (some (oz_s M1 62 12 0)).bind fun M2 => (some (oz_s M2 62 10 0)).bind fun M3 => (some (oz_s M3 62 6 0)).bind fun M4 => some ((), M4)
set_option maxRecDepth 20000 in
set_option maxHeartbeats 4000000 in
theorem c_Model_change {l : Launch} {D : va_G} {cs : Nat → ClassId} {b : Nat} {M : oz_M} {vz : Unit} {Mz : oz_M} (hF : f_Model_change M = some (vz, Mz)) : oz_Met l D cs b y_Model_change prog_10_method_4_code 1 none (oz_rm 0) [.ref (b + 62)] M (none) Mz := by
  refine oz_enter (by decide) (Nat.le_of_ble_eq_true rfl) (fun G cx hR e1 hRm e2 e3 e4 hnL => ?_)
  subst e1; subst e2; subst e3; subst e4
  refine (?_ : oz_R G 0 [(0, .ref (oz_b G + 62))] [] M (f_Model_change  M) (fun x => x = (vz, Mz))) _ hF rfl
  unfold f_Model_change
  refine oz_aload_n (q := 1) cx d_Model_change_0 rfl rfl 0 rfl ?_
  refine oz_iconst (q := 2) cx d_Model_change_1 rfl (v := 0) rfl ?_
  refine oz_put (q := 5) cx 62 2 (by decide) (ci := 8) rfl rfl rfl tin_Model t_Model t_Model_ok n_Model (by decide) (Nat.le_of_ble_eq_true rfl) rfl tw_788 rfl rfl rfl d_Model_change_2 rfl ?_
  refine oz_nm (fun M1 hM1 => ?_)
  refine oz_aload_n (q := 6) cx d_Model_change_5 rfl rfl 0 rfl ?_
  refine oz_iconst (q := 7) cx d_Model_change_6 rfl (v := 0) rfl ?_
  refine oz_put (q := 10) cx 62 12 (by decide) (ci := 8) rfl rfl rfl tin_Model t_Model t_Model_ok n_Model (by decide) (Nat.le_of_ble_eq_true rfl) rfl tw_798 rfl rfl rfl d_Model_change_7 rfl ?_
  refine oz_nm (fun M2 hM2 => ?_)
  refine oz_aload_n (q := 11) cx d_Model_change_10 rfl rfl 0 rfl ?_
  refine oz_iconst (q := 12) cx d_Model_change_11 rfl (v := 0) rfl ?_
  refine oz_put (q := 15) cx 62 10 (by decide) (ci := 8) rfl rfl rfl tin_Model t_Model t_Model_ok n_Model (by decide) (Nat.le_of_ble_eq_true rfl) rfl tw_796 rfl rfl rfl d_Model_change_12 rfl ?_
  refine oz_nm (fun M3 hM3 => ?_)
  refine oz_aload_n (q := 16) cx d_Model_change_15 rfl rfl 0 rfl ?_
  refine oz_iconst (q := 17) cx d_Model_change_16 rfl (v := 0) rfl ?_
  refine oz_put (q := 20) cx 62 6 (by decide) (ci := 8) rfl rfl rfl tin_Model t_Model t_Model_ok n_Model (by decide) (Nat.le_of_ble_eq_true rfl) rfl tw_792 rfl rfl rfl d_Model_change_17 rfl ?_
  refine oz_nm (fun M4 hM4 => ?_)
  exact oz_vret cx hR d_Model_change_20
def y_Model_check : MethodName := ⟨"OrderHallModel", "check", "()I"⟩
theorem d_Model_check_0 : decode prog_10_method_51_code 0 = .ok (.aload_n 0, 1) := by decide +kernel
theorem d_Model_check_1 : decode prog_10_method_51_code 1 = .ok (.aload_n 0, 1) := by decide +kernel
theorem d_Model_check_2 : decode prog_10_method_51_code 2 = .ok (.getfield 53, 3) := by decide +kernel
theorem d_Model_check_5 : decode prog_10_method_51_code 5 = .ok (.ifCond .eq 7, 3) := by decide +kernel
theorem d_Model_check_8 : decode prog_10_method_51_code 8 = .ok (.iconst 0, 1) := by decide +kernel
theorem d_Model_check_9 : decode prog_10_method_51_code 9 = .ok (.goto 4, 3) := by decide +kernel
theorem d_Model_check_12 : decode prog_10_method_51_code 12 = .ok (.iconst 1, 1) := by decide +kernel
theorem d_Model_check_13 : decode prog_10_method_51_code 13 = .ok (.putfield 50, 3) := by decide +kernel
theorem d_Model_check_16 : decode prog_10_method_51_code 16 = .ok (.aload_n 0, 1) := by decide +kernel
theorem d_Model_check_17 : decode prog_10_method_51_code 17 = .ok (.getfield 50, 3) := by decide +kernel
theorem d_Model_check_20 : decode prog_10_method_51_code 20 = .ok (.ifCond .le 7, 3) := by decide +kernel
theorem d_Model_check_23 : decode prog_10_method_51_code 23 = .ok (.iconst 0, 1) := by decide +kernel
theorem d_Model_check_24 : decode prog_10_method_51_code 24 = .ok (.goto 4, 3) := by decide +kernel
theorem d_Model_check_27 : decode prog_10_method_51_code 27 = .ok (.iconst 1, 1) := by decide +kernel
theorem d_Model_check_28 : decode prog_10_method_51_code 28 = .ok (.ireturn, 1) := by decide +kernel
def f_Model_check (M : oz_M) : Option (Int32 × oz_M) := (if (M.1 62 2) = 0 then (some 1) else (some 0)).bind fun (z1 : Int32) => (some (oz_s M 62 0 z1)).bind fun M3 => if 0 < (M3.1 62 0) then (some (0, M3)) else (some (1, M3))
set_option maxRecDepth 20000 in
set_option maxHeartbeats 4000000 in
theorem c_Model_check {l : Launch} {D : va_G} {cs : Nat → ClassId} {b : Nat} {M : oz_M} {vz : Int32} {Mz : oz_M} (hF : f_Model_check M = some (vz, Mz)) : oz_Met l D cs b y_Model_check prog_10_method_51_code 1 (some .int) (oz_rm 0) [.ref (b + 62)] M (some (.int vz)) Mz := by
  refine oz_enter (by decide) (Nat.le_of_ble_eq_true rfl) (fun G cx hR e1 hRm e2 e3 e4 hnL => ?_)
  subst e1; subst e2; subst e3; subst e4
  refine (?_ : oz_R G 0 [(0, .ref (oz_b G + 62))] [] M (f_Model_check  M) (fun x => x = (vz, Mz))) _ hF rfl
  unfold f_Model_check
  refine oz_aload_n (q := 1) cx d_Model_check_0 rfl rfl 0 rfl ?_
  refine oz_aload_n (q := 2) cx d_Model_check_1 rfl rfl 0 rfl ?_
  refine oz_get (q := 5) cx 62 2 (by decide) (ci := 8) rfl rfl tin_Model (by decide) rfl rfl tw_788 d_Model_check_2 rfl ?_
  refine oz_seq (p2 := 13) (lv2 := fun (z1 : Int32) => [(0, .ref (oz_b G + 62))]) (st2 := fun z1 => [.int z1, .ref (oz_b G + 62)]) (M2 := fun z1 => M) ?_ (fun z1 => ?_)
  · refine oz_if_eq (q := 8) cx d_Model_check_5 rfl rfl (fun h2 => ?_) (fun h2 => ?_)
    · refine oz_iconst (q := 13) cx d_Model_check_12 rfl (v := 1) rfl ?_
      exact oz_lv [0] rfl (oz_leaf (fun h => h))
    · refine oz_iconst (q := 9) cx d_Model_check_8 rfl (v := 0) rfl ?_
      refine oz_goto cx d_Model_check_9 rfl ?_
      exact oz_lv [0] rfl (oz_leaf (fun h => h))
  · refine oz_put (q := 16) cx 62 0 (by decide) (ci := 8) rfl rfl rfl tin_Model t_Model t_Model_ok n_Model (by decide) (Nat.le_of_ble_eq_true rfl) rfl tw_786 rfl rfl rfl d_Model_check_13 rfl ?_
    refine oz_nm (fun M3 hM3 => ?_)
    refine oz_aload_n (q := 17) cx d_Model_check_16 rfl rfl 0 rfl ?_
    refine oz_get (q := 20) cx 62 0 (by decide) (ci := 8) rfl rfl tin_Model (by decide) rfl rfl tw_786 d_Model_check_17 rfl ?_
    refine oz_if_le (q := 23) cx d_Model_check_20 rfl rfl (fun h4 => ?_) (fun h4 => ?_)
    · refine oz_iconst (q := 28) cx d_Model_check_27 rfl (v := 1) rfl ?_
      exact oz_iret cx hR d_Model_check_28
    · refine oz_iconst (q := 24) cx d_Model_check_23 rfl (v := 0) rfl ?_
      refine oz_goto cx d_Model_check_24 rfl ?_
      exact oz_iret cx hR d_Model_check_28
def y_Model_cycle : MethodName := ⟨"OrderHallModel", "cycle", "(I)I"⟩
theorem d_Model_cycle_0 : decode prog_10_method_16_code 0 = .ok (.aload_n 0, 1) := by decide +kernel
theorem d_Model_cycle_1 : decode prog_10_method_16_code 1 = .ok (.iconst 0, 1) := by decide +kernel
theorem d_Model_cycle_2 : decode prog_10_method_16_code 2 = .ok (.putfield 50, 3) := by decide +kernel
theorem d_Model_cycle_5 : decode prog_10_method_16_code 5 = .ok (.iload_n 1, 1) := by decide +kernel
theorem d_Model_cycle_6 : decode prog_10_method_16_code 6 = .ok (.ifCond .lt 20, 3) := by decide +kernel
theorem d_Model_cycle_9 : decode prog_10_method_16_code 9 = .ok (.iload_n 1, 1) := by decide +kernel
theorem d_Model_cycle_10 : decode prog_10_method_16_code 10 = .ok (.aload_n 0, 1) := by decide +kernel
theorem d_Model_cycle_11 : decode prog_10_method_16_code 11 = .ok (.getfield 63, 3) := by decide +kernel
theorem d_Model_cycle_14 : decode prog_10_method_16_code 14 = .ok (.if_icmp .ge 12, 3) := by decide +kernel
theorem d_Model_cycle_17 : decode prog_10_method_16_code 17 = .ok (.aload_n 0, 1) := by decide +kernel
theorem d_Model_cycle_18 : decode prog_10_method_16_code 18 = .ok (.getfield 20, 3) := by decide +kernel
theorem d_Model_cycle_21 : decode prog_10_method_16_code 21 = .ok (.iload_n 1, 1) := by decide +kernel
theorem d_Model_cycle_22 : decode prog_10_method_16_code 22 = .ok (.iaload, 1) := by decide +kernel
theorem d_Model_cycle_23 : decode prog_10_method_16_code 23 = .ok (.goto 4, 3) := by decide +kernel
theorem d_Model_cycle_26 : decode prog_10_method_16_code 26 = .ok (.iconst (-1), 1) := by decide +kernel
theorem d_Model_cycle_27 : decode prog_10_method_16_code 27 = .ok (.ireturn, 1) := by decide +kernel
def f_Model_cycle (a0 : Int32) (M : oz_M) : Option (Int32 × oz_M) := (some (oz_s M 62 0 0)).bind fun M1 => if a0 < 0 then (some ((-1), M1)) else (if a0 < (M1.1 62 6) then ((oz_in a0 14).bind fun j2 => some (M1.1 65 j2, M1)) else (some ((-1), M1)))
set_option maxRecDepth 20000 in
set_option maxHeartbeats 4000000 in
theorem c_Model_cycle {l : Launch} {D : va_G} {cs : Nat → ClassId} {b : Nat} {a0 : Int32} {M : oz_M} {vz : Int32} {Mz : oz_M} (hF : f_Model_cycle a0 M = some (vz, Mz)) : oz_Met l D cs b y_Model_cycle prog_10_method_16_code 2 (some .int) (oz_rm 0) [.ref (b + 62), .int a0] M (some (.int vz)) Mz := by
  refine oz_enter (by decide) (Nat.le_of_ble_eq_true rfl) (fun G cx hR e1 hRm e2 e3 e4 hnL => ?_)
  subst e1; subst e2; subst e3; subst e4
  refine (?_ : oz_R G 0 [(0, .ref (oz_b G + 62)), (1, .int a0)] [] M (f_Model_cycle a0 M) (fun x => x = (vz, Mz))) _ hF rfl
  unfold f_Model_cycle
  refine oz_aload_n (q := 1) cx d_Model_cycle_0 rfl rfl 0 rfl ?_
  refine oz_iconst (q := 2) cx d_Model_cycle_1 rfl (v := 0) rfl ?_
  refine oz_put (q := 5) cx 62 0 (by decide) (ci := 8) rfl rfl rfl tin_Model t_Model t_Model_ok n_Model (by decide) (Nat.le_of_ble_eq_true rfl) rfl tw_786 rfl rfl rfl d_Model_cycle_2 rfl ?_
  refine oz_nm (fun M1 hM1 => ?_)
  refine oz_iload_n (q := 6) cx d_Model_cycle_5 rfl rfl 1 rfl ?_
  refine oz_if_lt (q := 9) cx d_Model_cycle_6 rfl rfl (fun h4 => ?_) (fun h4 => ?_)
  · refine oz_iconst (q := 27) cx d_Model_cycle_26 rfl (v := (-1)) rfl ?_
    exact oz_iret cx hR d_Model_cycle_27
  · refine oz_iload_n (q := 10) cx d_Model_cycle_9 rfl rfl 1 rfl ?_
    refine oz_aload_n (q := 11) cx d_Model_cycle_10 rfl rfl 0 rfl ?_
    refine oz_get (q := 14) cx 62 6 (by decide) (ci := 8) rfl rfl tin_Model (by decide) rfl rfl tw_792 d_Model_cycle_11 rfl ?_
    refine oz_icmp_ge (q := 17) cx d_Model_cycle_14 rfl rfl (fun h3 => ?_) (fun h3 => ?_)
    · refine oz_iconst (q := 27) cx d_Model_cycle_26 rfl (v := (-1)) rfl ?_
      exact oz_iret cx hR d_Model_cycle_27
    · refine oz_aload_n (q := 18) cx d_Model_cycle_17 rfl rfl 0 rfl ?_
      refine oz_get (q := 21) cx 62 5 (by decide) (ci := 8) rfl rfl tin_Model (by decide) rfl rfl tw_791 d_Model_cycle_18 rfl ?_
      refine oz_iload_n (q := 22) cx d_Model_cycle_21 rfl rfl 1 rfl ?_
      refine oz_iald (q := 23) cx 65 14 (by decide) rfl d_Model_cycle_22 rfl (fun j2 hj2 => ?_)
      refine oz_goto cx d_Model_cycle_23 rfl ?_
      exact oz_iret cx hR d_Model_cycle_27
def y_Model_has : MethodName := ⟨"OrderHallModel", "has", "(II)Z"⟩
theorem d_Model_has_0 : decode prog_10_method_20_code 0 = .ok (.iload_n 0, 1) := by decide +kernel
theorem d_Model_has_1 : decode prog_10_method_20_code 1 = .ok (.iload_n 1, 1) := by decide +kernel
theorem d_Model_has_2 : decode prog_10_method_20_code 2 = .ok (.ishr, 1) := by decide +kernel
theorem d_Model_has_3 : decode prog_10_method_20_code 3 = .ok (.iconst 1, 1) := by decide +kernel
theorem d_Model_has_4 : decode prog_10_method_20_code 4 = .ok (.iand, 1) := by decide +kernel
theorem d_Model_has_5 : decode prog_10_method_20_code 5 = .ok (.iconst 1, 1) := by decide +kernel
theorem d_Model_has_6 : decode prog_10_method_20_code 6 = .ok (.if_icmp .ne 7, 3) := by decide +kernel
theorem d_Model_has_9 : decode prog_10_method_20_code 9 = .ok (.iconst 1, 1) := by decide +kernel
theorem d_Model_has_10 : decode prog_10_method_20_code 10 = .ok (.goto 4, 3) := by decide +kernel
theorem d_Model_has_13 : decode prog_10_method_20_code 13 = .ok (.iconst 0, 1) := by decide +kernel
theorem d_Model_has_14 : decode prog_10_method_20_code 14 = .ok (.ireturn, 1) := by decide +kernel
def f_Model_has (a0 : Int32) (a1 : Int32) (M : oz_M) : Option (Int32) := if ((a0 >>> (a1 &&& 31)) &&& 1) = 1 then (oz_z 1) else (oz_z 0)
set_option maxRecDepth 20000 in
set_option maxHeartbeats 4000000 in
theorem c_Model_has {l : Launch} {D : va_G} {cs : Nat → ClassId} {b : Nat} {a0 : Int32} {a1 : Int32} {M : oz_M} {vz : Int32} (hF : f_Model_has a0 a1 M = some vz) : oz_Met l D cs b y_Model_has prog_10_method_20_code 2 (some .boolean) (oz_rm 0) [.int a0, .int a1] M (some (.int vz)) M := by
  refine oz_enter (by decide) (Nat.le_of_ble_eq_true rfl) (fun G cx hR e1 hRm e2 e3 e4 hnL => ?_)
  subst e1; subst e2; subst e3; subst e4
  refine (?_ : oz_R G 0 [(0, .int a0), (1, .int a1)] [] M (f_Model_has a0 a1 M) (fun x => x = vz)) _ hF rfl
  unfold f_Model_has
  refine oz_iload_n (q := 1) cx d_Model_has_0 rfl rfl 0 rfl ?_
  refine oz_iload_n (q := 2) cx d_Model_has_1 rfl rfl 1 rfl ?_
  refine oz_ishr (q := 3) cx d_Model_has_2 rfl ?_
  refine oz_iconst (q := 4) cx d_Model_has_3 rfl (v := 1) rfl ?_
  refine oz_iand (q := 5) cx d_Model_has_4 rfl ?_
  refine oz_iconst (q := 6) cx d_Model_has_5 rfl (v := 1) rfl ?_
  refine oz_icmp_ne (q := 9) cx d_Model_has_6 rfl rfl (fun h1 => ?_) (fun h1 => ?_)
  · refine oz_iconst (q := 14) cx d_Model_has_13 rfl (v := 0) rfl ?_
    exact oz_zretp cx hR d_Model_has_14
  · refine oz_iconst (q := 10) cx d_Model_has_9 rfl (v := 1) rfl ?_
    refine oz_goto cx d_Model_has_10 rfl ?_
    exact oz_zretp cx hR d_Model_has_14
def y_Model_isArc : MethodName := ⟨"OrderHallModel", "isArc", "(II)Z"⟩
theorem d_Model_isArc_0 : decode prog_10_method_9_code 0 = .ok (.aload_n 0, 1) := by decide +kernel
theorem d_Model_isArc_1 : decode prog_10_method_9_code 1 = .ok (.getfield 13, 3) := by decide +kernel
theorem d_Model_isArc_4 : decode prog_10_method_9_code 4 = .ok (.bipush 14, 2) := by decide +kernel
theorem d_Model_isArc_6 : decode prog_10_method_9_code 6 = .ok (.iload_n 1, 1) := by decide +kernel
theorem d_Model_isArc_7 : decode prog_10_method_9_code 7 = .ok (.imul, 1) := by decide +kernel
theorem d_Model_isArc_8 : decode prog_10_method_9_code 8 = .ok (.iload_n 2, 1) := by decide +kernel
theorem d_Model_isArc_9 : decode prog_10_method_9_code 9 = .ok (.iadd, 1) := by decide +kernel
theorem d_Model_isArc_10 : decode prog_10_method_9_code 10 = .ok (.baload, 1) := by decide +kernel
theorem d_Model_isArc_11 : decode prog_10_method_9_code 11 = .ok (.ireturn, 1) := by decide +kernel
def f_Model_isArc (a0 : Int32) (a1 : Int32) (M : oz_M) : Option (Int32) := (oz_in ((14 * a0) + a1) 196).bind fun j1 => oz_z (M.1 63 j1)
set_option maxRecDepth 20000 in
set_option maxHeartbeats 4000000 in
theorem c_Model_isArc {l : Launch} {D : va_G} {cs : Nat → ClassId} {b : Nat} {a0 : Int32} {a1 : Int32} {M : oz_M} {vz : Int32} (hF : f_Model_isArc a0 a1 M = some vz) : oz_Met l D cs b y_Model_isArc prog_10_method_9_code 3 (some .boolean) (oz_rm 0) [.ref (b + 62), .int a0, .int a1] M (some (.int vz)) M := by
  refine oz_enter (by decide) (Nat.le_of_ble_eq_true rfl) (fun G cx hR e1 hRm e2 e3 e4 hnL => ?_)
  subst e1; subst e2; subst e3; subst e4
  refine (?_ : oz_R G 0 [(0, .ref (oz_b G + 62)), (1, .int a0), (2, .int a1)] [] M (f_Model_isArc a0 a1 M) (fun x => x = vz)) _ hF rfl
  unfold f_Model_isArc
  refine oz_aload_n (q := 1) cx d_Model_isArc_0 rfl rfl 0 rfl ?_
  refine oz_get (q := 4) cx 62 3 (by decide) (ci := 8) rfl rfl tin_Model (by decide) rfl rfl tw_789 d_Model_isArc_1 rfl ?_
  refine oz_bipush (q := 6) cx d_Model_isArc_4 rfl (v := 14) rfl ?_
  refine oz_iload_n (q := 7) cx d_Model_isArc_6 rfl rfl 1 rfl ?_
  refine oz_imul (q := 8) cx d_Model_isArc_7 rfl ?_
  refine oz_iload_n (q := 9) cx d_Model_isArc_8 rfl rfl 2 rfl ?_
  refine oz_iadd (q := 10) cx d_Model_isArc_9 rfl ?_
  refine oz_zald (q := 11) cx 63 196 (by decide) rfl d_Model_isArc_10 rfl (fun j1 hj1 => ?_)
  exact oz_zretp cx hR d_Model_isArc_11
def y_Model_isElement : MethodName := ⟨"OrderHallModel", "isElement", "(I)Z"⟩
theorem d_Model_isElement_0 : decode prog_10_method_3_code 0 = .ok (.iload_n 1, 1) := by decide +kernel
theorem d_Model_isElement_1 : decode prog_10_method_3_code 1 = .ok (.ifCond .lt 15, 3) := by decide +kernel
theorem d_Model_isElement_4 : decode prog_10_method_3_code 4 = .ok (.iload_n 1, 1) := by decide +kernel
theorem d_Model_isElement_5 : decode prog_10_method_3_code 5 = .ok (.aload_n 0, 1) := by decide +kernel
theorem d_Model_isElement_6 : decode prog_10_method_3_code 6 = .ok (.getfield 7, 3) := by decide +kernel
theorem d_Model_isElement_9 : decode prog_10_method_3_code 9 = .ok (.if_icmp .ge 7, 3) := by decide +kernel
theorem d_Model_isElement_12 : decode prog_10_method_3_code 12 = .ok (.iconst 1, 1) := by decide +kernel
theorem d_Model_isElement_13 : decode prog_10_method_3_code 13 = .ok (.goto 4, 3) := by decide +kernel
theorem d_Model_isElement_16 : decode prog_10_method_3_code 16 = .ok (.iconst 0, 1) := by decide +kernel
theorem d_Model_isElement_17 : decode prog_10_method_3_code 17 = .ok (.ireturn, 1) := by decide +kernel
def f_Model_isElement (a0 : Int32) (M : oz_M) : Option (Int32) := if a0 < 0 then (oz_z 0) else (if a0 < (M.1 62 1) then (oz_z 1) else (oz_z 0))
set_option maxRecDepth 20000 in
set_option maxHeartbeats 4000000 in
theorem c_Model_isElement {l : Launch} {D : va_G} {cs : Nat → ClassId} {b : Nat} {a0 : Int32} {M : oz_M} {vz : Int32} (hF : f_Model_isElement a0 M = some vz) : oz_Met l D cs b y_Model_isElement prog_10_method_3_code 2 (some .boolean) (oz_rm 0) [.ref (b + 62), .int a0] M (some (.int vz)) M := by
  refine oz_enter (by decide) (Nat.le_of_ble_eq_true rfl) (fun G cx hR e1 hRm e2 e3 e4 hnL => ?_)
  subst e1; subst e2; subst e3; subst e4
  refine (?_ : oz_R G 0 [(0, .ref (oz_b G + 62)), (1, .int a0)] [] M (f_Model_isElement a0 M) (fun x => x = vz)) _ hF rfl
  unfold f_Model_isElement
  refine oz_iload_n (q := 1) cx d_Model_isElement_0 rfl rfl 1 rfl ?_
  refine oz_if_lt (q := 4) cx d_Model_isElement_1 rfl rfl (fun h2 => ?_) (fun h2 => ?_)
  · refine oz_iconst (q := 17) cx d_Model_isElement_16 rfl (v := 0) rfl ?_
    exact oz_zretp cx hR d_Model_isElement_17
  · refine oz_iload_n (q := 5) cx d_Model_isElement_4 rfl rfl 1 rfl ?_
    refine oz_aload_n (q := 6) cx d_Model_isElement_5 rfl rfl 0 rfl ?_
    refine oz_get (q := 9) cx 62 1 (by decide) (ci := 8) rfl rfl tin_Model (by decide) rfl rfl tw_787 d_Model_isElement_6 rfl ?_
    refine oz_icmp_ge (q := 12) cx d_Model_isElement_9 rfl rfl (fun h1 => ?_) (fun h1 => ?_)
    · refine oz_iconst (q := 17) cx d_Model_isElement_16 rfl (v := 0) rfl ?_
      exact oz_zretp cx hR d_Model_isElement_17
    · refine oz_iconst (q := 13) cx d_Model_isElement_12 rfl (v := 1) rfl ?_
      refine oz_goto cx d_Model_isElement_13 rfl ?_
      exact oz_zretp cx hR d_Model_isElement_17
def y_Model_isHeld : MethodName := ⟨"OrderHallModel", "isHeld", "(III)Z"⟩
theorem d_Model_isHeld_0 : decode prog_10_method_31_code 0 = .ok (.iload_n 1, 1) := by decide +kernel
theorem d_Model_isHeld_1 : decode prog_10_method_31_code 1 = .ok (.ifCond .ne 12, 3) := by decide +kernel
theorem d_Model_isHeld_4 : decode prog_10_method_31_code 4 = .ok (.aload_n 0, 1) := by decide +kernel
theorem d_Model_isHeld_5 : decode prog_10_method_31_code 5 = .ok (.getfield 28, 3) := by decide +kernel
theorem d_Model_isHeld_8 : decode prog_10_method_31_code 8 = .ok (.iload_n 3, 1) := by decide +kernel
theorem d_Model_isHeld_9 : decode prog_10_method_31_code 9 = .ok (.baload, 1) := by decide +kernel
theorem d_Model_isHeld_10 : decode prog_10_method_31_code 10 = .ok (.goto 9, 3) := by decide +kernel
theorem d_Model_isHeld_13 : decode prog_10_method_31_code 13 = .ok (.aload_n 0, 1) := by decide +kernel
theorem d_Model_isHeld_14 : decode prog_10_method_31_code 14 = .ok (.getfield 24, 3) := by decide +kernel
theorem d_Model_isHeld_17 : decode prog_10_method_31_code 17 = .ok (.iload_n 3, 1) := by decide +kernel
theorem d_Model_isHeld_18 : decode prog_10_method_31_code 18 = .ok (.baload, 1) := by decide +kernel
theorem d_Model_isHeld_19 : decode prog_10_method_31_code 19 = .ok (.iload_n 2, 1) := by decide +kernel
theorem d_Model_isHeld_20 : decode prog_10_method_31_code 20 = .ok (.if_icmp .gt 7, 3) := by decide +kernel
theorem d_Model_isHeld_23 : decode prog_10_method_31_code 23 = .ok (.iconst 1, 1) := by decide +kernel
theorem d_Model_isHeld_24 : decode prog_10_method_31_code 24 = .ok (.goto 4, 3) := by decide +kernel
theorem d_Model_isHeld_27 : decode prog_10_method_31_code 27 = .ok (.iconst 0, 1) := by decide +kernel
theorem d_Model_isHeld_28 : decode prog_10_method_31_code 28 = .ok (.ireturn, 1) := by decide +kernel
def f_Model_isHeld (a0 : Int32) (a1 : Int32) (a2 : Int32) (M : oz_M) : Option (Int32) := (if a0 = 0 then ((oz_in a2 16384).bind fun j3 => some (M.1 67 j3)) else ((oz_in a2 16384).bind fun j2 => some (M.1 66 j2))).bind fun (z1 : Int32) => if a1 < z1 then (oz_z 0) else (oz_z 1)
set_option maxRecDepth 20000 in
set_option maxHeartbeats 4000000 in
theorem c_Model_isHeld {l : Launch} {D : va_G} {cs : Nat → ClassId} {b : Nat} {a0 : Int32} {a1 : Int32} {a2 : Int32} {M : oz_M} {vz : Int32} (hF : f_Model_isHeld a0 a1 a2 M = some vz) : oz_Met l D cs b y_Model_isHeld prog_10_method_31_code 4 (some .boolean) (oz_rm 0) [.ref (b + 62), .int a0, .int a1, .int a2] M (some (.int vz)) M := by
  refine oz_enter (by decide) (Nat.le_of_ble_eq_true rfl) (fun G cx hR e1 hRm e2 e3 e4 hnL => ?_)
  subst e1; subst e2; subst e3; subst e4
  refine (?_ : oz_R G 0 [(0, .ref (oz_b G + 62)), (1, .int a0), (2, .int a1), (3, .int a2)] [] M (f_Model_isHeld a0 a1 a2 M) (fun x => x = vz)) _ hF rfl
  unfold f_Model_isHeld
  refine oz_iload_n (q := 1) cx d_Model_isHeld_0 rfl rfl 1 rfl ?_
  refine oz_seq (p2 := 19) (lv2 := fun (z1 : Int32) => [(2, .int a1)]) (st2 := fun z1 => [.int z1]) (M2 := fun z1 => M) ?_ (fun z1 => ?_)
  · refine oz_if_ne (q := 4) cx d_Model_isHeld_1 rfl rfl (fun h4 => ?_) (fun h4 => ?_)
    · refine oz_aload_n (q := 14) cx d_Model_isHeld_13 rfl rfl 0 rfl ?_
      refine oz_get (q := 17) cx 62 7 (by decide) (ci := 8) rfl rfl tin_Model (by decide) rfl rfl tw_793 d_Model_isHeld_14 rfl ?_
      refine oz_iload_n (q := 18) cx d_Model_isHeld_17 rfl rfl 3 rfl ?_
      refine oz_bald (q := 19) cx 66 16384 (by decide) rfl d_Model_isHeld_18 rfl (fun j2 hj2 => ?_)
      exact oz_lv [2] rfl (oz_leaf (fun h => h))
    · refine oz_aload_n (q := 5) cx d_Model_isHeld_4 rfl rfl 0 rfl ?_
      refine oz_get (q := 8) cx 62 8 (by decide) (ci := 8) rfl rfl tin_Model (by decide) rfl rfl tw_794 d_Model_isHeld_5 rfl ?_
      refine oz_iload_n (q := 9) cx d_Model_isHeld_8 rfl rfl 3 rfl ?_
      refine oz_bald (q := 10) cx 67 16384 (by decide) rfl d_Model_isHeld_9 rfl (fun j3 hj3 => ?_)
      refine oz_goto cx d_Model_isHeld_10 rfl ?_
      exact oz_lv [2] rfl (oz_leaf (fun h => h))
  · refine oz_iload_n (q := 20) cx d_Model_isHeld_19 rfl rfl 0 rfl ?_
    refine oz_icmp_gt (q := 23) cx d_Model_isHeld_20 rfl rfl (fun h5 => ?_) (fun h5 => ?_)
    · refine oz_iconst (q := 28) cx d_Model_isHeld_27 rfl (v := 0) rfl ?_
      exact oz_zretp cx hR d_Model_isHeld_28
    · refine oz_iconst (q := 24) cx d_Model_isHeld_23 rfl (v := 1) rfl ?_
      refine oz_goto cx d_Model_isHeld_24 rfl ?_
      exact oz_zretp cx hR d_Model_isHeld_28
def y_Model_isLess : MethodName := ⟨"OrderHallModel", "isLess", "(II)Z"⟩
theorem d_Model_isLess_0 : decode prog_10_method_10_code 0 = .ok (.aload_n 0, 1) := by decide +kernel
theorem d_Model_isLess_1 : decode prog_10_method_10_code 1 = .ok (.getfield 17, 3) := by decide +kernel
theorem d_Model_isLess_4 : decode prog_10_method_10_code 4 = .ok (.bipush 14, 2) := by decide +kernel
theorem d_Model_isLess_6 : decode prog_10_method_10_code 6 = .ok (.iload_n 1, 1) := by decide +kernel
theorem d_Model_isLess_7 : decode prog_10_method_10_code 7 = .ok (.imul, 1) := by decide +kernel
theorem d_Model_isLess_8 : decode prog_10_method_10_code 8 = .ok (.iload_n 2, 1) := by decide +kernel
theorem d_Model_isLess_9 : decode prog_10_method_10_code 9 = .ok (.iadd, 1) := by decide +kernel
theorem d_Model_isLess_10 : decode prog_10_method_10_code 10 = .ok (.baload, 1) := by decide +kernel
theorem d_Model_isLess_11 : decode prog_10_method_10_code 11 = .ok (.ireturn, 1) := by decide +kernel
def f_Model_isLess (a0 : Int32) (a1 : Int32) (M : oz_M) : Option (Int32) := (oz_in ((14 * a0) + a1) 196).bind fun j1 => oz_z (M.1 64 j1)
set_option maxRecDepth 20000 in
set_option maxHeartbeats 4000000 in
theorem c_Model_isLess {l : Launch} {D : va_G} {cs : Nat → ClassId} {b : Nat} {a0 : Int32} {a1 : Int32} {M : oz_M} {vz : Int32} (hF : f_Model_isLess a0 a1 M = some vz) : oz_Met l D cs b y_Model_isLess prog_10_method_10_code 3 (some .boolean) (oz_rm 0) [.ref (b + 62), .int a0, .int a1] M (some (.int vz)) M := by
  refine oz_enter (by decide) (Nat.le_of_ble_eq_true rfl) (fun G cx hR e1 hRm e2 e3 e4 hnL => ?_)
  subst e1; subst e2; subst e3; subst e4
  refine (?_ : oz_R G 0 [(0, .ref (oz_b G + 62)), (1, .int a0), (2, .int a1)] [] M (f_Model_isLess a0 a1 M) (fun x => x = vz)) _ hF rfl
  unfold f_Model_isLess
  refine oz_aload_n (q := 1) cx d_Model_isLess_0 rfl rfl 0 rfl ?_
  refine oz_get (q := 4) cx 62 4 (by decide) (ci := 8) rfl rfl tin_Model (by decide) rfl rfl tw_790 d_Model_isLess_1 rfl ?_
  refine oz_bipush (q := 6) cx d_Model_isLess_4 rfl (v := 14) rfl ?_
  refine oz_iload_n (q := 7) cx d_Model_isLess_6 rfl rfl 1 rfl ?_
  refine oz_imul (q := 8) cx d_Model_isLess_7 rfl ?_
  refine oz_iload_n (q := 9) cx d_Model_isLess_8 rfl rfl 2 rfl ?_
  refine oz_iadd (q := 10) cx d_Model_isLess_9 rfl ?_
  refine oz_zald (q := 11) cx 64 196 (by decide) rfl d_Model_isLess_10 rfl (fun j1 hj1 => ?_)
  exact oz_zretp cx hR d_Model_isLess_11
def y_Model_thrown : MethodName := ⟨"OrderHallModel", "thrown", "()I"⟩
theorem d_Model_thrown_0 : decode prog_10_method_2_code 0 = .ok (.aload_n 0, 1) := by decide +kernel
theorem d_Model_thrown_1 : decode prog_10_method_2_code 1 = .ok (.getfield 50, 3) := by decide +kernel
theorem d_Model_thrown_4 : decode prog_10_method_2_code 4 = .ok (.ireturn, 1) := by decide +kernel
def f_Model_thrown (M : oz_M) : Option (Int32) := some (M.1 62 0)
set_option maxRecDepth 20000 in
set_option maxHeartbeats 4000000 in
theorem c_Model_thrown {l : Launch} {D : va_G} {cs : Nat → ClassId} {b : Nat} {M : oz_M} {vz : Int32} (hF : f_Model_thrown M = some vz) : oz_Met l D cs b y_Model_thrown prog_10_method_2_code 1 (some .int) (oz_rm 0) [.ref (b + 62)] M (some (.int vz)) M := by
  refine oz_enter (by decide) (Nat.le_of_ble_eq_true rfl) (fun G cx hR e1 hRm e2 e3 e4 hnL => ?_)
  subst e1; subst e2; subst e3; subst e4
  refine (?_ : oz_R G 0 [(0, .ref (oz_b G + 62))] [] M (f_Model_thrown  M) (fun x => x = vz)) _ hF rfl
  unfold f_Model_thrown
  refine oz_aload_n (q := 1) cx d_Model_thrown_0 rfl rfl 0 rfl ?_
  refine oz_get (q := 4) cx 62 0 (by decide) (ci := 8) rfl rfl tin_Model (by decide) rfl rfl tw_786 d_Model_thrown_1 rfl ?_
  exact oz_iretp cx hR d_Model_thrown_4
def y_Integer_bitCount : MethodName := ⟨"java/lang/Integer", "bitCount", "(I)I"⟩
theorem d_Integer_bitCount_0 : decode prog_15_method_49_code 0 = .ok (.iload_n 0, 1) := by decide +kernel
theorem d_Integer_bitCount_1 : decode prog_15_method_49_code 1 = .ok (.iload_n 0, 1) := by decide +kernel
theorem d_Integer_bitCount_2 : decode prog_15_method_49_code 2 = .ok (.iconst 1, 1) := by decide +kernel
theorem d_Integer_bitCount_3 : decode prog_15_method_49_code 3 = .ok (.iushr, 1) := by decide +kernel
theorem d_Integer_bitCount_4 : decode prog_15_method_49_code 4 = .ok (.ldc_w 265, 3) := by decide +kernel
theorem d_Integer_bitCount_7 : decode prog_15_method_49_code 7 = .ok (.iand, 1) := by decide +kernel
theorem d_Integer_bitCount_8 : decode prog_15_method_49_code 8 = .ok (.isub, 1) := by decide +kernel
theorem d_Integer_bitCount_9 : decode prog_15_method_49_code 9 = .ok (.istore_n 0, 1) := by decide +kernel
theorem d_Integer_bitCount_10 : decode prog_15_method_49_code 10 = .ok (.iload_n 0, 1) := by decide +kernel
theorem d_Integer_bitCount_11 : decode prog_15_method_49_code 11 = .ok (.ldc_w 266, 3) := by decide +kernel
theorem d_Integer_bitCount_14 : decode prog_15_method_49_code 14 = .ok (.iand, 1) := by decide +kernel
theorem d_Integer_bitCount_15 : decode prog_15_method_49_code 15 = .ok (.iload_n 0, 1) := by decide +kernel
theorem d_Integer_bitCount_16 : decode prog_15_method_49_code 16 = .ok (.iconst 2, 1) := by decide +kernel
theorem d_Integer_bitCount_17 : decode prog_15_method_49_code 17 = .ok (.iushr, 1) := by decide +kernel
theorem d_Integer_bitCount_18 : decode prog_15_method_49_code 18 = .ok (.ldc_w 266, 3) := by decide +kernel
theorem d_Integer_bitCount_21 : decode prog_15_method_49_code 21 = .ok (.iand, 1) := by decide +kernel
theorem d_Integer_bitCount_22 : decode prog_15_method_49_code 22 = .ok (.iadd, 1) := by decide +kernel
theorem d_Integer_bitCount_23 : decode prog_15_method_49_code 23 = .ok (.istore_n 0, 1) := by decide +kernel
theorem d_Integer_bitCount_24 : decode prog_15_method_49_code 24 = .ok (.iload_n 0, 1) := by decide +kernel
theorem d_Integer_bitCount_25 : decode prog_15_method_49_code 25 = .ok (.iload_n 0, 1) := by decide +kernel
theorem d_Integer_bitCount_26 : decode prog_15_method_49_code 26 = .ok (.iconst 4, 1) := by decide +kernel
theorem d_Integer_bitCount_27 : decode prog_15_method_49_code 27 = .ok (.iushr, 1) := by decide +kernel
theorem d_Integer_bitCount_28 : decode prog_15_method_49_code 28 = .ok (.iadd, 1) := by decide +kernel
theorem d_Integer_bitCount_29 : decode prog_15_method_49_code 29 = .ok (.ldc_w 267, 3) := by decide +kernel
theorem d_Integer_bitCount_32 : decode prog_15_method_49_code 32 = .ok (.iand, 1) := by decide +kernel
theorem d_Integer_bitCount_33 : decode prog_15_method_49_code 33 = .ok (.istore_n 0, 1) := by decide +kernel
theorem d_Integer_bitCount_34 : decode prog_15_method_49_code 34 = .ok (.iload_n 0, 1) := by decide +kernel
theorem d_Integer_bitCount_35 : decode prog_15_method_49_code 35 = .ok (.iload_n 0, 1) := by decide +kernel
theorem d_Integer_bitCount_36 : decode prog_15_method_49_code 36 = .ok (.bipush 8, 2) := by decide +kernel
theorem d_Integer_bitCount_38 : decode prog_15_method_49_code 38 = .ok (.iushr, 1) := by decide +kernel
theorem d_Integer_bitCount_39 : decode prog_15_method_49_code 39 = .ok (.iadd, 1) := by decide +kernel
theorem d_Integer_bitCount_40 : decode prog_15_method_49_code 40 = .ok (.istore_n 0, 1) := by decide +kernel
theorem d_Integer_bitCount_41 : decode prog_15_method_49_code 41 = .ok (.iload_n 0, 1) := by decide +kernel
theorem d_Integer_bitCount_42 : decode prog_15_method_49_code 42 = .ok (.iload_n 0, 1) := by decide +kernel
theorem d_Integer_bitCount_43 : decode prog_15_method_49_code 43 = .ok (.bipush 16, 2) := by decide +kernel
theorem d_Integer_bitCount_45 : decode prog_15_method_49_code 45 = .ok (.iushr, 1) := by decide +kernel
theorem d_Integer_bitCount_46 : decode prog_15_method_49_code 46 = .ok (.iadd, 1) := by decide +kernel
theorem d_Integer_bitCount_47 : decode prog_15_method_49_code 47 = .ok (.istore_n 0, 1) := by decide +kernel
theorem d_Integer_bitCount_48 : decode prog_15_method_49_code 48 = .ok (.iload_n 0, 1) := by decide +kernel
theorem d_Integer_bitCount_49 : decode prog_15_method_49_code 49 = .ok (.bipush 63, 2) := by decide +kernel
theorem d_Integer_bitCount_51 : decode prog_15_method_49_code 51 = .ok (.iand, 1) := by decide +kernel
theorem d_Integer_bitCount_52 : decode prog_15_method_49_code 52 = .ok (.ireturn, 1) := by decide +kernel
def f_Integer_bitCount (a0 : Int32) (M : oz_M) : Option (Int32) := (some (a0 - (((Int32.toUInt32 a0 >>> (Int32.toUInt32 1 &&& Int32.toUInt32 31)).toInt32) &&& 1431655765))).bind fun x1 => (some ((x1 &&& 858993459) + (((Int32.toUInt32 x1 >>> (Int32.toUInt32 2 &&& Int32.toUInt32 31)).toInt32) &&& 858993459))).bind fun x2 => (some ((x2 + ((Int32.toUInt32 x2 >>> (Int32.toUInt32 4 &&& Int32.toUInt32 31)).toInt32)) &&& 252645135)).bind fun x3 => (some (x3 + ((Int32.toUInt32 x3 >>> (Int32.toUInt32 8 &&& Int32.toUInt32 31)).toInt32))).bind fun x4 => (some (x4 + ((Int32.toUInt32 x4 >>> (Int32.toUInt32 16 &&& Int32.toUInt32 31)).toInt32))).bind fun x5 => some (x5 &&& 63)
set_option maxRecDepth 20000 in
set_option maxHeartbeats 4000000 in
theorem c_Integer_bitCount {l : Launch} {D : va_G} {cs : Nat → ClassId} {b : Nat} {a0 : Int32} {M : oz_M} {vz : Int32} (hF : f_Integer_bitCount a0 M = some vz) : oz_Met l D cs b y_Integer_bitCount prog_15_method_49_code 1 (some .int) (oz_rm 0) [.int a0] M (some (.int vz)) M := by
  refine oz_enter (by decide) (Nat.le_of_ble_eq_true rfl) (fun G cx hR e1 hRm e2 e3 e4 hnL => ?_)
  subst e1; subst e2; subst e3; subst e4
  refine (?_ : oz_R G 0 [(0, .int a0)] [] M (f_Integer_bitCount a0 M) (fun x => x = vz)) _ hF rfl
  unfold f_Integer_bitCount
  refine oz_iload_n (q := 1) cx d_Integer_bitCount_0 rfl rfl 0 rfl ?_
  refine oz_iload_n (q := 2) cx d_Integer_bitCount_1 rfl rfl 0 rfl ?_
  refine oz_iconst (q := 3) cx d_Integer_bitCount_2 rfl (v := 1) rfl ?_
  refine oz_iushr (q := 4) cx d_Integer_bitCount_3 rfl ?_
  refine oz_ldc_w (q := 7) cx (v := 1431655765) tw_311 d_Integer_bitCount_4 rfl ?_
  refine oz_iand (q := 8) cx d_Integer_bitCount_7 rfl ?_
  refine oz_isub (q := 9) cx d_Integer_bitCount_8 rfl ?_
  refine oz_istore_nN (q := 10) cx d_Integer_bitCount_9 rfl rfl (by rw [hnL]; decide) (lv2 := fun x1 => [(0, .int x1)]) (fun _ => rfl) (fun x1 hx1 => ?_)
  refine oz_iload_n (q := 11) cx d_Integer_bitCount_10 rfl rfl 0 rfl ?_
  refine oz_ldc_w (q := 14) cx (v := 858993459) tw_312 d_Integer_bitCount_11 rfl ?_
  refine oz_iand (q := 15) cx d_Integer_bitCount_14 rfl ?_
  refine oz_iload_n (q := 16) cx d_Integer_bitCount_15 rfl rfl 0 rfl ?_
  refine oz_iconst (q := 17) cx d_Integer_bitCount_16 rfl (v := 2) rfl ?_
  refine oz_iushr (q := 18) cx d_Integer_bitCount_17 rfl ?_
  refine oz_ldc_w (q := 21) cx (v := 858993459) tw_312 d_Integer_bitCount_18 rfl ?_
  refine oz_iand (q := 22) cx d_Integer_bitCount_21 rfl ?_
  refine oz_iadd (q := 23) cx d_Integer_bitCount_22 rfl ?_
  refine oz_istore_nN (q := 24) cx d_Integer_bitCount_23 rfl rfl (by rw [hnL]; decide) (lv2 := fun x2 => [(0, .int x2)]) (fun _ => rfl) (fun x2 hx2 => ?_)
  refine oz_iload_n (q := 25) cx d_Integer_bitCount_24 rfl rfl 0 rfl ?_
  refine oz_iload_n (q := 26) cx d_Integer_bitCount_25 rfl rfl 0 rfl ?_
  refine oz_iconst (q := 27) cx d_Integer_bitCount_26 rfl (v := 4) rfl ?_
  refine oz_iushr (q := 28) cx d_Integer_bitCount_27 rfl ?_
  refine oz_iadd (q := 29) cx d_Integer_bitCount_28 rfl ?_
  refine oz_ldc_w (q := 32) cx (v := 252645135) tw_313 d_Integer_bitCount_29 rfl ?_
  refine oz_iand (q := 33) cx d_Integer_bitCount_32 rfl ?_
  refine oz_istore_nN (q := 34) cx d_Integer_bitCount_33 rfl rfl (by rw [hnL]; decide) (lv2 := fun x3 => [(0, .int x3)]) (fun _ => rfl) (fun x3 hx3 => ?_)
  refine oz_iload_n (q := 35) cx d_Integer_bitCount_34 rfl rfl 0 rfl ?_
  refine oz_iload_n (q := 36) cx d_Integer_bitCount_35 rfl rfl 0 rfl ?_
  refine oz_bipush (q := 38) cx d_Integer_bitCount_36 rfl (v := 8) rfl ?_
  refine oz_iushr (q := 39) cx d_Integer_bitCount_38 rfl ?_
  refine oz_iadd (q := 40) cx d_Integer_bitCount_39 rfl ?_
  refine oz_istore_nN (q := 41) cx d_Integer_bitCount_40 rfl rfl (by rw [hnL]; decide) (lv2 := fun x4 => [(0, .int x4)]) (fun _ => rfl) (fun x4 hx4 => ?_)
  refine oz_iload_n (q := 42) cx d_Integer_bitCount_41 rfl rfl 0 rfl ?_
  refine oz_iload_n (q := 43) cx d_Integer_bitCount_42 rfl rfl 0 rfl ?_
  refine oz_bipush (q := 45) cx d_Integer_bitCount_43 rfl (v := 16) rfl ?_
  refine oz_iushr (q := 46) cx d_Integer_bitCount_45 rfl ?_
  refine oz_iadd (q := 47) cx d_Integer_bitCount_46 rfl ?_
  refine oz_istore_nN (q := 48) cx d_Integer_bitCount_47 rfl rfl (by rw [hnL]; decide) (lv2 := fun x5 => [(0, .int x5)]) (fun _ => rfl) (fun x5 hx5 => ?_)
  refine oz_iload_n (q := 49) cx d_Integer_bitCount_48 rfl rfl 0 rfl ?_
  refine oz_bipush (q := 51) cx d_Integer_bitCount_49 rfl (v := 63) rfl ?_
  refine oz_iand (q := 52) cx d_Integer_bitCount_51 rfl ?_
  exact oz_iretp cx hR d_Integer_bitCount_52
def y_Arcs_add : MethodName := ⟨"OrderHall$Arcs", "add", "(II)Z"⟩
theorem d_Arcs_add_0 : decode prog_2_method_3_code 0 = .ok (.aload_n 0, 1) := by decide +kernel
theorem d_Arcs_add_1 : decode prog_2_method_3_code 1 = .ok (.getfield 15, 3) := by decide +kernel
theorem d_Arcs_add_4 : decode prog_2_method_3_code 4 = .ok (.iload_n 1, 1) := by decide +kernel
theorem d_Arcs_add_5 : decode prog_2_method_3_code 5 = .ok (.iaload, 1) := by decide +kernel
theorem d_Arcs_add_6 : decode prog_2_method_3_code 6 = .ok (.iload_n 2, 1) := by decide +kernel
theorem d_Arcs_add_7 : decode prog_2_method_3_code 7 = .ok (.invokestatic 19, 3) := by decide +kernel
theorem d_Arcs_add_10 : decode prog_2_method_3_code 10 = .ok (.ifCond .ne 7, 3) := by decide +kernel
theorem d_Arcs_add_13 : decode prog_2_method_3_code 13 = .ok (.iconst 1, 1) := by decide +kernel
theorem d_Arcs_add_14 : decode prog_2_method_3_code 14 = .ok (.goto 4, 3) := by decide +kernel
theorem d_Arcs_add_17 : decode prog_2_method_3_code 17 = .ok (.iconst 0, 1) := by decide +kernel
theorem d_Arcs_add_18 : decode prog_2_method_3_code 18 = .ok (.istore_n 3, 1) := by decide +kernel
theorem d_Arcs_add_19 : decode prog_2_method_3_code 19 = .ok (.aload_n 0, 1) := by decide +kernel
theorem d_Arcs_add_20 : decode prog_2_method_3_code 20 = .ok (.getfield 15, 3) := by decide +kernel
theorem d_Arcs_add_23 : decode prog_2_method_3_code 23 = .ok (.iload_n 1, 1) := by decide +kernel
theorem d_Arcs_add_24 : decode prog_2_method_3_code 24 = .ok (.dup2, 1) := by decide +kernel
theorem d_Arcs_add_25 : decode prog_2_method_3_code 25 = .ok (.iaload, 1) := by decide +kernel
theorem d_Arcs_add_26 : decode prog_2_method_3_code 26 = .ok (.iconst 1, 1) := by decide +kernel
theorem d_Arcs_add_27 : decode prog_2_method_3_code 27 = .ok (.iload_n 2, 1) := by decide +kernel
theorem d_Arcs_add_28 : decode prog_2_method_3_code 28 = .ok (.ishl, 1) := by decide +kernel
theorem d_Arcs_add_29 : decode prog_2_method_3_code 29 = .ok (.ior, 1) := by decide +kernel
theorem d_Arcs_add_30 : decode prog_2_method_3_code 30 = .ok (.iastore, 1) := by decide +kernel
theorem d_Arcs_add_31 : decode prog_2_method_3_code 31 = .ok (.iload_n 3, 1) := by decide +kernel
theorem d_Arcs_add_32 : decode prog_2_method_3_code 32 = .ok (.ireturn, 1) := by decide +kernel
def f_Arcs_add (a0 : Int32) (a1 : Int32) (M : oz_M) : Option (Int32 × oz_M) := (oz_in a0 14).bind fun j1 => (f_Hall_has (M.1 2 j1) a1 M).bind fun v2 => (if v2 = 0 then (some 1) else (some 0)).bind fun (z3 : Int32) => (oz_in a0 14).bind fun j5 => (oz_in a0 14).bind fun j6 => (some (oz_s M 2 j6 ((M.1 2 j5) ||| (1 <<< (a1 &&& 31))))).bind fun M7 => (oz_z z3).bind fun z => some (z, M7)
set_option maxRecDepth 20000 in
set_option maxHeartbeats 4000000 in
theorem c_Arcs_add {l : Launch} {D : va_G} {cs : Nat → ClassId} {b : Nat} {a0 : Int32} {a1 : Int32} {M : oz_M} {vz : Int32} {Mz : oz_M} (hF : f_Arcs_add a0 a1 M = some (vz, Mz)) : oz_Met l D cs b y_Arcs_add prog_2_method_3_code 4 (some .boolean) (oz_rm 1) [.ref (b + 1), .int a0, .int a1] M (some (.int vz)) Mz := by
  refine oz_enter (by decide) (Nat.le_of_ble_eq_true rfl) (fun G cx hR e1 hRm e2 e3 e4 hnL => ?_)
  subst e1; subst e2; subst e3; subst e4
  refine (?_ : oz_R G 0 [(0, .ref (oz_b G + 1)), (1, .int a0), (2, .int a1)] [] M (f_Arcs_add a0 a1 M) (fun x => x = (vz, Mz))) _ hF rfl
  unfold f_Arcs_add
  refine oz_aload_n (q := 1) cx d_Arcs_add_0 rfl rfl 0 rfl ?_
  refine oz_get (q := 4) cx 1 1 (by decide) (ci := 1) rfl rfl tin_Arcs (by decide) rfl rfl tw_36 d_Arcs_add_1 rfl ?_
  refine oz_iload_n (q := 5) cx d_Arcs_add_4 rfl rfl 1 rfl ?_
  refine oz_iald (q := 6) cx 2 14 (by decide) rfl d_Arcs_add_5 rfl (fun j1 hj1 => ?_)
  refine oz_iload_n (q := 7) cx d_Arcs_add_6 rfl rfl 2 rfl ?_
  refine oz_cSNip (q := 10) cx [.int (M.1 2 j1), .int a1] 2 hRm (by decide) (by decide) (fun _ h => c_Hall_has h) tn_465 ⟨tw_274, tw_1⟩ tw_275 (by decide +kernel) rfl (st := []) rfl (Nat.le_of_ble_eq_true rfl) d_Arcs_add_7 rfl (fun v2 hv2 => ?_)
  refine oz_seq (p2 := 18) (lv2 := fun (z3 : Int32) => [(0, .ref (oz_b G + 1)), (1, .int a0), (2, .int a1)]) (st2 := fun z3 => [.int z3]) (M2 := fun z3 => M) ?_ (fun z3 => ?_)
  · refine oz_if_ne (q := 13) cx d_Arcs_add_10 rfl rfl (fun h4 => ?_) (fun h4 => ?_)
    · refine oz_iconst (q := 18) cx d_Arcs_add_17 rfl (v := 0) rfl ?_
      exact oz_lv [0, 1, 2] rfl (oz_leaf (fun h => h))
    · refine oz_iconst (q := 14) cx d_Arcs_add_13 rfl (v := 1) rfl ?_
      refine oz_goto cx d_Arcs_add_14 rfl ?_
      exact oz_lv [0, 1, 2] rfl (oz_leaf (fun h => h))
  · refine oz_istore_n (q := 19) cx d_Arcs_add_18 rfl rfl (by rw [hnL]; decide) (lv2 := [(3, .int z3), (0, .ref (oz_b G + 1)), (1, .int a0), (2, .int a1)]) rfl ?_
    refine oz_aload_n (q := 20) cx d_Arcs_add_19 rfl rfl 1 rfl ?_
    refine oz_get (q := 23) cx 1 1 (by decide) (ci := 1) rfl rfl tin_Arcs (by decide) rfl rfl tw_36 d_Arcs_add_20 rfl ?_
    refine oz_iload_n (q := 24) cx d_Arcs_add_23 rfl rfl 2 rfl ?_
    refine oz_dup2 (q := 25) cx d_Arcs_add_24 rfl rfl rfl ?_
    refine oz_iald (q := 26) cx 2 14 (by decide) rfl d_Arcs_add_25 rfl (fun j5 hj5 => ?_)
    refine oz_iconst (q := 27) cx d_Arcs_add_26 rfl (v := 1) rfl ?_
    refine oz_iload_n (q := 28) cx d_Arcs_add_27 rfl rfl 3 rfl ?_
    refine oz_ishl (q := 29) cx d_Arcs_add_28 rfl ?_
    refine oz_ior (q := 30) cx d_Arcs_add_29 rfl ?_
    refine oz_iast (q := 31) cx 2 14 (by decide) (fun _ => rfl) d_Arcs_add_30 rfl (fun j6 hj6 => ?_)
    refine oz_nm (fun M7 hM7 => ?_)
    refine oz_iload_n (q := 32) cx d_Arcs_add_31 rfl rfl 0 rfl ?_
    exact oz_zret cx hR d_Arcs_add_32
def y_Arcs_numberIn : MethodName := ⟨"OrderHall$Arcs", "numberIn", "(II)I"⟩
theorem d_Arcs_numberIn_0 : decode prog_2_method_8_code 0 = .ok (.iload_n 0, 1) := by decide +kernel
theorem d_Arcs_numberIn_1 : decode prog_2_method_8_code 1 = .ok (.iconst 1, 1) := by decide +kernel
theorem d_Arcs_numberIn_2 : decode prog_2_method_8_code 2 = .ok (.iload_n 1, 1) := by decide +kernel
theorem d_Arcs_numberIn_3 : decode prog_2_method_8_code 3 = .ok (.ishl, 1) := by decide +kernel
theorem d_Arcs_numberIn_4 : decode prog_2_method_8_code 4 = .ok (.iconst 1, 1) := by decide +kernel
theorem d_Arcs_numberIn_5 : decode prog_2_method_8_code 5 = .ok (.isub, 1) := by decide +kernel
theorem d_Arcs_numberIn_6 : decode prog_2_method_8_code 6 = .ok (.iand, 1) := by decide +kernel
theorem d_Arcs_numberIn_7 : decode prog_2_method_8_code 7 = .ok (.invokestatic 23, 3) := by decide +kernel
theorem d_Arcs_numberIn_10 : decode prog_2_method_8_code 10 = .ok (.ireturn, 1) := by decide +kernel
def f_Arcs_numberIn (a0 : Int32) (a1 : Int32) (M : oz_M) : Option (Int32) := (f_Integer_bitCount (a0 &&& ((1 <<< (a1 &&& 31)) - 1)) M).bind fun v1 => some v1
set_option maxRecDepth 20000 in
set_option maxHeartbeats 4000000 in
theorem c_Arcs_numberIn {l : Launch} {D : va_G} {cs : Nat → ClassId} {b : Nat} {a0 : Int32} {a1 : Int32} {M : oz_M} {vz : Int32} (hF : f_Arcs_numberIn a0 a1 M = some vz) : oz_Met l D cs b y_Arcs_numberIn prog_2_method_8_code 2 (some .int) (oz_rm 1) [.int a0, .int a1] M (some (.int vz)) M := by
  refine oz_enter (by decide) (Nat.le_of_ble_eq_true rfl) (fun G cx hR e1 hRm e2 e3 e4 hnL => ?_)
  subst e1; subst e2; subst e3; subst e4
  refine (?_ : oz_R G 0 [(0, .int a0), (1, .int a1)] [] M (f_Arcs_numberIn a0 a1 M) (fun x => x = vz)) _ hF rfl
  unfold f_Arcs_numberIn
  refine oz_iload_n (q := 1) cx d_Arcs_numberIn_0 rfl rfl 0 rfl ?_
  refine oz_iconst (q := 2) cx d_Arcs_numberIn_1 rfl (v := 1) rfl ?_
  refine oz_iload_n (q := 3) cx d_Arcs_numberIn_2 rfl rfl 1 rfl ?_
  refine oz_ishl (q := 4) cx d_Arcs_numberIn_3 rfl ?_
  refine oz_iconst (q := 5) cx d_Arcs_numberIn_4 rfl (v := 1) rfl ?_
  refine oz_isub (q := 6) cx d_Arcs_numberIn_5 rfl ?_
  refine oz_iand (q := 7) cx d_Arcs_numberIn_6 rfl ?_
  refine oz_cSip (q := 10) cx [.int (a0 &&& ((1 <<< (a1 &&& 31)) - 1))] 1 hRm (by decide) (by decide) (fun _ h => c_Integer_bitCount h) ⟨tw_718, tw_309, tw_15⟩ tw_310 (by decide +kernel) rfl (st := []) rfl (Nat.le_of_ble_eq_true rfl) d_Arcs_numberIn_7 rfl (fun v1 hv1 => ?_)
  exact oz_iretp cx hR d_Arcs_numberIn_10
def y_Arcs_remove : MethodName := ⟨"OrderHall$Arcs", "remove", "(II)Z"⟩
theorem d_Arcs_remove_0 : decode prog_2_method_4_code 0 = .ok (.aload_n 0, 1) := by decide +kernel
theorem d_Arcs_remove_1 : decode prog_2_method_4_code 1 = .ok (.getfield 15, 3) := by decide +kernel
theorem d_Arcs_remove_4 : decode prog_2_method_4_code 4 = .ok (.iload_n 1, 1) := by decide +kernel
theorem d_Arcs_remove_5 : decode prog_2_method_4_code 5 = .ok (.iaload, 1) := by decide +kernel
theorem d_Arcs_remove_6 : decode prog_2_method_4_code 6 = .ok (.iload_n 2, 1) := by decide +kernel
theorem d_Arcs_remove_7 : decode prog_2_method_4_code 7 = .ok (.invokestatic 19, 3) := by decide +kernel
theorem d_Arcs_remove_10 : decode prog_2_method_4_code 10 = .ok (.istore_n 3, 1) := by decide +kernel
theorem d_Arcs_remove_11 : decode prog_2_method_4_code 11 = .ok (.aload_n 0, 1) := by decide +kernel
theorem d_Arcs_remove_12 : decode prog_2_method_4_code 12 = .ok (.getfield 15, 3) := by decide +kernel
theorem d_Arcs_remove_15 : decode prog_2_method_4_code 15 = .ok (.iload_n 1, 1) := by decide +kernel
theorem d_Arcs_remove_16 : decode prog_2_method_4_code 16 = .ok (.dup2, 1) := by decide +kernel
theorem d_Arcs_remove_17 : decode prog_2_method_4_code 17 = .ok (.iaload, 1) := by decide +kernel
theorem d_Arcs_remove_18 : decode prog_2_method_4_code 18 = .ok (.iconst 1, 1) := by decide +kernel
theorem d_Arcs_remove_19 : decode prog_2_method_4_code 19 = .ok (.iload_n 2, 1) := by decide +kernel
theorem d_Arcs_remove_20 : decode prog_2_method_4_code 20 = .ok (.ishl, 1) := by decide +kernel
theorem d_Arcs_remove_21 : decode prog_2_method_4_code 21 = .ok (.iconst (-1), 1) := by decide +kernel
theorem d_Arcs_remove_22 : decode prog_2_method_4_code 22 = .ok (.ixor, 1) := by decide +kernel
theorem d_Arcs_remove_23 : decode prog_2_method_4_code 23 = .ok (.iand, 1) := by decide +kernel
theorem d_Arcs_remove_24 : decode prog_2_method_4_code 24 = .ok (.iastore, 1) := by decide +kernel
theorem d_Arcs_remove_25 : decode prog_2_method_4_code 25 = .ok (.iload_n 3, 1) := by decide +kernel
theorem d_Arcs_remove_26 : decode prog_2_method_4_code 26 = .ok (.ireturn, 1) := by decide +kernel
def f_Arcs_remove (a0 : Int32) (a1 : Int32) (M : oz_M) : Option (Int32 × oz_M) := (oz_in a0 14).bind fun j1 => (f_Hall_has (M.1 2 j1) a1 M).bind fun v2 => (oz_in a0 14).bind fun j3 => (oz_in a0 14).bind fun j4 => (some (oz_s M 2 j4 ((M.1 2 j3) &&& ((1 <<< (a1 &&& 31)) ^^^ (-1))))).bind fun M5 => (oz_z v2).bind fun z => some (z, M5)
set_option maxRecDepth 20000 in
set_option maxHeartbeats 4000000 in
theorem c_Arcs_remove {l : Launch} {D : va_G} {cs : Nat → ClassId} {b : Nat} {a0 : Int32} {a1 : Int32} {M : oz_M} {vz : Int32} {Mz : oz_M} (hF : f_Arcs_remove a0 a1 M = some (vz, Mz)) : oz_Met l D cs b y_Arcs_remove prog_2_method_4_code 4 (some .boolean) (oz_rm 1) [.ref (b + 1), .int a0, .int a1] M (some (.int vz)) Mz := by
  refine oz_enter (by decide) (Nat.le_of_ble_eq_true rfl) (fun G cx hR e1 hRm e2 e3 e4 hnL => ?_)
  subst e1; subst e2; subst e3; subst e4
  refine (?_ : oz_R G 0 [(0, .ref (oz_b G + 1)), (1, .int a0), (2, .int a1)] [] M (f_Arcs_remove a0 a1 M) (fun x => x = (vz, Mz))) _ hF rfl
  unfold f_Arcs_remove
  refine oz_aload_n (q := 1) cx d_Arcs_remove_0 rfl rfl 0 rfl ?_
  refine oz_get (q := 4) cx 1 1 (by decide) (ci := 1) rfl rfl tin_Arcs (by decide) rfl rfl tw_36 d_Arcs_remove_1 rfl ?_
  refine oz_iload_n (q := 5) cx d_Arcs_remove_4 rfl rfl 1 rfl ?_
  refine oz_iald (q := 6) cx 2 14 (by decide) rfl d_Arcs_remove_5 rfl (fun j1 hj1 => ?_)
  refine oz_iload_n (q := 7) cx d_Arcs_remove_6 rfl rfl 2 rfl ?_
  refine oz_cSNip (q := 10) cx [.int (M.1 2 j1), .int a1] 2 hRm (by decide) (by decide) (fun _ h => c_Hall_has h) tn_465 ⟨tw_274, tw_1⟩ tw_275 (by decide +kernel) rfl (st := []) rfl (Nat.le_of_ble_eq_true rfl) d_Arcs_remove_7 rfl (fun v2 hv2 => ?_)
  refine oz_istore_n (q := 11) cx d_Arcs_remove_10 rfl rfl (by rw [hnL]; decide) (lv2 := [(3, .int v2), (0, .ref (oz_b G + 1)), (1, .int a0), (2, .int a1)]) rfl ?_
  refine oz_aload_n (q := 12) cx d_Arcs_remove_11 rfl rfl 1 rfl ?_
  refine oz_get (q := 15) cx 1 1 (by decide) (ci := 1) rfl rfl tin_Arcs (by decide) rfl rfl tw_36 d_Arcs_remove_12 rfl ?_
  refine oz_iload_n (q := 16) cx d_Arcs_remove_15 rfl rfl 2 rfl ?_
  refine oz_dup2 (q := 17) cx d_Arcs_remove_16 rfl rfl rfl ?_
  refine oz_iald (q := 18) cx 2 14 (by decide) rfl d_Arcs_remove_17 rfl (fun j3 hj3 => ?_)
  refine oz_iconst (q := 19) cx d_Arcs_remove_18 rfl (v := 1) rfl ?_
  refine oz_iload_n (q := 20) cx d_Arcs_remove_19 rfl rfl 3 rfl ?_
  refine oz_ishl (q := 21) cx d_Arcs_remove_20 rfl ?_
  refine oz_iconst (q := 22) cx d_Arcs_remove_21 rfl (v := (-1)) rfl ?_
  refine oz_ixor (q := 23) cx d_Arcs_remove_22 rfl ?_
  refine oz_iand (q := 24) cx d_Arcs_remove_23 rfl ?_
  refine oz_iast (q := 25) cx 2 14 (by decide) (fun _ => rfl) d_Arcs_remove_24 rfl (fun j4 hj4 => ?_)
  refine oz_nm (fun M5 hM5 => ?_)
  refine oz_iload_n (q := 26) cx d_Arcs_remove_25 rfl rfl 0 rfl ?_
  exact oz_zret cx hR d_Arcs_remove_26
def y_Arcs_reverse : MethodName := ⟨"OrderHall$Arcs", "reverse", "()V"⟩
theorem d_Arcs_reverse_0 : decode prog_2_method_6_code 0 = .ok (.iconst 0, 1) := by decide +kernel
theorem d_Arcs_reverse_1 : decode prog_2_method_6_code 1 = .ok (.istore_n 1, 1) := by decide +kernel
theorem d_Arcs_reverse_2 : decode prog_2_method_6_code 2 = .ok (.iload_n 1, 1) := by decide +kernel
theorem d_Arcs_reverse_3 : decode prog_2_method_6_code 3 = .ok (.aload_n 0, 1) := by decide +kernel
theorem d_Arcs_reverse_4 : decode prog_2_method_6_code 4 = .ok (.getfield 9, 3) := by decide +kernel
theorem d_Arcs_reverse_7 : decode prog_2_method_6_code 7 = .ok (.if_icmp .ge 69, 3) := by decide +kernel
theorem d_Arcs_reverse_10 : decode prog_2_method_6_code 10 = .ok (.iconst 0, 1) := by decide +kernel
theorem d_Arcs_reverse_11 : decode prog_2_method_6_code 11 = .ok (.istore_n 2, 1) := by decide +kernel
theorem d_Arcs_reverse_12 : decode prog_2_method_6_code 12 = .ok (.iload_n 2, 1) := by decide +kernel
theorem d_Arcs_reverse_13 : decode prog_2_method_6_code 13 = .ok (.iload_n 1, 1) := by decide +kernel
theorem d_Arcs_reverse_14 : decode prog_2_method_6_code 14 = .ok (.if_icmp .ge 56, 3) := by decide +kernel
theorem d_Arcs_reverse_17 : decode prog_2_method_6_code 17 = .ok (.aload_n 0, 1) := by decide +kernel
theorem d_Arcs_reverse_18 : decode prog_2_method_6_code 18 = .ok (.getfield 15, 3) := by decide +kernel
theorem d_Arcs_reverse_21 : decode prog_2_method_6_code 21 = .ok (.iload_n 1, 1) := by decide +kernel
theorem d_Arcs_reverse_22 : decode prog_2_method_6_code 22 = .ok (.iaload, 1) := by decide +kernel
theorem d_Arcs_reverse_23 : decode prog_2_method_6_code 23 = .ok (.iload_n 2, 1) := by decide +kernel
theorem d_Arcs_reverse_24 : decode prog_2_method_6_code 24 = .ok (.invokestatic 19, 3) := by decide +kernel
theorem d_Arcs_reverse_27 : decode prog_2_method_6_code 27 = .ok (.aload_n 0, 1) := by decide +kernel
theorem d_Arcs_reverse_28 : decode prog_2_method_6_code 28 = .ok (.getfield 15, 3) := by decide +kernel
theorem d_Arcs_reverse_31 : decode prog_2_method_6_code 31 = .ok (.iload_n 2, 1) := by decide +kernel
theorem d_Arcs_reverse_32 : decode prog_2_method_6_code 32 = .ok (.iaload, 1) := by decide +kernel
theorem d_Arcs_reverse_33 : decode prog_2_method_6_code 33 = .ok (.iload_n 1, 1) := by decide +kernel
theorem d_Arcs_reverse_34 : decode prog_2_method_6_code 34 = .ok (.invokestatic 19, 3) := by decide +kernel
theorem d_Arcs_reverse_37 : decode prog_2_method_6_code 37 = .ok (.if_icmp .eq 27, 3) := by decide +kernel
theorem d_Arcs_reverse_40 : decode prog_2_method_6_code 40 = .ok (.aload_n 0, 1) := by decide +kernel
theorem d_Arcs_reverse_41 : decode prog_2_method_6_code 41 = .ok (.getfield 15, 3) := by decide +kernel
theorem d_Arcs_reverse_44 : decode prog_2_method_6_code 44 = .ok (.iload_n 1, 1) := by decide +kernel
theorem d_Arcs_reverse_45 : decode prog_2_method_6_code 45 = .ok (.dup2, 1) := by decide +kernel
theorem d_Arcs_reverse_46 : decode prog_2_method_6_code 46 = .ok (.iaload, 1) := by decide +kernel
theorem d_Arcs_reverse_47 : decode prog_2_method_6_code 47 = .ok (.iconst 1, 1) := by decide +kernel
theorem d_Arcs_reverse_48 : decode prog_2_method_6_code 48 = .ok (.iload_n 2, 1) := by decide +kernel
theorem d_Arcs_reverse_49 : decode prog_2_method_6_code 49 = .ok (.ishl, 1) := by decide +kernel
theorem d_Arcs_reverse_50 : decode prog_2_method_6_code 50 = .ok (.ixor, 1) := by decide +kernel
theorem d_Arcs_reverse_51 : decode prog_2_method_6_code 51 = .ok (.iastore, 1) := by decide +kernel
theorem d_Arcs_reverse_52 : decode prog_2_method_6_code 52 = .ok (.aload_n 0, 1) := by decide +kernel
theorem d_Arcs_reverse_53 : decode prog_2_method_6_code 53 = .ok (.getfield 15, 3) := by decide +kernel
theorem d_Arcs_reverse_56 : decode prog_2_method_6_code 56 = .ok (.iload_n 2, 1) := by decide +kernel
theorem d_Arcs_reverse_57 : decode prog_2_method_6_code 57 = .ok (.dup2, 1) := by decide +kernel
theorem d_Arcs_reverse_58 : decode prog_2_method_6_code 58 = .ok (.iaload, 1) := by decide +kernel
theorem d_Arcs_reverse_59 : decode prog_2_method_6_code 59 = .ok (.iconst 1, 1) := by decide +kernel
theorem d_Arcs_reverse_60 : decode prog_2_method_6_code 60 = .ok (.iload_n 1, 1) := by decide +kernel
theorem d_Arcs_reverse_61 : decode prog_2_method_6_code 61 = .ok (.ishl, 1) := by decide +kernel
theorem d_Arcs_reverse_62 : decode prog_2_method_6_code 62 = .ok (.ixor, 1) := by decide +kernel
theorem d_Arcs_reverse_63 : decode prog_2_method_6_code 63 = .ok (.iastore, 1) := by decide +kernel
theorem d_Arcs_reverse_64 : decode prog_2_method_6_code 64 = .ok (.iinc 2 1, 3) := by decide +kernel
theorem d_Arcs_reverse_67 : decode prog_2_method_6_code 67 = .ok (.goto (-55), 3) := by decide +kernel
theorem d_Arcs_reverse_70 : decode prog_2_method_6_code 70 = .ok (.iinc 1 1, 3) := by decide +kernel
theorem d_Arcs_reverse_73 : decode prog_2_method_6_code 73 = .ok (.goto (-71), 3) := by decide +kernel
theorem d_Arcs_reverse_76 : decode prog_2_method_6_code 76 = .ok (.return_, 1) := by decide +kernel
noncomputable def f_Arcs_reverse (M : oz_M) : Option (Unit × oz_M) := (oz_lp (fun (s1 : Int32 × oz_M) => (if s1.1 < (s1.2.1 1 0) then ((oz_lp (fun (s2 : Int32 × oz_M) => (if s2.1 < s1.1 then ((oz_in s1.1 14).bind fun j3 => (f_Hall_has (s2.2.1 2 j3) s2.1 s2.2).bind fun v4 => (oz_in s2.1 14).bind fun j5 => (f_Hall_has (s2.2.1 2 j5) s1.1 s2.2).bind fun v6 => if v4 = v6 then (some (.inl (s2.1 + 1, s2.2))) else ((oz_in s1.1 14).bind fun j7 => (oz_in s1.1 14).bind fun j8 => (some (oz_s s2.2 2 j8 ((s2.2.1 2 j7) ^^^ (1 <<< (s2.1 &&& 31))))).bind fun M9 => (oz_in s2.1 14).bind fun j10 => (oz_in s2.1 14).bind fun j11 => (some (oz_s M9 2 j11 ((M9.1 2 j10) ^^^ (1 <<< (s1.1 &&& 31))))).bind fun M12 => some (.inl (s2.1 + 1, M12)))) else (some (.inr (s2.1, s2.2))) : Option ((Int32 × oz_M) ⊕ (Int32 × oz_M)))) (0, s1.2)).bind fun (y15 : Int32 × oz_M) => some (.inl (s1.1 + 1, y15.2))) else (some (.inr (s1.1, s1.2))) : Option ((Int32 × oz_M) ⊕ (Int32 × oz_M)))) (0, M)).bind fun (y17 : Int32 × oz_M) => some ((), y17.2)
set_option maxRecDepth 20000 in
set_option maxHeartbeats 4000000 in
theorem c_Arcs_reverse {l : Launch} {D : va_G} {cs : Nat → ClassId} {b : Nat} {M : oz_M} {vz : Unit} {Mz : oz_M} (hF : f_Arcs_reverse M = some (vz, Mz)) : oz_Met l D cs b y_Arcs_reverse prog_2_method_6_code 3 none (oz_rm 1) [.ref (b + 1)] M (none) Mz := by
  refine oz_enter (by decide) (Nat.le_of_ble_eq_true rfl) (fun G cx hR e1 hRm e2 e3 e4 hnL => ?_)
  subst e1; subst e2; subst e3; subst e4
  refine (?_ : oz_R G 0 [(0, .ref (oz_b G + 1))] [] M (f_Arcs_reverse  M) (fun x => x = (vz, Mz))) _ hF rfl
  unfold f_Arcs_reverse
  refine oz_iconst (q := 1) cx d_Arcs_reverse_0 rfl (v := 0) rfl ?_
  refine oz_istore_n (q := 2) cx d_Arcs_reverse_1 rfl rfl (by rw [hnL]; decide) (lv2 := [(1, .int 0), (0, .ref (oz_b G + 1))]) rfl ?_
  refine oz_lv [1, 0] rfl ?_
  refine oz_seq (p2 := 76) (lv2 := fun (y17 : Int32 × oz_M) => []) (st2 := fun y17 => []) (M2 := fun y17 => y17.2) ?_ (fun y17 => ?_)
  · refine oz_loop (Y := Int32 × oz_M) 2 (fun (s1 : Int32 × oz_M) => [(0, .ref (oz_b G + 1)), (1, .int s1.1)]) (fun (s1 : Int32 × oz_M) => s1.2) (0, M) (fun s1 => ?_)
    refine oz_iload_n (q := 3) cx d_Arcs_reverse_2 rfl rfl 1 rfl ?_
    refine oz_aload_n (q := 4) cx d_Arcs_reverse_3 rfl rfl 0 rfl ?_
    refine oz_get (q := 7) cx 1 0 (by decide) (ci := 1) rfl rfl tin_Arcs (by decide) rfl rfl tw_32 d_Arcs_reverse_4 rfl ?_
    refine oz_icmp_ge (q := 10) cx d_Arcs_reverse_7 rfl rfl (fun h16 => ?_) (fun h16 => ?_)
    · exact oz_lv [] rfl (oz_leaf (fun h => h))
    · refine oz_iconst (q := 11) cx d_Arcs_reverse_10 rfl (v := 0) rfl ?_
      refine oz_istore_n (q := 12) cx d_Arcs_reverse_11 rfl rfl (by rw [hnL]; decide) (lv2 := [(2, .int 0), (0, .ref (oz_b G + 1)), (1, .int s1.1)]) rfl ?_
      refine oz_lv [1, 2, 0] rfl ?_
      refine oz_seq (p2 := 70) (lv2 := fun (y15 : Int32 × oz_M) => [(0, .ref (oz_b G + 1)), (1, .int s1.1)]) (st2 := fun y15 => []) (M2 := fun y15 => y15.2) ?_ (fun y15 => ?_)
      · refine oz_loop (Y := Int32 × oz_M) 12 (fun (s2 : Int32 × oz_M) => [(0, .ref (oz_b G + 1)), (1, .int s1.1), (2, .int s2.1)]) (fun (s2 : Int32 × oz_M) => s2.2) (0, s1.2) (fun s2 => ?_)
        refine oz_iload_n (q := 13) cx d_Arcs_reverse_12 rfl rfl 2 rfl ?_
        refine oz_iload_n (q := 14) cx d_Arcs_reverse_13 rfl rfl 1 rfl ?_
        refine oz_icmp_ge (q := 17) cx d_Arcs_reverse_14 rfl rfl (fun h14 => ?_) (fun h14 => ?_)
        · exact oz_lv [0, 1] rfl (oz_leaf (fun h => h))
        · refine oz_aload_n (q := 18) cx d_Arcs_reverse_17 rfl rfl 0 rfl ?_
          refine oz_get (q := 21) cx 1 1 (by decide) (ci := 1) rfl rfl tin_Arcs (by decide) rfl rfl tw_36 d_Arcs_reverse_18 rfl ?_
          refine oz_iload_n (q := 22) cx d_Arcs_reverse_21 rfl rfl 1 rfl ?_
          refine oz_iald (q := 23) cx 2 14 (by decide) rfl d_Arcs_reverse_22 rfl (fun j3 hj3 => ?_)
          refine oz_iload_n (q := 24) cx d_Arcs_reverse_23 rfl rfl 2 rfl ?_
          refine oz_cSNip (q := 27) cx [.int (s2.2.1 2 j3), .int s2.1] 2 hRm (by decide) (by decide) (fun _ h => c_Hall_has h) tn_465 ⟨tw_274, tw_1⟩ tw_275 (by decide +kernel) rfl (st := []) rfl (Nat.le_of_ble_eq_true rfl) d_Arcs_reverse_24 rfl (fun v4 hv4 => ?_)
          refine oz_aload_n (q := 28) cx d_Arcs_reverse_27 rfl rfl 0 rfl ?_
          refine oz_get (q := 31) cx 1 1 (by decide) (ci := 1) rfl rfl tin_Arcs (by decide) rfl rfl tw_36 d_Arcs_reverse_28 rfl ?_
          refine oz_iload_n (q := 32) cx d_Arcs_reverse_31 rfl rfl 2 rfl ?_
          refine oz_iald (q := 33) cx 2 14 (by decide) rfl d_Arcs_reverse_32 rfl (fun j5 hj5 => ?_)
          refine oz_iload_n (q := 34) cx d_Arcs_reverse_33 rfl rfl 1 rfl ?_
          refine oz_cSNip (q := 37) cx [.int (s2.2.1 2 j5), .int s1.1] 2 hRm (by decide) (by decide) (fun _ h => c_Hall_has h) tn_465 ⟨tw_274, tw_1⟩ tw_275 (by decide +kernel) rfl (st := [.int v4]) rfl (Nat.le_of_ble_eq_true rfl) d_Arcs_reverse_34 rfl (fun v6 hv6 => ?_)
          refine oz_icmp_eq (q := 40) cx d_Arcs_reverse_37 rfl rfl (fun h13 => ?_) (fun h13 => ?_)
          · refine oz_iinc (q := 67) cx (s2.1 + 1) d_Arcs_reverse_64 rfl 2 rfl rfl (by rw [hnL]; decide) (lv2 := [(2, .int (s2.1 + 1)), (0, .ref (oz_b G + 1)), (1, .int s1.1)]) rfl ?_
            refine oz_goto cx d_Arcs_reverse_67 rfl ?_
            exact oz_lv [1, 2, 0] rfl (oz_leaf (fun h => h))
          · refine oz_aload_n (q := 41) cx d_Arcs_reverse_40 rfl rfl 0 rfl ?_
            refine oz_get (q := 44) cx 1 1 (by decide) (ci := 1) rfl rfl tin_Arcs (by decide) rfl rfl tw_36 d_Arcs_reverse_41 rfl ?_
            refine oz_iload_n (q := 45) cx d_Arcs_reverse_44 rfl rfl 1 rfl ?_
            refine oz_dup2 (q := 46) cx d_Arcs_reverse_45 rfl rfl rfl ?_
            refine oz_iald (q := 47) cx 2 14 (by decide) rfl d_Arcs_reverse_46 rfl (fun j7 hj7 => ?_)
            refine oz_iconst (q := 48) cx d_Arcs_reverse_47 rfl (v := 1) rfl ?_
            refine oz_iload_n (q := 49) cx d_Arcs_reverse_48 rfl rfl 2 rfl ?_
            refine oz_ishl (q := 50) cx d_Arcs_reverse_49 rfl ?_
            refine oz_ixor (q := 51) cx d_Arcs_reverse_50 rfl ?_
            refine oz_iast (q := 52) cx 2 14 (by decide) (fun _ => rfl) d_Arcs_reverse_51 rfl (fun j8 hj8 => ?_)
            refine oz_nm (fun M9 hM9 => ?_)
            refine oz_aload_n (q := 53) cx d_Arcs_reverse_52 rfl rfl 0 rfl ?_
            refine oz_get (q := 56) cx 1 1 (by decide) (ci := 1) rfl rfl tin_Arcs (by decide) rfl rfl tw_36 d_Arcs_reverse_53 rfl ?_
            refine oz_iload_n (q := 57) cx d_Arcs_reverse_56 rfl rfl 2 rfl ?_
            refine oz_dup2 (q := 58) cx d_Arcs_reverse_57 rfl rfl rfl ?_
            refine oz_iald (q := 59) cx 2 14 (by decide) rfl d_Arcs_reverse_58 rfl (fun j10 hj10 => ?_)
            refine oz_iconst (q := 60) cx d_Arcs_reverse_59 rfl (v := 1) rfl ?_
            refine oz_iload_n (q := 61) cx d_Arcs_reverse_60 rfl rfl 1 rfl ?_
            refine oz_ishl (q := 62) cx d_Arcs_reverse_61 rfl ?_
            refine oz_ixor (q := 63) cx d_Arcs_reverse_62 rfl ?_
            refine oz_iast (q := 64) cx 2 14 (by decide) (fun _ => rfl) d_Arcs_reverse_63 rfl (fun j11 hj11 => ?_)
            refine oz_nm (fun M12 hM12 => ?_)
            refine oz_iinc (q := 67) cx (s2.1 + 1) d_Arcs_reverse_64 rfl 2 rfl rfl (by rw [hnL]; decide) (lv2 := [(2, .int (s2.1 + 1)), (0, .ref (oz_b G + 1)), (1, .int s1.1)]) rfl ?_
            refine oz_goto cx d_Arcs_reverse_67 rfl ?_
            exact oz_lv [1, 2, 0] rfl (oz_leaf (fun h => h))
      · refine oz_iinc (q := 73) cx (s1.1 + 1) d_Arcs_reverse_70 rfl 1 rfl rfl (by rw [hnL]; decide) (lv2 := [(1, .int (s1.1 + 1)), (0, .ref (oz_b G + 1))]) rfl ?_
        refine oz_goto cx d_Arcs_reverse_73 rfl ?_
        exact oz_lv [1, 0] rfl (oz_leaf (fun h => h))
  · exact oz_vret cx hR d_Arcs_reverse_76
def y_Bounds_beyondAll : MethodName := ⟨"OrderHall$Bounds", "beyondAll", "(I[I)I"⟩
theorem d_Bounds_beyondAll_0 : decode prog_3_method_5_code 0 = .ok (.iconst 0, 1) := by decide +kernel
theorem d_Bounds_beyondAll_1 : decode prog_3_method_5_code 1 = .ok (.istore_n 3, 1) := by decide +kernel
theorem d_Bounds_beyondAll_2 : decode prog_3_method_5_code 2 = .ok (.iload_n 3, 1) := by decide +kernel
theorem d_Bounds_beyondAll_3 : decode prog_3_method_5_code 3 = .ok (.aload_n 0, 1) := by decide +kernel
theorem d_Bounds_beyondAll_4 : decode prog_3_method_5_code 4 = .ok (.getfield 19, 3) := by decide +kernel
theorem d_Bounds_beyondAll_7 : decode prog_3_method_5_code 7 = .ok (.getfield 40, 3) := by decide +kernel
theorem d_Bounds_beyondAll_10 : decode prog_3_method_5_code 10 = .ok (.if_icmp .ge 33, 3) := by decide +kernel
theorem d_Bounds_beyondAll_13 : decode prog_3_method_5_code 13 = .ok (.iload_n 1, 1) := by decide +kernel
theorem d_Bounds_beyondAll_14 : decode prog_3_method_5_code 14 = .ok (.iload_n 3, 1) := by decide +kernel
theorem d_Bounds_beyondAll_15 : decode prog_3_method_5_code 15 = .ok (.invokestatic 44, 3) := by decide +kernel
theorem d_Bounds_beyondAll_18 : decode prog_3_method_5_code 18 = .ok (.ifCond .eq 19, 3) := by decide +kernel
theorem d_Bounds_beyondAll_21 : decode prog_3_method_5_code 21 = .ok (.iload_n 1, 1) := by decide +kernel
theorem d_Bounds_beyondAll_22 : decode prog_3_method_5_code 22 = .ok (.aload_n 2, 1) := by decide +kernel
theorem d_Bounds_beyondAll_23 : decode prog_3_method_5_code 23 = .ok (.iload_n 3, 1) := by decide +kernel
theorem d_Bounds_beyondAll_24 : decode prog_3_method_5_code 24 = .ok (.iaload, 1) := by decide +kernel
theorem d_Bounds_beyondAll_25 : decode prog_3_method_5_code 25 = .ok (.iconst 1, 1) := by decide +kernel
theorem d_Bounds_beyondAll_26 : decode prog_3_method_5_code 26 = .ok (.iload_n 3, 1) := by decide +kernel
theorem d_Bounds_beyondAll_27 : decode prog_3_method_5_code 27 = .ok (.ishl, 1) := by decide +kernel
theorem d_Bounds_beyondAll_28 : decode prog_3_method_5_code 28 = .ok (.ior, 1) := by decide +kernel
theorem d_Bounds_beyondAll_29 : decode prog_3_method_5_code 29 = .ok (.iconst (-1), 1) := by decide +kernel
theorem d_Bounds_beyondAll_30 : decode prog_3_method_5_code 30 = .ok (.ixor, 1) := by decide +kernel
theorem d_Bounds_beyondAll_31 : decode prog_3_method_5_code 31 = .ok (.iand, 1) := by decide +kernel
theorem d_Bounds_beyondAll_32 : decode prog_3_method_5_code 32 = .ok (.ifCond .ne 5, 3) := by decide +kernel
theorem d_Bounds_beyondAll_35 : decode prog_3_method_5_code 35 = .ok (.iload_n 3, 1) := by decide +kernel
theorem d_Bounds_beyondAll_36 : decode prog_3_method_5_code 36 = .ok (.ireturn, 1) := by decide +kernel
theorem d_Bounds_beyondAll_37 : decode prog_3_method_5_code 37 = .ok (.iinc 3 1, 3) := by decide +kernel
theorem d_Bounds_beyondAll_40 : decode prog_3_method_5_code 40 = .ok (.goto (-38), 3) := by decide +kernel
theorem d_Bounds_beyondAll_43 : decode prog_3_method_5_code 43 = .ok (.iconst (-1), 1) := by decide +kernel
theorem d_Bounds_beyondAll_44 : decode prog_3_method_5_code 44 = .ok (.ireturn, 1) := by decide +kernel
noncomputable def f_Bounds_beyondAll (a0 : Int32) (a1 : Nat) (M : oz_M) : Option (Int32) := (oz_lp (fun (s1 : Int32) => (if s1 < (M.1 6 0) then ((f_Hall_has a0 s1 M).bind fun v2 => if v2 = 0 then (some (.inl (s1 + 1))) else ((oz_in s1 14).bind fun j3 => if (a0 &&& (((M.1 a1 j3) ||| (1 <<< (s1 &&& 31))) ^^^ (-1))) = 0 then (some (.inr (.inr s1))) else (some (.inl (s1 + 1))))) else (some (.inr (.inl s1))) : Option ((Int32) ⊕ ((Int32) ⊕ (Int32))))) 0).bind (oz_el (fun (y7 : Int32) => some (-1)) (fun r8 => some (r8)))
set_option maxRecDepth 20000 in
set_option maxHeartbeats 4000000 in
theorem c_Bounds_beyondAll {l : Launch} {D : va_G} {cs : Nat → ClassId} {b : Nat} {a0 : Int32} {a1 : Nat} {M : oz_M} {vz : Int32} (ha1 : oz_A 14 a1) (hF : f_Bounds_beyondAll a0 a1 M = some vz) : oz_Met l D cs b y_Bounds_beyondAll prog_3_method_5_code 4 (some .int) (oz_rm 1) [.ref (b + 14), .int a0, .ref (b + a1)] M (some (.int vz)) M := by
  refine oz_enter (by decide) (Nat.le_of_ble_eq_true rfl) (fun G cx hR e1 hRm e2 e3 e4 hnL => ?_)
  subst e1; subst e2; subst e3; subst e4
  refine (?_ : oz_R G 0 [(0, .ref (oz_b G + 14)), (1, .int a0), (2, .ref (oz_b G + a1))] [] M (f_Bounds_beyondAll a0 a1 M) (fun x => x = vz)) _ hF rfl
  unfold f_Bounds_beyondAll
  refine oz_iconst (q := 1) cx d_Bounds_beyondAll_0 rfl (v := 0) rfl ?_
  refine oz_istore_n (q := 2) cx d_Bounds_beyondAll_1 rfl rfl (by rw [hnL]; decide) (lv2 := [(3, .int 0), (0, .ref (oz_b G + 14)), (1, .int a0), (2, .ref (oz_b G + a1))]) rfl ?_
  refine oz_lv [1, 2, 3, 0] rfl ?_
  refine oz_seqE (p2 := 43) (lv2 := fun (y7 : Int32) => []) (M2 := fun y7 => M) (fun x => x = vz) ?_ (fun y7 => ?_) (fun _ _ hx hK => by cases hx; exact hK)
  · refine oz_loop (Y := (Int32) ⊕ (Int32)) 2 (fun (s1 : Int32) => [(0, .ref (oz_b G + 14)), (1, .int a0), (2, .ref (oz_b G + a1)), (3, .int s1)]) (fun (s1 : Int32) => M) 0 (fun s1 => ?_)
    refine oz_iload_n (q := 3) cx d_Bounds_beyondAll_2 rfl rfl 3 rfl ?_
    refine oz_aload_n (q := 4) cx d_Bounds_beyondAll_3 rfl rfl 0 rfl ?_
    refine oz_get (q := 7) cx 14 0 (by decide) (ci := 4) rfl rfl tin_Bounds (by decide) rfl rfl tw_123 d_Bounds_beyondAll_4 rfl ?_
    refine oz_get (q := 10) cx 6 0 (by decide) (ci := 3) rfl rfl tin_Order (by decide) rfl rfl tw_73 d_Bounds_beyondAll_7 rfl ?_
    refine oz_icmp_ge (q := 13) cx d_Bounds_beyondAll_10 rfl rfl (fun h6 => ?_) (fun h6 => ?_)
    · exact oz_lv [] rfl (oz_leaf (fun h => h))
    · refine oz_iload_n (q := 14) cx d_Bounds_beyondAll_13 rfl rfl 1 rfl ?_
      refine oz_iload_n (q := 15) cx d_Bounds_beyondAll_14 rfl rfl 3 rfl ?_
      refine oz_cSNip (q := 18) cx [.int a0, .int s1] 2 hRm (by decide) (by decide) (fun _ h => c_Hall_has h) tn_661 ⟨tw_274, tw_1⟩ tw_275 (by decide +kernel) rfl (st := []) rfl (Nat.le_of_ble_eq_true rfl) d_Bounds_beyondAll_15 rfl (fun v2 hv2 => ?_)
      refine oz_if_eq (q := 21) cx d_Bounds_beyondAll_18 rfl rfl (fun h5 => ?_) (fun h5 => ?_)
      · refine oz_iinc (q := 40) cx (s1 + 1) d_Bounds_beyondAll_37 rfl 3 rfl rfl (by rw [hnL]; decide) (lv2 := [(3, .int (s1 + 1)), (0, .ref (oz_b G + 14)), (1, .int a0), (2, .ref (oz_b G + a1))]) rfl ?_
        refine oz_goto cx d_Bounds_beyondAll_40 rfl ?_
        exact oz_lv [1, 2, 3, 0] rfl (oz_leaf (fun h => h))
      · refine oz_iload_n (q := 22) cx d_Bounds_beyondAll_21 rfl rfl 1 rfl ?_
        refine oz_aload_n (q := 23) cx d_Bounds_beyondAll_22 rfl rfl 2 rfl ?_
        refine oz_iload_n (q := 24) cx d_Bounds_beyondAll_23 rfl rfl 3 rfl ?_
        refine oz_iald (q := 25) cx a1 14 ha1.1 (ha1.2 _ _ _ _) d_Bounds_beyondAll_24 rfl (fun j3 hj3 => ?_)
        refine oz_iconst (q := 26) cx d_Bounds_beyondAll_25 rfl (v := 1) rfl ?_
        refine oz_iload_n (q := 27) cx d_Bounds_beyondAll_26 rfl rfl 3 rfl ?_
        refine oz_ishl (q := 28) cx d_Bounds_beyondAll_27 rfl ?_
        refine oz_ior (q := 29) cx d_Bounds_beyondAll_28 rfl ?_
        refine oz_iconst (q := 30) cx d_Bounds_beyondAll_29 rfl (v := (-1)) rfl ?_
        refine oz_ixor (q := 31) cx d_Bounds_beyondAll_30 rfl ?_
        refine oz_iand (q := 32) cx d_Bounds_beyondAll_31 rfl ?_
        refine oz_if_ne (q := 35) cx d_Bounds_beyondAll_32 rfl rfl (fun h4 => ?_) (fun h4 => ?_)
        · refine oz_iinc (q := 40) cx (s1 + 1) d_Bounds_beyondAll_37 rfl 3 rfl rfl (by rw [hnL]; decide) (lv2 := [(3, .int (s1 + 1)), (0, .ref (oz_b G + 14)), (1, .int a0), (2, .ref (oz_b G + a1))]) rfl ?_
          refine oz_goto cx d_Bounds_beyondAll_40 rfl ?_
          exact oz_lv [1, 2, 3, 0] rfl (oz_leaf (fun h => h))
        · refine oz_iload_n (q := 36) cx d_Bounds_beyondAll_35 rfl rfl 3 rfl ?_
          exact oz_wrap (oz_iretp cx hR d_Bounds_beyondAll_36) (fun h => h)
  · refine oz_iconst (q := 44) cx d_Bounds_beyondAll_43 rfl (v := (-1)) rfl ?_
    exact oz_iretp cx hR d_Bounds_beyondAll_44
def y_Held_countAntichains : MethodName := ⟨"OrderHall$Held", "countAntichains", "()V"⟩
theorem d_Held_countAntichains_0 : decode prog_4_method_7_code 0 = .ok (.aload_n 0, 1) := by decide +kernel
theorem d_Held_countAntichains_1 : decode prog_4_method_7_code 1 = .ok (.iconst 0, 1) := by decide +kernel
theorem d_Held_countAntichains_2 : decode prog_4_method_7_code 2 = .ok (.putfield 23, 3) := by decide +kernel
theorem d_Held_countAntichains_5 : decode prog_4_method_7_code 5 = .ok (.aload_n 0, 1) := by decide +kernel
theorem d_Held_countAntichains_6 : decode prog_4_method_7_code 6 = .ok (.iconst 0, 1) := by decide +kernel
theorem d_Held_countAntichains_7 : decode prog_4_method_7_code 7 = .ok (.putfield 27, 3) := by decide +kernel
theorem d_Held_countAntichains_10 : decode prog_4_method_7_code 10 = .ok (.aload_n 0, 1) := by decide +kernel
theorem d_Held_countAntichains_11 : decode prog_4_method_7_code 11 = .ok (.iconst 0, 1) := by decide +kernel
theorem d_Held_countAntichains_12 : decode prog_4_method_7_code 12 = .ok (.putfield 30, 3) := by decide +kernel
theorem d_Held_countAntichains_15 : decode prog_4_method_7_code 15 = .ok (.iconst 0, 1) := by decide +kernel
theorem d_Held_countAntichains_16 : decode prog_4_method_7_code 16 = .ok (.istore_n 1, 1) := by decide +kernel
theorem d_Held_countAntichains_17 : decode prog_4_method_7_code 17 = .ok (.iload_n 1, 1) := by decide +kernel
theorem d_Held_countAntichains_18 : decode prog_4_method_7_code 18 = .ok (.aload_n 0, 1) := by decide +kernel
theorem d_Held_countAntichains_19 : decode prog_4_method_7_code 19 = .ok (.getfield 37, 3) := by decide +kernel
theorem d_Held_countAntichains_22 : decode prog_4_method_7_code 22 = .ok (.invokevirtual 80, 3) := by decide +kernel
theorem d_Held_countAntichains_25 : decode prog_4_method_7_code 25 = .ok (.if_icmp .gt 64, 3) := by decide +kernel
theorem d_Held_countAntichains_28 : decode prog_4_method_7_code 28 = .ok (.aload_n 0, 1) := by decide +kernel
theorem d_Held_countAntichains_29 : decode prog_4_method_7_code 29 = .ok (.getfield 33, 3) := by decide +kernel
theorem d_Held_countAntichains_32 : decode prog_4_method_7_code 32 = .ok (.iload_n 1, 1) := by decide +kernel
theorem d_Held_countAntichains_33 : decode prog_4_method_7_code 33 = .ok (.baload, 1) := by decide +kernel
theorem d_Held_countAntichains_34 : decode prog_4_method_7_code 34 = .ok (.iconst 1, 1) := by decide +kernel
theorem d_Held_countAntichains_35 : decode prog_4_method_7_code 35 = .ok (.if_icmp .gt 48, 3) := by decide +kernel
theorem d_Held_countAntichains_38 : decode prog_4_method_7_code 38 = .ok (.aload_n 0, 1) := by decide +kernel
theorem d_Held_countAntichains_39 : decode prog_4_method_7_code 39 = .ok (.dup, 1) := by decide +kernel
theorem d_Held_countAntichains_40 : decode prog_4_method_7_code 40 = .ok (.getfield 23, 3) := by decide +kernel
theorem d_Held_countAntichains_43 : decode prog_4_method_7_code 43 = .ok (.iconst 1, 1) := by decide +kernel
theorem d_Held_countAntichains_44 : decode prog_4_method_7_code 44 = .ok (.iadd, 1) := by decide +kernel
theorem d_Held_countAntichains_45 : decode prog_4_method_7_code 45 = .ok (.putfield 23, 3) := by decide +kernel
theorem d_Held_countAntichains_48 : decode prog_4_method_7_code 48 = .ok (.iload_n 1, 1) := by decide +kernel
theorem d_Held_countAntichains_49 : decode prog_4_method_7_code 49 = .ok (.invokestatic 84, 3) := by decide +kernel
theorem d_Held_countAntichains_52 : decode prog_4_method_7_code 52 = .ok (.aload_n 0, 1) := by decide +kernel
theorem d_Held_countAntichains_53 : decode prog_4_method_7_code 53 = .ok (.getfield 17, 3) := by decide +kernel
theorem d_Held_countAntichains_56 : decode prog_4_method_7_code 56 = .ok (.iconst 1, 1) := by decide +kernel
theorem d_Held_countAntichains_57 : decode prog_4_method_7_code 57 = .ok (.aaload, 1) := by decide +kernel
theorem d_Held_countAntichains_58 : decode prog_4_method_7_code 58 = .ok (.iconst 1, 1) := by decide +kernel
theorem d_Held_countAntichains_59 : decode prog_4_method_7_code 59 = .ok (.iaload, 1) := by decide +kernel
theorem d_Held_countAntichains_60 : decode prog_4_method_7_code 60 = .ok (.if_icmp .ne 23, 3) := by decide +kernel
theorem d_Held_countAntichains_63 : decode prog_4_method_7_code 63 = .ok (.aload_n 0, 1) := by decide +kernel
theorem d_Held_countAntichains_64 : decode prog_4_method_7_code 64 = .ok (.dup, 1) := by decide +kernel
theorem d_Held_countAntichains_65 : decode prog_4_method_7_code 65 = .ok (.getfield 27, 3) := by decide +kernel
theorem d_Held_countAntichains_68 : decode prog_4_method_7_code 68 = .ok (.iconst 1, 1) := by decide +kernel
theorem d_Held_countAntichains_69 : decode prog_4_method_7_code 69 = .ok (.iadd, 1) := by decide +kernel
theorem d_Held_countAntichains_70 : decode prog_4_method_7_code 70 = .ok (.putfield 27, 3) := by decide +kernel
theorem d_Held_countAntichains_73 : decode prog_4_method_7_code 73 = .ok (.aload_n 0, 1) := by decide +kernel
theorem d_Held_countAntichains_74 : decode prog_4_method_7_code 74 = .ok (.dup, 1) := by decide +kernel
theorem d_Held_countAntichains_75 : decode prog_4_method_7_code 75 = .ok (.getfield 30, 3) := by decide +kernel
theorem d_Held_countAntichains_78 : decode prog_4_method_7_code 78 = .ok (.iload_n 1, 1) := by decide +kernel
theorem d_Held_countAntichains_79 : decode prog_4_method_7_code 79 = .ok (.ior, 1) := by decide +kernel
theorem d_Held_countAntichains_80 : decode prog_4_method_7_code 80 = .ok (.putfield 30, 3) := by decide +kernel
theorem d_Held_countAntichains_83 : decode prog_4_method_7_code 83 = .ok (.iinc 1 1, 3) := by decide +kernel
theorem d_Held_countAntichains_86 : decode prog_4_method_7_code 86 = .ok (.goto (-69), 3) := by decide +kernel
theorem d_Held_countAntichains_89 : decode prog_4_method_7_code 89 = .ok (.return_, 1) := by decide +kernel
noncomputable def f_Held_countAntichains (M : oz_M) : Option (Unit × oz_M) := (some (oz_s M 45 3 0)).bind fun M1 => (some (oz_s M1 45 4 0)).bind fun M2 => (some (oz_s M2 45 5 0)).bind fun M3 => (oz_lp (fun (s4 : Int32 × oz_M) => ((f_Order_everything s4.2).bind fun v5 => if v5 < s4.1 then (some (.inr (s4.1, s4.2))) else ((oz_in s4.1 16384).bind fun j6 => if 1 < (s4.2.1 52 j6) then (some (.inl (s4.1 + 1, s4.2))) else ((some (oz_s s4.2 45 3 ((s4.2.1 45 3) + 1))).bind fun M7 => (f_Integer_bitCount s4.1 M7).bind fun v8 => (oz_in 1 2).bind fun j9 => (oz_in 1 15).bind fun j10 => if v8 = (M7.1 (47 + j9) j10) then ((some (oz_s M7 45 4 ((M7.1 45 4) + 1))).bind fun M11 => (some (oz_s M11 45 5 ((M11.1 45 5) ||| s4.1))).bind fun M12 => some (.inl (s4.1 + 1, M12))) else (some (.inl (s4.1 + 1, M7))))) : Option ((Int32 × oz_M) ⊕ (Int32 × oz_M)))) (0, M3)).bind fun (y16 : Int32 × oz_M) => some ((), y16.2)
set_option maxRecDepth 20000 in
set_option maxHeartbeats 4000000 in
theorem c_Held_countAntichains {l : Launch} {D : va_G} {cs : Nat → ClassId} {b : Nat} {M : oz_M} {vz : Unit} {Mz : oz_M} (hF : f_Held_countAntichains M = some (vz, Mz)) : oz_Met l D cs b y_Held_countAntichains prog_4_method_7_code 2 none (oz_rm 1) [.ref (b + 45)] M (none) Mz := by
  refine oz_enter (by decide) (Nat.le_of_ble_eq_true rfl) (fun G cx hR e1 hRm e2 e3 e4 hnL => ?_)
  subst e1; subst e2; subst e3; subst e4
  refine (?_ : oz_R G 0 [(0, .ref (oz_b G + 45))] [] M (f_Held_countAntichains  M) (fun x => x = (vz, Mz))) _ hF rfl
  unfold f_Held_countAntichains
  refine oz_aload_n (q := 1) cx d_Held_countAntichains_0 rfl rfl 0 rfl ?_
  refine oz_iconst (q := 2) cx d_Held_countAntichains_1 rfl (v := 0) rfl ?_
  refine oz_put (q := 5) cx 45 3 (by decide) (ci := 5) rfl rfl rfl tin_Held t_Held t_Held_ok n_Held (by decide) (Nat.le_of_ble_eq_true rfl) rfl tw_148 rfl rfl rfl d_Held_countAntichains_2 rfl ?_
  refine oz_nm (fun M1 hM1 => ?_)
  refine oz_aload_n (q := 6) cx d_Held_countAntichains_5 rfl rfl 0 rfl ?_
  refine oz_iconst (q := 7) cx d_Held_countAntichains_6 rfl (v := 0) rfl ?_
  refine oz_put (q := 10) cx 45 4 (by decide) (ci := 5) rfl rfl rfl tin_Held t_Held t_Held_ok n_Held (by decide) (Nat.le_of_ble_eq_true rfl) rfl tw_150 rfl rfl rfl d_Held_countAntichains_7 rfl ?_
  refine oz_nm (fun M2 hM2 => ?_)
  refine oz_aload_n (q := 11) cx d_Held_countAntichains_10 rfl rfl 0 rfl ?_
  refine oz_iconst (q := 12) cx d_Held_countAntichains_11 rfl (v := 0) rfl ?_
  refine oz_put (q := 15) cx 45 5 (by decide) (ci := 5) rfl rfl rfl tin_Held t_Held t_Held_ok n_Held (by decide) (Nat.le_of_ble_eq_true rfl) rfl tw_152 rfl rfl rfl d_Held_countAntichains_12 rfl ?_
  refine oz_nm (fun M3 hM3 => ?_)
  refine oz_iconst (q := 16) cx d_Held_countAntichains_15 rfl (v := 0) rfl ?_
  refine oz_istore_n (q := 17) cx d_Held_countAntichains_16 rfl rfl (by rw [hnL]; decide) (lv2 := [(1, .int 0), (0, .ref (oz_b G + 45))]) rfl ?_
  refine oz_lv [1, 0] rfl ?_
  refine oz_seq (p2 := 89) (lv2 := fun (y16 : Int32 × oz_M) => []) (st2 := fun y16 => []) (M2 := fun y16 => y16.2) ?_ (fun y16 => ?_)
  · refine oz_loop (Y := Int32 × oz_M) 17 (fun (s4 : Int32 × oz_M) => [(0, .ref (oz_b G + 45)), (1, .int s4.1)]) (fun (s4 : Int32 × oz_M) => s4.2) (0, M3) (fun s4 => ?_)
    refine oz_iload_n (q := 18) cx d_Held_countAntichains_17 rfl rfl 1 rfl ?_
    refine oz_aload_n (q := 19) cx d_Held_countAntichains_18 rfl rfl 0 rfl ?_
    refine oz_get (q := 22) cx 45 6 (by decide) (ci := 5) rfl rfl tin_Held (by decide) rfl rfl tw_154 d_Held_countAntichains_19 rfl ?_
    refine oz_cVip (q := 25) cx 6 [] 0 3 hRm (by decide) (by decide) (fun _ h => c_Order_everything h) ⟨tw_556, tw_301, tw_302, tw_4⟩ tw_303 (by decide +kernel) rfl (by decide) rfl rfl (st := [.int s4.1]) rfl (Nat.le_of_ble_eq_true rfl) d_Held_countAntichains_22 rfl (fun v5 hv5 => ?_)
    refine oz_icmp_gt (q := 28) cx d_Held_countAntichains_25 rfl rfl (fun h15 => ?_) (fun h15 => ?_)
    · exact oz_lv [] rfl (oz_leaf (fun h => h))
    · refine oz_aload_n (q := 29) cx d_Held_countAntichains_28 rfl rfl 0 rfl ?_
      refine oz_get (q := 32) cx 45 7 (by decide) (ci := 5) rfl rfl tin_Held (by decide) rfl rfl tw_155 d_Held_countAntichains_29 rfl ?_
      refine oz_iload_n (q := 33) cx d_Held_countAntichains_32 rfl rfl 1 rfl ?_
      refine oz_bald (q := 34) cx 52 16384 (by decide) rfl d_Held_countAntichains_33 rfl (fun j6 hj6 => ?_)
      refine oz_iconst (q := 35) cx d_Held_countAntichains_34 rfl (v := 1) rfl ?_
      refine oz_icmp_gt (q := 38) cx d_Held_countAntichains_35 rfl rfl (fun h14 => ?_) (fun h14 => ?_)
      · refine oz_iinc (q := 86) cx (s4.1 + 1) d_Held_countAntichains_83 rfl 1 rfl rfl (by rw [hnL]; decide) (lv2 := [(1, .int (s4.1 + 1)), (0, .ref (oz_b G + 45))]) rfl ?_
        refine oz_goto cx d_Held_countAntichains_86 rfl ?_
        exact oz_lv [1, 0] rfl (oz_leaf (fun h => h))
      · refine oz_aload_n (q := 39) cx d_Held_countAntichains_38 rfl rfl 0 rfl ?_
        refine oz_dup (q := 40) cx d_Held_countAntichains_39 rfl rfl ?_
        refine oz_get (q := 43) cx 45 3 (by decide) (ci := 5) rfl rfl tin_Held (by decide) rfl rfl tw_148 d_Held_countAntichains_40 rfl ?_
        refine oz_iconst (q := 44) cx d_Held_countAntichains_43 rfl (v := 1) rfl ?_
        refine oz_iadd (q := 45) cx d_Held_countAntichains_44 rfl ?_
        refine oz_put (q := 48) cx 45 3 (by decide) (ci := 5) rfl rfl rfl tin_Held t_Held t_Held_ok n_Held (by decide) (Nat.le_of_ble_eq_true rfl) rfl tw_148 rfl rfl rfl d_Held_countAntichains_45 rfl ?_
        refine oz_nm (fun M7 hM7 => ?_)
        refine oz_iload_n (q := 49) cx d_Held_countAntichains_48 rfl rfl 1 rfl ?_
        refine oz_cSip (q := 52) cx [.int s4.1] 1 hRm (by decide) (by decide) (fun _ h => c_Integer_bitCount h) ⟨tw_557, tw_309, tw_15⟩ tw_310 (by decide +kernel) rfl (st := []) rfl (Nat.le_of_ble_eq_true rfl) d_Held_countAntichains_49 rfl (fun v8 hv8 => ?_)
        refine oz_aload_n (q := 53) cx d_Held_countAntichains_52 rfl rfl 0 rfl ?_
        refine oz_get (q := 56) cx 45 1 (by decide) (ci := 5) rfl rfl tin_Held (by decide) rfl rfl tw_142 d_Held_countAntichains_53 rfl ?_
        refine oz_iconst (q := 57) cx d_Held_countAntichains_56 rfl (v := 1) rfl ?_
        refine oz_aald (q := 58) cx 46 2 47 (by decide) rfl d_Held_countAntichains_57 rfl (fun j9 hj9 => ?_)
        refine oz_iconst (q := 59) cx d_Held_countAntichains_58 rfl (v := 1) rfl ?_
        refine oz_iald (q := 60) cx (47 + j9) 15 (oz_g46l (oz_lt hj9)) (oz_g46 (oz_lt hj9)) d_Held_countAntichains_59 rfl (fun j10 hj10 => ?_)
        refine oz_icmp_ne (q := 63) cx d_Held_countAntichains_60 rfl rfl (fun h13 => ?_) (fun h13 => ?_)
        · refine oz_iinc (q := 86) cx (s4.1 + 1) d_Held_countAntichains_83 rfl 1 rfl rfl (by rw [hnL]; decide) (lv2 := [(1, .int (s4.1 + 1)), (0, .ref (oz_b G + 45))]) rfl ?_
          refine oz_goto cx d_Held_countAntichains_86 rfl ?_
          exact oz_lv [1, 0] rfl (oz_leaf (fun h => h))
        · refine oz_aload_n (q := 64) cx d_Held_countAntichains_63 rfl rfl 0 rfl ?_
          refine oz_dup (q := 65) cx d_Held_countAntichains_64 rfl rfl ?_
          refine oz_get (q := 68) cx 45 4 (by decide) (ci := 5) rfl rfl tin_Held (by decide) rfl rfl tw_150 d_Held_countAntichains_65 rfl ?_
          refine oz_iconst (q := 69) cx d_Held_countAntichains_68 rfl (v := 1) rfl ?_
          refine oz_iadd (q := 70) cx d_Held_countAntichains_69 rfl ?_
          refine oz_put (q := 73) cx 45 4 (by decide) (ci := 5) rfl rfl rfl tin_Held t_Held t_Held_ok n_Held (by decide) (Nat.le_of_ble_eq_true rfl) rfl tw_150 rfl rfl rfl d_Held_countAntichains_70 rfl ?_
          refine oz_nm (fun M11 hM11 => ?_)
          refine oz_aload_n (q := 74) cx d_Held_countAntichains_73 rfl rfl 0 rfl ?_
          refine oz_dup (q := 75) cx d_Held_countAntichains_74 rfl rfl ?_
          refine oz_get (q := 78) cx 45 5 (by decide) (ci := 5) rfl rfl tin_Held (by decide) rfl rfl tw_152 d_Held_countAntichains_75 rfl ?_
          refine oz_iload_n (q := 79) cx d_Held_countAntichains_78 rfl rfl 1 rfl ?_
          refine oz_ior (q := 80) cx d_Held_countAntichains_79 rfl ?_
          refine oz_put (q := 83) cx 45 5 (by decide) (ci := 5) rfl rfl rfl tin_Held t_Held t_Held_ok n_Held (by decide) (Nat.le_of_ble_eq_true rfl) rfl tw_152 rfl rfl rfl d_Held_countAntichains_80 rfl ?_
          refine oz_nm (fun M12 hM12 => ?_)
          refine oz_iinc (q := 86) cx (s4.1 + 1) d_Held_countAntichains_83 rfl 1 rfl rfl (by rw [hnL]; decide) (lv2 := [(1, .int (s4.1 + 1)), (0, .ref (oz_b G + 45))]) rfl ?_
          refine oz_goto cx d_Held_countAntichains_86 rfl ?_
          exact oz_lv [1, 0] rfl (oz_leaf (fun h => h))
  · exact oz_vret cx hR d_Held_countAntichains_89
def y_Held_extendLargest : MethodName := ⟨"OrderHall$Held", "extendLargest", "(II)V"⟩
theorem d_Held_extendLargest_0 : decode prog_4_method_4_code 0 = .ok (.iconst 1, 1) := by decide +kernel
theorem d_Held_extendLargest_1 : decode prog_4_method_4_code 1 = .ok (.iload_n 1, 1) := by decide +kernel
theorem d_Held_extendLargest_2 : decode prog_4_method_4_code 2 = .ok (.ishl, 1) := by decide +kernel
theorem d_Held_extendLargest_3 : decode prog_4_method_4_code 3 = .ok (.istore_n 3, 1) := by decide +kernel
theorem d_Held_extendLargest_4 : decode prog_4_method_4_code 4 = .ok (.iconst 0, 1) := by decide +kernel
theorem d_Held_extendLargest_5 : decode prog_4_method_4_code 5 = .ok (.istore 4, 2) := by decide +kernel
theorem d_Held_extendLargest_7 : decode prog_4_method_4_code 7 = .ok (.iload 4, 2) := by decide +kernel
theorem d_Held_extendLargest_9 : decode prog_4_method_4_code 9 = .ok (.iload_n 3, 1) := by decide +kernel
theorem d_Held_extendLargest_10 : decode prog_4_method_4_code 10 = .ok (.if_icmp .ge 48, 3) := by decide +kernel
theorem d_Held_extendLargest_13 : decode prog_4_method_4_code 13 = .ok (.aload_n 0, 1) := by decide +kernel
theorem d_Held_extendLargest_14 : decode prog_4_method_4_code 14 = .ok (.getfield 33, 3) := by decide +kernel
theorem d_Held_extendLargest_17 : decode prog_4_method_4_code 17 = .ok (.iload 4, 2) := by decide +kernel
theorem d_Held_extendLargest_19 : decode prog_4_method_4_code 19 = .ok (.baload, 1) := by decide +kernel
theorem d_Held_extendLargest_20 : decode prog_4_method_4_code 20 = .ok (.istore 5, 2) := by decide +kernel
theorem d_Held_extendLargest_22 : decode prog_4_method_4_code 22 = .ok (.iconst 1, 1) := by decide +kernel
theorem d_Held_extendLargest_23 : decode prog_4_method_4_code 23 = .ok (.aload_n 0, 1) := by decide +kernel
theorem d_Held_extendLargest_24 : decode prog_4_method_4_code 24 = .ok (.getfield 33, 3) := by decide +kernel
theorem d_Held_extendLargest_27 : decode prog_4_method_4_code 27 = .ok (.iload 4, 2) := by decide +kernel
theorem d_Held_extendLargest_29 : decode prog_4_method_4_code 29 = .ok (.iload_n 2, 1) := by decide +kernel
theorem d_Held_extendLargest_30 : decode prog_4_method_4_code 30 = .ok (.iand, 1) := by decide +kernel
theorem d_Held_extendLargest_31 : decode prog_4_method_4_code 31 = .ok (.baload, 1) := by decide +kernel
theorem d_Held_extendLargest_32 : decode prog_4_method_4_code 32 = .ok (.iadd, 1) := by decide +kernel
theorem d_Held_extendLargest_33 : decode prog_4_method_4_code 33 = .ok (.istore 6, 2) := by decide +kernel
theorem d_Held_extendLargest_35 : decode prog_4_method_4_code 35 = .ok (.aload_n 0, 1) := by decide +kernel
theorem d_Held_extendLargest_36 : decode prog_4_method_4_code 36 = .ok (.getfield 33, 3) := by decide +kernel
theorem d_Held_extendLargest_39 : decode prog_4_method_4_code 39 = .ok (.iload 4, 2) := by decide +kernel
theorem d_Held_extendLargest_41 : decode prog_4_method_4_code 41 = .ok (.iload_n 3, 1) := by decide +kernel
theorem d_Held_extendLargest_42 : decode prog_4_method_4_code 42 = .ok (.ior, 1) := by decide +kernel
theorem d_Held_extendLargest_43 : decode prog_4_method_4_code 43 = .ok (.iload 5, 2) := by decide +kernel
theorem d_Held_extendLargest_45 : decode prog_4_method_4_code 45 = .ok (.iload 6, 2) := by decide +kernel
theorem d_Held_extendLargest_47 : decode prog_4_method_4_code 47 = .ok (.invokestatic 74, 3) := by decide +kernel
theorem d_Held_extendLargest_50 : decode prog_4_method_4_code 50 = .ok (.i2b, 1) := by decide +kernel
theorem d_Held_extendLargest_51 : decode prog_4_method_4_code 51 = .ok (.bastore, 1) := by decide +kernel
theorem d_Held_extendLargest_52 : decode prog_4_method_4_code 52 = .ok (.iinc 4 1, 3) := by decide +kernel
theorem d_Held_extendLargest_55 : decode prog_4_method_4_code 55 = .ok (.goto (-48), 3) := by decide +kernel
theorem d_Held_extendLargest_58 : decode prog_4_method_4_code 58 = .ok (.return_, 1) := by decide +kernel
noncomputable def f_Held_extendLargest (a0 : Int32) (a1 : Int32) (M : oz_M) : Option (Unit × oz_M) := (oz_lp (fun (s1 : Int32 × oz_M) => (if s1.1 < (1 <<< (a0 &&& 31)) then ((oz_in s1.1 16384).bind fun j2 => (oz_in (s1.1 &&& a1) 16384).bind fun j3 => (oz_in (s1.1 ||| (1 <<< (a0 &&& 31))) 16384).bind fun j4 => (some (oz_s s1.2 52 j4 (vp_nar .byte ((if (s1.2.1 52 j2) < (1 + (s1.2.1 52 j3)) then 1 + (s1.2.1 52 j3) else s1.2.1 52 j2).toInt8.toInt32)))).bind fun M5 => some (.inl (s1.1 + 1, M5))) else (some (.inr (s1.1, s1.2))) : Option ((Int32 × oz_M) ⊕ (Int32 × oz_M)))) (0, M)).bind fun (y7 : Int32 × oz_M) => some ((), y7.2)
set_option maxRecDepth 20000 in
set_option maxHeartbeats 4000000 in
theorem c_Held_extendLargest {l : Launch} {D : va_G} {cs : Nat → ClassId} {b : Nat} {a0 : Int32} {a1 : Int32} {M : oz_M} {vz : Unit} {Mz : oz_M} (hF : f_Held_extendLargest a0 a1 M = some (vz, Mz)) : oz_Met l D cs b y_Held_extendLargest prog_4_method_4_code 7 none (oz_rm 1) [.ref (b + 45), .int a0, .int a1] M (none) Mz := by
  refine oz_enter (by decide) (Nat.le_of_ble_eq_true rfl) (fun G cx hR e1 hRm e2 e3 e4 hnL => ?_)
  subst e1; subst e2; subst e3; subst e4
  refine (?_ : oz_R G 0 [(0, .ref (oz_b G + 45)), (1, .int a0), (2, .int a1)] [] M (f_Held_extendLargest a0 a1 M) (fun x => x = (vz, Mz))) _ hF rfl
  unfold f_Held_extendLargest
  refine oz_iconst (q := 1) cx d_Held_extendLargest_0 rfl (v := 1) rfl ?_
  refine oz_iload_n (q := 2) cx d_Held_extendLargest_1 rfl rfl 1 rfl ?_
  refine oz_ishl (q := 3) cx d_Held_extendLargest_2 rfl ?_
  refine oz_istore_n (q := 4) cx d_Held_extendLargest_3 rfl rfl (by rw [hnL]; decide) (lv2 := [(3, .int (1 <<< (a0 &&& 31))), (0, .ref (oz_b G + 45)), (1, .int a0), (2, .int a1)]) rfl ?_
  refine oz_iconst (q := 5) cx d_Held_extendLargest_4 rfl (v := 0) rfl ?_
  refine oz_istore (q := 7) cx d_Held_extendLargest_5 rfl (by rw [hnL]; decide) (lv2 := [(4, .int 0), (3, .int (1 <<< (a0 &&& 31))), (0, .ref (oz_b G + 45)), (1, .int a0), (2, .int a1)]) rfl ?_
  refine oz_lv [2, 4, 1, 0] rfl ?_
  refine oz_seq (p2 := 58) (lv2 := fun (y7 : Int32 × oz_M) => []) (st2 := fun y7 => []) (M2 := fun y7 => y7.2) ?_ (fun y7 => ?_)
  · refine oz_loop (Y := Int32 × oz_M) 7 (fun (s1 : Int32 × oz_M) => [(0, .ref (oz_b G + 45)), (2, .int a1), (3, .int (1 <<< (a0 &&& 31))), (4, .int s1.1)]) (fun (s1 : Int32 × oz_M) => s1.2) (0, M) (fun s1 => ?_)
    refine oz_iload (q := 9) cx d_Held_extendLargest_7 rfl 3 rfl ?_
    refine oz_iload_n (q := 10) cx d_Held_extendLargest_9 rfl rfl 2 rfl ?_
    refine oz_icmp_ge (q := 13) cx d_Held_extendLargest_10 rfl rfl (fun h6 => ?_) (fun h6 => ?_)
    · exact oz_lv [] rfl (oz_leaf (fun h => h))
    · refine oz_aload_n (q := 14) cx d_Held_extendLargest_13 rfl rfl 0 rfl ?_
      refine oz_get (q := 17) cx 45 7 (by decide) (ci := 5) rfl rfl tin_Held (by decide) rfl rfl tw_155 d_Held_extendLargest_14 rfl ?_
      refine oz_iload (q := 19) cx d_Held_extendLargest_17 rfl 3 rfl ?_
      refine oz_bald (q := 20) cx 52 16384 (by decide) rfl d_Held_extendLargest_19 rfl (fun j2 hj2 => ?_)
      refine oz_istore (q := 22) cx d_Held_extendLargest_20 rfl (by rw [hnL]; decide) (lv2 := [(5, .int (s1.2.1 52 j2)), (0, .ref (oz_b G + 45)), (2, .int a1), (3, .int (1 <<< (a0 &&& 31))), (4, .int s1.1)]) rfl ?_
      refine oz_iconst (q := 23) cx d_Held_extendLargest_22 rfl (v := 1) rfl ?_
      refine oz_aload_n (q := 24) cx d_Held_extendLargest_23 rfl rfl 1 rfl ?_
      refine oz_get (q := 27) cx 45 7 (by decide) (ci := 5) rfl rfl tin_Held (by decide) rfl rfl tw_155 d_Held_extendLargest_24 rfl ?_
      refine oz_iload (q := 29) cx d_Held_extendLargest_27 rfl 4 rfl ?_
      refine oz_iload_n (q := 30) cx d_Held_extendLargest_29 rfl rfl 2 rfl ?_
      refine oz_iand (q := 31) cx d_Held_extendLargest_30 rfl ?_
      refine oz_bald (q := 32) cx 52 16384 (by decide) rfl d_Held_extendLargest_31 rfl (fun j3 hj3 => ?_)
      refine oz_iadd (q := 33) cx d_Held_extendLargest_32 rfl ?_
      refine oz_istore (q := 35) cx d_Held_extendLargest_33 rfl (by rw [hnL]; decide) (lv2 := [(6, .int (1 + (s1.2.1 52 j3))), (5, .int (s1.2.1 52 j2)), (0, .ref (oz_b G + 45)), (2, .int a1), (3, .int (1 <<< (a0 &&& 31))), (4, .int s1.1)]) rfl ?_
      refine oz_aload_n (q := 36) cx d_Held_extendLargest_35 rfl rfl 2 rfl ?_
      refine oz_get (q := 39) cx 45 7 (by decide) (ci := 5) rfl rfl tin_Held (by decide) rfl rfl tw_155 d_Held_extendLargest_36 rfl ?_
      refine oz_iload (q := 41) cx d_Held_extendLargest_39 rfl 5 rfl ?_
      refine oz_iload_n (q := 42) cx d_Held_extendLargest_41 rfl rfl 4 rfl ?_
      refine oz_ior (q := 43) cx d_Held_extendLargest_42 rfl ?_
      refine oz_iload (q := 45) cx d_Held_extendLargest_43 rfl 1 rfl ?_
      refine oz_iload (q := 47) cx d_Held_extendLargest_45 rfl 0 rfl ?_
      refine oz_mmax (q := 50) cx hRm (by decide) ⟨tw_551, tw_max⟩ (Nat.le_of_ble_eq_true rfl) d_Held_extendLargest_47 rfl ?_
      refine oz_i2b (q := 51) cx d_Held_extendLargest_50 rfl ?_
      refine oz_bast (q := 52) cx 52 16384 (by decide) (fun _ => rfl) d_Held_extendLargest_51 rfl (fun j4 hj4 => ?_)
      refine oz_nm (fun M5 hM5 => ?_)
      refine oz_iinc (q := 55) cx (s1.1 + 1) d_Held_extendLargest_52 rfl 5 rfl rfl (by rw [hnL]; decide) (lv2 := [(4, .int (s1.1 + 1)), (6, .int (1 + (s1.2.1 52 j3))), (5, .int (s1.2.1 52 j2)), (0, .ref (oz_b G + 45)), (2, .int a1), (3, .int (1 <<< (a0 &&& 31)))]) rfl ?_
      refine oz_goto cx d_Held_extendLargest_55 rfl ?_
      exact oz_lv [3, 4, 5, 0] rfl (oz_leaf (fun h => h))
  · exact oz_vret cx hR d_Held_extendLargest_58
def y_Held_noteFirsts : MethodName := ⟨"OrderHall$Held", "noteFirsts", "([I[I)V"⟩
theorem d_Held_noteFirsts_0 : decode prog_4_method_5_code 0 = .ok (.iconst 0, 1) := by decide +kernel
theorem d_Held_noteFirsts_1 : decode prog_4_method_5_code 1 = .ok (.istore_n 3, 1) := by decide +kernel
theorem d_Held_noteFirsts_2 : decode prog_4_method_5_code 2 = .ok (.iload_n 3, 1) := by decide +kernel
theorem d_Held_noteFirsts_3 : decode prog_4_method_5_code 3 = .ok (.bipush 14, 2) := by decide +kernel
theorem d_Held_noteFirsts_5 : decode prog_4_method_5_code 5 = .ok (.if_icmp .gt 17, 3) := by decide +kernel
theorem d_Held_noteFirsts_8 : decode prog_4_method_5_code 8 = .ok (.aload_n 1, 1) := by decide +kernel
theorem d_Held_noteFirsts_9 : decode prog_4_method_5_code 9 = .ok (.iload_n 3, 1) := by decide +kernel
theorem d_Held_noteFirsts_10 : decode prog_4_method_5_code 10 = .ok (.iconst 0, 1) := by decide +kernel
theorem d_Held_noteFirsts_11 : decode prog_4_method_5_code 11 = .ok (.iastore, 1) := by decide +kernel
theorem d_Held_noteFirsts_12 : decode prog_4_method_5_code 12 = .ok (.aload_n 2, 1) := by decide +kernel
theorem d_Held_noteFirsts_13 : decode prog_4_method_5_code 13 = .ok (.iload_n 3, 1) := by decide +kernel
theorem d_Held_noteFirsts_14 : decode prog_4_method_5_code 14 = .ok (.iconst 0, 1) := by decide +kernel
theorem d_Held_noteFirsts_15 : decode prog_4_method_5_code 15 = .ok (.iastore, 1) := by decide +kernel
theorem d_Held_noteFirsts_16 : decode prog_4_method_5_code 16 = .ok (.iinc 3 1, 3) := by decide +kernel
theorem d_Held_noteFirsts_19 : decode prog_4_method_5_code 19 = .ok (.goto (-17), 3) := by decide +kernel
theorem d_Held_noteFirsts_22 : decode prog_4_method_5_code 22 = .ok (.iconst 1, 1) := by decide +kernel
theorem d_Held_noteFirsts_23 : decode prog_4_method_5_code 23 = .ok (.istore_n 3, 1) := by decide +kernel
theorem d_Held_noteFirsts_24 : decode prog_4_method_5_code 24 = .ok (.iload_n 3, 1) := by decide +kernel
theorem d_Held_noteFirsts_25 : decode prog_4_method_5_code 25 = .ok (.aload_n 0, 1) := by decide +kernel
theorem d_Held_noteFirsts_26 : decode prog_4_method_5_code 26 = .ok (.getfield 37, 3) := by decide +kernel
theorem d_Held_noteFirsts_29 : decode prog_4_method_5_code 29 = .ok (.invokevirtual 80, 3) := by decide +kernel
theorem d_Held_noteFirsts_32 : decode prog_4_method_5_code 32 = .ok (.if_icmp .gt 43, 3) := by decide +kernel
theorem d_Held_noteFirsts_35 : decode prog_4_method_5_code 35 = .ok (.aload_n 0, 1) := by decide +kernel
theorem d_Held_noteFirsts_36 : decode prog_4_method_5_code 36 = .ok (.getfield 33, 3) := by decide +kernel
theorem d_Held_noteFirsts_39 : decode prog_4_method_5_code 39 = .ok (.iload_n 3, 1) := by decide +kernel
theorem d_Held_noteFirsts_40 : decode prog_4_method_5_code 40 = .ok (.baload, 1) := by decide +kernel
theorem d_Held_noteFirsts_41 : decode prog_4_method_5_code 41 = .ok (.istore 4, 2) := by decide +kernel
theorem d_Held_noteFirsts_43 : decode prog_4_method_5_code 43 = .ok (.iload_n 3, 1) := by decide +kernel
theorem d_Held_noteFirsts_44 : decode prog_4_method_5_code 44 = .ok (.invokestatic 84, 3) := by decide +kernel
theorem d_Held_noteFirsts_47 : decode prog_4_method_5_code 47 = .ok (.istore 5, 2) := by decide +kernel
theorem d_Held_noteFirsts_49 : decode prog_4_method_5_code 49 = .ok (.iload 5, 2) := by decide +kernel
theorem d_Held_noteFirsts_51 : decode prog_4_method_5_code 51 = .ok (.aload_n 1, 1) := by decide +kernel
theorem d_Held_noteFirsts_52 : decode prog_4_method_5_code 52 = .ok (.iload 4, 2) := by decide +kernel
theorem d_Held_noteFirsts_54 : decode prog_4_method_5_code 54 = .ok (.iaload, 1) := by decide +kernel
theorem d_Held_noteFirsts_55 : decode prog_4_method_5_code 55 = .ok (.if_icmp .le 14, 3) := by decide +kernel
theorem d_Held_noteFirsts_58 : decode prog_4_method_5_code 58 = .ok (.aload_n 1, 1) := by decide +kernel
theorem d_Held_noteFirsts_59 : decode prog_4_method_5_code 59 = .ok (.iload 4, 2) := by decide +kernel
theorem d_Held_noteFirsts_61 : decode prog_4_method_5_code 61 = .ok (.iload 5, 2) := by decide +kernel
theorem d_Held_noteFirsts_63 : decode prog_4_method_5_code 63 = .ok (.iastore, 1) := by decide +kernel
theorem d_Held_noteFirsts_64 : decode prog_4_method_5_code 64 = .ok (.aload_n 2, 1) := by decide +kernel
theorem d_Held_noteFirsts_65 : decode prog_4_method_5_code 65 = .ok (.iload 4, 2) := by decide +kernel
theorem d_Held_noteFirsts_67 : decode prog_4_method_5_code 67 = .ok (.iload_n 3, 1) := by decide +kernel
theorem d_Held_noteFirsts_68 : decode prog_4_method_5_code 68 = .ok (.iastore, 1) := by decide +kernel
theorem d_Held_noteFirsts_69 : decode prog_4_method_5_code 69 = .ok (.iinc 3 1, 3) := by decide +kernel
theorem d_Held_noteFirsts_72 : decode prog_4_method_5_code 72 = .ok (.goto (-48), 3) := by decide +kernel
theorem d_Held_noteFirsts_75 : decode prog_4_method_5_code 75 = .ok (.return_, 1) := by decide +kernel
noncomputable def f_Held_noteFirsts (a0 : Nat) (a1 : Nat) (M : oz_M) : Option (Unit × oz_M) := (oz_lp (fun (s1 : Int32 × oz_M) => (if 14 < s1.1 then (some (.inr (s1.1, s1.2))) else ((oz_in s1.1 15).bind fun j2 => (some (oz_s s1.2 a0 j2 0)).bind fun M3 => (oz_in s1.1 15).bind fun j4 => (some (oz_s M3 a1 j4 0)).bind fun M5 => some (.inl (s1.1 + 1, M5))) : Option ((Int32 × oz_M) ⊕ (Int32 × oz_M)))) (0, M)).bind fun (y7 : Int32 × oz_M) => (oz_lp (fun (s8 : Int32 × oz_M) => ((f_Order_everything s8.2).bind fun v9 => if v9 < s8.1 then (some (.inr (s8.1, s8.2))) else ((oz_in s8.1 16384).bind fun j10 => (f_Integer_bitCount s8.1 s8.2).bind fun v11 => (oz_in (s8.2.1 52 j10) 15).bind fun j12 => if (s8.2.1 a0 j12) < v11 then ((oz_in (s8.2.1 52 j10) 15).bind fun j13 => (some (oz_s s8.2 a0 j13 v11)).bind fun M14 => (oz_in (s8.2.1 52 j10) 15).bind fun j15 => (some (oz_s M14 a1 j15 s8.1)).bind fun M16 => some (.inl (s8.1 + 1, M16))) else (some (.inl (s8.1 + 1, s8.2)))) : Option ((Int32 × oz_M) ⊕ (Int32 × oz_M)))) (1, y7.2)).bind fun (y19 : Int32 × oz_M) => some ((), y19.2)
set_option maxRecDepth 20000 in
set_option maxHeartbeats 4000000 in
theorem c_Held_noteFirsts {l : Launch} {D : va_G} {cs : Nat → ClassId} {b : Nat} {a0 : Nat} {a1 : Nat} {M : oz_M} {vz : Unit} {Mz : oz_M} (ha0 : oz_A 15 a0) (ha1 : oz_A 15 a1) (hF : f_Held_noteFirsts a0 a1 M = some (vz, Mz)) : oz_Met l D cs b y_Held_noteFirsts prog_4_method_5_code 6 none (oz_rm 1) [.ref (b + 45), .ref (b + a0), .ref (b + a1)] M (none) Mz := by
  refine oz_enter (by decide) (Nat.le_of_ble_eq_true rfl) (fun G cx hR e1 hRm e2 e3 e4 hnL => ?_)
  subst e1; subst e2; subst e3; subst e4
  refine (?_ : oz_R G 0 [(0, .ref (oz_b G + 45)), (1, .ref (oz_b G + a0)), (2, .ref (oz_b G + a1))] [] M (f_Held_noteFirsts a0 a1 M) (fun x => x = (vz, Mz))) _ hF rfl
  unfold f_Held_noteFirsts
  refine oz_iconst (q := 1) cx d_Held_noteFirsts_0 rfl (v := 0) rfl ?_
  refine oz_istore_n (q := 2) cx d_Held_noteFirsts_1 rfl rfl (by rw [hnL]; decide) (lv2 := [(3, .int 0), (0, .ref (oz_b G + 45)), (1, .ref (oz_b G + a0)), (2, .ref (oz_b G + a1))]) rfl ?_
  refine oz_lv [1, 2, 3, 0] rfl ?_
  refine oz_seq (p2 := 22) (lv2 := fun (y7 : Int32 × oz_M) => [(0, .ref (oz_b G + 45)), (1, .ref (oz_b G + a0)), (2, .ref (oz_b G + a1))]) (st2 := fun y7 => []) (M2 := fun y7 => y7.2) ?_ (fun y7 => ?_)
  · refine oz_loop (Y := Int32 × oz_M) 2 (fun (s1 : Int32 × oz_M) => [(0, .ref (oz_b G + 45)), (1, .ref (oz_b G + a0)), (2, .ref (oz_b G + a1)), (3, .int s1.1)]) (fun (s1 : Int32 × oz_M) => s1.2) (0, M) (fun s1 => ?_)
    refine oz_iload_n (q := 3) cx d_Held_noteFirsts_2 rfl rfl 3 rfl ?_
    refine oz_bipush (q := 5) cx d_Held_noteFirsts_3 rfl (v := 14) rfl ?_
    refine oz_icmp_gt (q := 8) cx d_Held_noteFirsts_5 rfl rfl (fun h6 => ?_) (fun h6 => ?_)
    · exact oz_lv [0, 1, 2] rfl (oz_leaf (fun h => h))
    · refine oz_aload_n (q := 9) cx d_Held_noteFirsts_8 rfl rfl 1 rfl ?_
      refine oz_iload_n (q := 10) cx d_Held_noteFirsts_9 rfl rfl 3 rfl ?_
      refine oz_iconst (q := 11) cx d_Held_noteFirsts_10 rfl (v := 0) rfl ?_
      refine oz_iast (q := 12) cx a0 15 ha0.1 (fun _ => (ha0.2 _ _ _ _)) d_Held_noteFirsts_11 rfl (fun j2 hj2 => ?_)
      refine oz_nm (fun M3 hM3 => ?_)
      refine oz_aload_n (q := 13) cx d_Held_noteFirsts_12 rfl rfl 2 rfl ?_
      refine oz_iload_n (q := 14) cx d_Held_noteFirsts_13 rfl rfl 3 rfl ?_
      refine oz_iconst (q := 15) cx d_Held_noteFirsts_14 rfl (v := 0) rfl ?_
      refine oz_iast (q := 16) cx a1 15 ha1.1 (fun _ => (ha1.2 _ _ _ _)) d_Held_noteFirsts_15 rfl (fun j4 hj4 => ?_)
      refine oz_nm (fun M5 hM5 => ?_)
      refine oz_iinc (q := 19) cx (s1.1 + 1) d_Held_noteFirsts_16 rfl 3 rfl rfl (by rw [hnL]; decide) (lv2 := [(3, .int (s1.1 + 1)), (0, .ref (oz_b G + 45)), (1, .ref (oz_b G + a0)), (2, .ref (oz_b G + a1))]) rfl ?_
      refine oz_goto cx d_Held_noteFirsts_19 rfl ?_
      exact oz_lv [1, 2, 3, 0] rfl (oz_leaf (fun h => h))
  · refine oz_iconst (q := 23) cx d_Held_noteFirsts_22 rfl (v := 1) rfl ?_
    refine oz_istore_n (q := 24) cx d_Held_noteFirsts_23 rfl rfl (by rw [hnL]; decide) (lv2 := [(3, .int 1), (0, .ref (oz_b G + 45)), (1, .ref (oz_b G + a0)), (2, .ref (oz_b G + a1))]) rfl ?_
    refine oz_lv [1, 2, 3, 0] rfl ?_
    refine oz_seq (p2 := 75) (lv2 := fun (y19 : Int32 × oz_M) => []) (st2 := fun y19 => []) (M2 := fun y19 => y19.2) ?_ (fun y19 => ?_)
    · refine oz_loop (Y := Int32 × oz_M) 24 (fun (s8 : Int32 × oz_M) => [(0, .ref (oz_b G + 45)), (1, .ref (oz_b G + a0)), (2, .ref (oz_b G + a1)), (3, .int s8.1)]) (fun (s8 : Int32 × oz_M) => s8.2) (1, y7.2) (fun s8 => ?_)
      refine oz_iload_n (q := 25) cx d_Held_noteFirsts_24 rfl rfl 3 rfl ?_
      refine oz_aload_n (q := 26) cx d_Held_noteFirsts_25 rfl rfl 0 rfl ?_
      refine oz_get (q := 29) cx 45 6 (by decide) (ci := 5) rfl rfl tin_Held (by decide) rfl rfl tw_154 d_Held_noteFirsts_26 rfl ?_
      refine oz_cVip (q := 32) cx 6 [] 0 3 hRm (by decide) (by decide) (fun _ h => c_Order_everything h) ⟨tw_556, tw_301, tw_302, tw_4⟩ tw_303 (by decide +kernel) rfl (by decide) rfl rfl (st := [.int s8.1]) rfl (Nat.le_of_ble_eq_true rfl) d_Held_noteFirsts_29 rfl (fun v9 hv9 => ?_)
      refine oz_icmp_gt (q := 35) cx d_Held_noteFirsts_32 rfl rfl (fun h18 => ?_) (fun h18 => ?_)
      · exact oz_lv [] rfl (oz_leaf (fun h => h))
      · refine oz_aload_n (q := 36) cx d_Held_noteFirsts_35 rfl rfl 0 rfl ?_
        refine oz_get (q := 39) cx 45 7 (by decide) (ci := 5) rfl rfl tin_Held (by decide) rfl rfl tw_155 d_Held_noteFirsts_36 rfl ?_
        refine oz_iload_n (q := 40) cx d_Held_noteFirsts_39 rfl rfl 3 rfl ?_
        refine oz_bald (q := 41) cx 52 16384 (by decide) rfl d_Held_noteFirsts_40 rfl (fun j10 hj10 => ?_)
        refine oz_istore (q := 43) cx d_Held_noteFirsts_41 rfl (by rw [hnL]; decide) (lv2 := [(4, .int (s8.2.1 52 j10)), (0, .ref (oz_b G + 45)), (1, .ref (oz_b G + a0)), (2, .ref (oz_b G + a1)), (3, .int s8.1)]) rfl ?_
        refine oz_iload_n (q := 44) cx d_Held_noteFirsts_43 rfl rfl 4 rfl ?_
        refine oz_cSip (q := 47) cx [.int s8.1] 1 hRm (by decide) (by decide) (fun _ h => c_Integer_bitCount h) ⟨tw_557, tw_309, tw_15⟩ tw_310 (by decide +kernel) rfl (st := []) rfl (Nat.le_of_ble_eq_true rfl) d_Held_noteFirsts_44 rfl (fun v11 hv11 => ?_)
        refine oz_istore (q := 49) cx d_Held_noteFirsts_47 rfl (by rw [hnL]; decide) (lv2 := [(5, .int v11), (4, .int (s8.2.1 52 j10)), (0, .ref (oz_b G + 45)), (1, .ref (oz_b G + a0)), (2, .ref (oz_b G + a1)), (3, .int s8.1)]) rfl ?_
        refine oz_iload (q := 51) cx d_Held_noteFirsts_49 rfl 0 rfl ?_
        refine oz_aload_n (q := 52) cx d_Held_noteFirsts_51 rfl rfl 3 rfl ?_
        refine oz_iload (q := 54) cx d_Held_noteFirsts_52 rfl 1 rfl ?_
        refine oz_iald (q := 55) cx a0 15 ha0.1 (ha0.2 _ _ _ _) d_Held_noteFirsts_54 rfl (fun j12 hj12 => ?_)
        refine oz_icmp_le (q := 58) cx d_Held_noteFirsts_55 rfl rfl (fun h17 => ?_) (fun h17 => ?_)
        · refine oz_iinc (q := 72) cx (s8.1 + 1) d_Held_noteFirsts_69 rfl 5 rfl rfl (by rw [hnL]; decide) (lv2 := [(3, .int (s8.1 + 1)), (5, .int v11), (4, .int (s8.2.1 52 j10)), (0, .ref (oz_b G + 45)), (1, .ref (oz_b G + a0)), (2, .ref (oz_b G + a1))]) rfl ?_
          refine oz_goto cx d_Held_noteFirsts_72 rfl ?_
          exact oz_lv [3, 4, 5, 0] rfl (oz_leaf (fun h => h))
        · refine oz_aload_n (q := 59) cx d_Held_noteFirsts_58 rfl rfl 3 rfl ?_
          refine oz_iload (q := 61) cx d_Held_noteFirsts_59 rfl 1 rfl ?_
          refine oz_iload (q := 63) cx d_Held_noteFirsts_61 rfl 0 rfl ?_
          refine oz_iast (q := 64) cx a0 15 ha0.1 (fun _ => (ha0.2 _ _ _ _)) d_Held_noteFirsts_63 rfl (fun j13 hj13 => ?_)
          refine oz_nm (fun M14 hM14 => ?_)
          refine oz_aload_n (q := 65) cx d_Held_noteFirsts_64 rfl rfl 4 rfl ?_
          refine oz_iload (q := 67) cx d_Held_noteFirsts_65 rfl 1 rfl ?_
          refine oz_iload_n (q := 68) cx d_Held_noteFirsts_67 rfl rfl 5 rfl ?_
          refine oz_iast (q := 69) cx a1 15 ha1.1 (fun _ => (ha1.2 _ _ _ _)) d_Held_noteFirsts_68 rfl (fun j15 hj15 => ?_)
          refine oz_nm (fun M16 hM16 => ?_)
          refine oz_iinc (q := 72) cx (s8.1 + 1) d_Held_noteFirsts_69 rfl 5 rfl rfl (by rw [hnL]; decide) (lv2 := [(3, .int (s8.1 + 1)), (5, .int v11), (4, .int (s8.2.1 52 j10)), (0, .ref (oz_b G + 45)), (1, .ref (oz_b G + a0)), (2, .ref (oz_b G + a1))]) rfl ?_
          refine oz_goto cx d_Held_noteFirsts_72 rfl ?_
          exact oz_lv [3, 4, 5, 0] rfl (oz_leaf (fun h => h))
    · exact oz_vret cx hR d_Held_noteFirsts_75
