def y_Line_swap : MethodName := ⟨"OrderHall$Line", "swap", "(I)Z"⟩
theorem d_Line_swap_0 : decode prog_5_method_8_code 0 = .ok (.aload_n 0, 1) := by decide +kernel
theorem d_Line_swap_1 : decode prog_5_method_8_code 1 = .ok (.getfield 18, 3) := by decide +kernel
theorem d_Line_swap_4 : decode prog_5_method_8_code 4 = .ok (.iload_n 1, 1) := by decide +kernel
theorem d_Line_swap_5 : decode prog_5_method_8_code 5 = .ok (.iaload, 1) := by decide +kernel
theorem d_Line_swap_6 : decode prog_5_method_8_code 6 = .ok (.istore_n 2, 1) := by decide +kernel
theorem d_Line_swap_7 : decode prog_5_method_8_code 7 = .ok (.aload_n 0, 1) := by decide +kernel
theorem d_Line_swap_8 : decode prog_5_method_8_code 8 = .ok (.getfield 18, 3) := by decide +kernel
theorem d_Line_swap_11 : decode prog_5_method_8_code 11 = .ok (.iload_n 1, 1) := by decide +kernel
theorem d_Line_swap_12 : decode prog_5_method_8_code 12 = .ok (.iconst 1, 1) := by decide +kernel
theorem d_Line_swap_13 : decode prog_5_method_8_code 13 = .ok (.iadd, 1) := by decide +kernel
theorem d_Line_swap_14 : decode prog_5_method_8_code 14 = .ok (.iaload, 1) := by decide +kernel
theorem d_Line_swap_15 : decode prog_5_method_8_code 15 = .ok (.istore_n 3, 1) := by decide +kernel
theorem d_Line_swap_16 : decode prog_5_method_8_code 16 = .ok (.aload_n 0, 1) := by decide +kernel
theorem d_Line_swap_17 : decode prog_5_method_8_code 17 = .ok (.getfield 26, 3) := by decide +kernel
theorem d_Line_swap_20 : decode prog_5_method_8_code 20 = .ok (.getfield 58, 3) := by decide +kernel
theorem d_Line_swap_23 : decode prog_5_method_8_code 23 = .ok (.iload_n 2, 1) := by decide +kernel
theorem d_Line_swap_24 : decode prog_5_method_8_code 24 = .ok (.iaload, 1) := by decide +kernel
theorem d_Line_swap_25 : decode prog_5_method_8_code 25 = .ok (.iload_n 3, 1) := by decide +kernel
theorem d_Line_swap_26 : decode prog_5_method_8_code 26 = .ok (.invokestatic 50, 3) := by decide +kernel
theorem d_Line_swap_29 : decode prog_5_method_8_code 29 = .ok (.ifCond .ne 5, 3) := by decide +kernel
theorem d_Line_swap_32 : decode prog_5_method_8_code 32 = .ok (.iconst 0, 1) := by decide +kernel
theorem d_Line_swap_33 : decode prog_5_method_8_code 33 = .ok (.ireturn, 1) := by decide +kernel
theorem d_Line_swap_34 : decode prog_5_method_8_code 34 = .ok (.aload_n 0, 1) := by decide +kernel
theorem d_Line_swap_35 : decode prog_5_method_8_code 35 = .ok (.getfield 18, 3) := by decide +kernel
theorem d_Line_swap_38 : decode prog_5_method_8_code 38 = .ok (.iload_n 1, 1) := by decide +kernel
theorem d_Line_swap_39 : decode prog_5_method_8_code 39 = .ok (.iload_n 3, 1) := by decide +kernel
theorem d_Line_swap_40 : decode prog_5_method_8_code 40 = .ok (.iastore, 1) := by decide +kernel
theorem d_Line_swap_41 : decode prog_5_method_8_code 41 = .ok (.aload_n 0, 1) := by decide +kernel
theorem d_Line_swap_42 : decode prog_5_method_8_code 42 = .ok (.getfield 18, 3) := by decide +kernel
theorem d_Line_swap_45 : decode prog_5_method_8_code 45 = .ok (.iload_n 1, 1) := by decide +kernel
theorem d_Line_swap_46 : decode prog_5_method_8_code 46 = .ok (.iconst 1, 1) := by decide +kernel
theorem d_Line_swap_47 : decode prog_5_method_8_code 47 = .ok (.iadd, 1) := by decide +kernel
theorem d_Line_swap_48 : decode prog_5_method_8_code 48 = .ok (.iload_n 2, 1) := by decide +kernel
theorem d_Line_swap_49 : decode prog_5_method_8_code 49 = .ok (.iastore, 1) := by decide +kernel
theorem d_Line_swap_50 : decode prog_5_method_8_code 50 = .ok (.iconst 1, 1) := by decide +kernel
theorem d_Line_swap_51 : decode prog_5_method_8_code 51 = .ok (.ireturn, 1) := by decide +kernel
def f_Line_swap (a0 : Int32) (M : oz_M) : Option (Int32 × oz_M) := (oz_in a0 14).bind fun j1 => (oz_in (a0 + 1) 14).bind fun j2 => (oz_in (M.1 54 j1) 14).bind fun j3 => (f_Hall_has (M.1 9 j3) (M.1 54 j2) M).bind fun v4 => if v4 = 0 then ((oz_z 0).bind fun z => some (z, M)) else ((oz_in a0 14).bind fun j5 => (some (oz_s M 54 j5 (M.1 54 j2))).bind fun M6 => (oz_in (a0 + 1) 14).bind fun j7 => (some (oz_s M6 54 j7 (M.1 54 j1))).bind fun M8 => (oz_z 1).bind fun z => some (z, M8))
set_option maxRecDepth 20000 in
set_option maxHeartbeats 4000000 in
theorem c_Line_swap {l : Launch} {D : va_G} {cs : Nat → ClassId} {b : Nat} {a0 : Int32} {M : oz_M} {vz : Int32} {Mz : oz_M} (hF : f_Line_swap a0 M = some (vz, Mz)) : oz_Met l D cs b y_Line_swap prog_5_method_8_code 4 (some .boolean) (oz_rm 1) [.ref (b + 53), .int a0] M (some (.int vz)) Mz := by
  refine oz_enter (by decide) (Nat.le_of_ble_eq_true rfl) (fun G cx hR e1 hRm e2 e3 e4 hnL => ?_)
  subst e1; subst e2; subst e3; subst e4
  refine (?_ : oz_R G 0 [(0, .ref (oz_b G + 53)), (1, .int a0)] [] M (f_Line_swap a0 M) (fun x => x = (vz, Mz))) _ hF rfl
  unfold f_Line_swap
  refine oz_aload_n (q := 1) cx d_Line_swap_0 rfl rfl 0 rfl ?_
  refine oz_get (q := 4) cx 53 2 (by decide) (ci := 6) rfl rfl tin_Line (by decide) rfl rfl tw_184 d_Line_swap_1 rfl ?_
  refine oz_iload_n (q := 5) cx d_Line_swap_4 rfl rfl 1 rfl ?_
  refine oz_iald (q := 6) cx 54 14 (by decide) rfl d_Line_swap_5 rfl (fun j1 hj1 => ?_)
  refine oz_istore_n (q := 7) cx d_Line_swap_6 rfl rfl (by rw [hnL]; decide) (lv2 := [(2, .int (M.1 54 j1)), (0, .ref (oz_b G + 53)), (1, .int a0)]) rfl ?_
  refine oz_aload_n (q := 8) cx d_Line_swap_7 rfl rfl 1 rfl ?_
  refine oz_get (q := 11) cx 53 2 (by decide) (ci := 6) rfl rfl tin_Line (by decide) rfl rfl tw_184 d_Line_swap_8 rfl ?_
  refine oz_iload_n (q := 12) cx d_Line_swap_11 rfl rfl 2 rfl ?_
  refine oz_iconst (q := 13) cx d_Line_swap_12 rfl (v := 1) rfl ?_
  refine oz_iadd (q := 14) cx d_Line_swap_13 rfl ?_
  refine oz_iald (q := 15) cx 54 14 (by decide) rfl d_Line_swap_14 rfl (fun j2 hj2 => ?_)
  refine oz_istore_n (q := 16) cx d_Line_swap_15 rfl rfl (by rw [hnL]; decide) (lv2 := [(3, .int (M.1 54 j2)), (2, .int (M.1 54 j1)), (0, .ref (oz_b G + 53)), (1, .int a0)]) rfl ?_
  refine oz_aload_n (q := 17) cx d_Line_swap_16 rfl rfl 2 rfl ?_
  refine oz_get (q := 20) cx 53 3 (by decide) (ci := 6) rfl rfl tin_Line (by decide) rfl rfl tw_186 d_Line_swap_17 rfl ?_
  refine oz_get (q := 23) cx 6 3 (by decide) (ci := 3) rfl rfl tin_Order (by decide) rfl rfl tw_90 d_Line_swap_20 rfl ?_
  refine oz_iload_n (q := 24) cx d_Line_swap_23 rfl rfl 1 rfl ?_
  refine oz_iald (q := 25) cx 9 14 (by decide) rfl d_Line_swap_24 rfl (fun j3 hj3 => ?_)
  refine oz_iload_n (q := 26) cx d_Line_swap_25 rfl rfl 0 rfl ?_
  refine oz_cSNip (q := 29) cx [.int (M.1 9 j3), .int (M.1 54 j2)] 2 hRm (by decide) (by decide) (fun _ h => c_Hall_has h) tn_341 ⟨tw_274, tw_1⟩ tw_275 (by decide +kernel) rfl (st := []) rfl (Nat.le_of_ble_eq_true rfl) d_Line_swap_26 rfl (fun v4 hv4 => ?_)
  refine oz_if_ne (q := 32) cx d_Line_swap_29 rfl rfl (fun h9 => ?_) (fun h9 => ?_)
  · refine oz_aload_n (q := 35) cx d_Line_swap_34 rfl rfl 2 rfl ?_
    refine oz_get (q := 38) cx 53 2 (by decide) (ci := 6) rfl rfl tin_Line (by decide) rfl rfl tw_184 d_Line_swap_35 rfl ?_
    refine oz_iload_n (q := 39) cx d_Line_swap_38 rfl rfl 3 rfl ?_
    refine oz_iload_n (q := 40) cx d_Line_swap_39 rfl rfl 0 rfl ?_
    refine oz_iast (q := 41) cx 54 14 (by decide) (fun _ => rfl) d_Line_swap_40 rfl (fun j5 hj5 => ?_)
    refine oz_nm (fun M6 hM6 => ?_)
    refine oz_aload_n (q := 42) cx d_Line_swap_41 rfl rfl 2 rfl ?_
    refine oz_get (q := 45) cx 53 2 (by decide) (ci := 6) rfl rfl tin_Line (by decide) rfl rfl tw_184 d_Line_swap_42 rfl ?_
    refine oz_iload_n (q := 46) cx d_Line_swap_45 rfl rfl 3 rfl ?_
    refine oz_iconst (q := 47) cx d_Line_swap_46 rfl (v := 1) rfl ?_
    refine oz_iadd (q := 48) cx d_Line_swap_47 rfl ?_
    refine oz_iload_n (q := 49) cx d_Line_swap_48 rfl rfl 1 rfl ?_
    refine oz_iast (q := 50) cx 54 14 (by decide) (fun _ => rfl) d_Line_swap_49 rfl (fun j7 hj7 => ?_)
    refine oz_nm (fun M8 hM8 => ?_)
    refine oz_iconst (q := 51) cx d_Line_swap_50 rfl (v := 1) rfl ?_
    exact oz_zret cx hR d_Line_swap_51
  · refine oz_iconst (q := 33) cx d_Line_swap_32 rfl (v := 0) rfl ?_
    exact oz_zret cx hR d_Line_swap_33
def y_Line_waysBehind : MethodName := ⟨"OrderHall$Line", "waysBehind", "(I)J"⟩
theorem d_Line_waysBehind_0 : decode prog_5_method_4_code 0 = .ok (.lconst 0, 1) := by decide +kernel
theorem d_Line_waysBehind_1 : decode prog_5_method_4_code 1 = .ok (.lstore_n 2, 1) := by decide +kernel
theorem d_Line_waysBehind_2 : decode prog_5_method_4_code 2 = .ok (.iconst 0, 1) := by decide +kernel
theorem d_Line_waysBehind_3 : decode prog_5_method_4_code 3 = .ok (.istore 4, 2) := by decide +kernel
theorem d_Line_waysBehind_5 : decode prog_5_method_4_code 5 = .ok (.iload 4, 2) := by decide +kernel
theorem d_Line_waysBehind_7 : decode prog_5_method_4_code 7 = .ok (.aload_n 0, 1) := by decide +kernel
theorem d_Line_waysBehind_8 : decode prog_5_method_4_code 8 = .ok (.getfield 26, 3) := by decide +kernel
theorem d_Line_waysBehind_11 : decode prog_5_method_4_code 11 = .ok (.getfield 43, 3) := by decide +kernel
theorem d_Line_waysBehind_14 : decode prog_5_method_4_code 14 = .ok (.if_icmp .ge 68, 3) := by decide +kernel
theorem d_Line_waysBehind_17 : decode prog_5_method_4_code 17 = .ok (.aload_n 0, 1) := by decide +kernel
theorem d_Line_waysBehind_18 : decode prog_5_method_4_code 18 = .ok (.getfield 26, 3) := by decide +kernel
theorem d_Line_waysBehind_21 : decode prog_5_method_4_code 21 = .ok (.getfield 47, 3) := by decide +kernel
theorem d_Line_waysBehind_24 : decode prog_5_method_4_code 24 = .ok (.iload 4, 2) := by decide +kernel
theorem d_Line_waysBehind_26 : decode prog_5_method_4_code 26 = .ok (.iaload, 1) := by decide +kernel
theorem d_Line_waysBehind_27 : decode prog_5_method_4_code 27 = .ok (.iload_n 1, 1) := by decide +kernel
theorem d_Line_waysBehind_28 : decode prog_5_method_4_code 28 = .ok (.iconst (-1), 1) := by decide +kernel
theorem d_Line_waysBehind_29 : decode prog_5_method_4_code 29 = .ok (.ixor, 1) := by decide +kernel
theorem d_Line_waysBehind_30 : decode prog_5_method_4_code 30 = .ok (.iand, 1) := by decide +kernel
theorem d_Line_waysBehind_31 : decode prog_5_method_4_code 31 = .ok (.ifCond .ne 7, 3) := by decide +kernel
theorem d_Line_waysBehind_34 : decode prog_5_method_4_code 34 = .ok (.iconst 1, 1) := by decide +kernel
theorem d_Line_waysBehind_35 : decode prog_5_method_4_code 35 = .ok (.goto 4, 3) := by decide +kernel
theorem d_Line_waysBehind_38 : decode prog_5_method_4_code 38 = .ok (.iconst 0, 1) := by decide +kernel
theorem d_Line_waysBehind_39 : decode prog_5_method_4_code 39 = .ok (.istore 5, 2) := by decide +kernel
theorem d_Line_waysBehind_41 : decode prog_5_method_4_code 41 = .ok (.iload_n 1, 1) := by decide +kernel
theorem d_Line_waysBehind_42 : decode prog_5_method_4_code 42 = .ok (.iload 4, 2) := by decide +kernel
theorem d_Line_waysBehind_44 : decode prog_5_method_4_code 44 = .ok (.invokestatic 50, 3) := by decide +kernel
theorem d_Line_waysBehind_47 : decode prog_5_method_4_code 47 = .ok (.ifCond .eq 10, 3) := by decide +kernel
theorem d_Line_waysBehind_50 : decode prog_5_method_4_code 50 = .ok (.iload 5, 2) := by decide +kernel
theorem d_Line_waysBehind_52 : decode prog_5_method_4_code 52 = .ok (.ifCond .ne 24, 3) := by decide +kernel
theorem d_Line_waysBehind_55 : decode prog_5_method_4_code 55 = .ok (.lconst 0, 1) := by decide +kernel
theorem d_Line_waysBehind_56 : decode prog_5_method_4_code 56 = .ok (.lreturn, 1) := by decide +kernel
theorem d_Line_waysBehind_57 : decode prog_5_method_4_code 57 = .ok (.iload 5, 2) := by decide +kernel
theorem d_Line_waysBehind_59 : decode prog_5_method_4_code 59 = .ok (.ifCond .eq 17, 3) := by decide +kernel
theorem d_Line_waysBehind_62 : decode prog_5_method_4_code 62 = .ok (.lload_n 2, 1) := by decide +kernel
theorem d_Line_waysBehind_63 : decode prog_5_method_4_code 63 = .ok (.aload_n 0, 1) := by decide +kernel
theorem d_Line_waysBehind_64 : decode prog_5_method_4_code 64 = .ok (.getfield 22, 3) := by decide +kernel
theorem d_Line_waysBehind_67 : decode prog_5_method_4_code 67 = .ok (.iload_n 1, 1) := by decide +kernel
theorem d_Line_waysBehind_68 : decode prog_5_method_4_code 68 = .ok (.iconst 1, 1) := by decide +kernel
theorem d_Line_waysBehind_69 : decode prog_5_method_4_code 69 = .ok (.iload 4, 2) := by decide +kernel
theorem d_Line_waysBehind_71 : decode prog_5_method_4_code 71 = .ok (.ishl, 1) := by decide +kernel
theorem d_Line_waysBehind_72 : decode prog_5_method_4_code 72 = .ok (.ior, 1) := by decide +kernel
theorem d_Line_waysBehind_73 : decode prog_5_method_4_code 73 = .ok (.laload, 1) := by decide +kernel
theorem d_Line_waysBehind_74 : decode prog_5_method_4_code 74 = .ok (.ladd, 1) := by decide +kernel
theorem d_Line_waysBehind_75 : decode prog_5_method_4_code 75 = .ok (.lstore_n 2, 1) := by decide +kernel
theorem d_Line_waysBehind_76 : decode prog_5_method_4_code 76 = .ok (.iinc 4 1, 3) := by decide +kernel
theorem d_Line_waysBehind_79 : decode prog_5_method_4_code 79 = .ok (.goto (-74), 3) := by decide +kernel
theorem d_Line_waysBehind_82 : decode prog_5_method_4_code 82 = .ok (.lload_n 2, 1) := by decide +kernel
theorem d_Line_waysBehind_83 : decode prog_5_method_4_code 83 = .ok (.lreturn, 1) := by decide +kernel
noncomputable def f_Line_waysBehind (a0 : Int32) (M : oz_M) : Option (Int64) := (oz_lp (fun (s1 : Int64 × Int32) => (if s1.2 < (M.1 6 0) then ((oz_in s1.2 14).bind fun j2 => (if ((M.1 7 j2) &&& (a0 ^^^ (-1))) = 0 then (some 1) else (some 0)).bind fun (z3 : Int32) => (f_Hall_has a0 s1.2 M).bind fun v5 => if v5 = 0 then (if z3 = 0 then (some (.inl (s1.1, s1.2 + 1))) else ((oz_in (a0 ||| (1 <<< (s1.2 &&& 31))) 16384).bind fun j6 => some (.inl (s1.1 + (M.2 55 j6), s1.2 + 1)))) else (if z3 = 0 then (some (.inr (.inr 0))) else (some (.inl (s1.1, s1.2 + 1))))) else (some (.inr (.inl (s1.1, s1.2)))) : Option ((Int64 × Int32) ⊕ ((Int64 × Int32) ⊕ (Int64))))) (0, 0)).bind (oz_el (fun (y11 : Int64 × Int32) => some y11.1) (fun r12 => some (r12)))
set_option maxRecDepth 20000 in
set_option maxHeartbeats 4000000 in
theorem c_Line_waysBehind {l : Launch} {D : va_G} {cs : Nat → ClassId} {b : Nat} {a0 : Int32} {M : oz_M} {vz : Int64} (hF : f_Line_waysBehind a0 M = some vz) : oz_Met l D cs b y_Line_waysBehind prog_5_method_4_code 6 (some .long) (oz_rm 1) [.ref (b + 53), .int a0] M (some (.long vz)) M := by
  refine oz_enter (by decide) (Nat.le_of_ble_eq_true rfl) (fun G cx hR e1 hRm e2 e3 e4 hnL => ?_)
  subst e1; subst e2; subst e3; subst e4
  refine (?_ : oz_R G 0 [(0, .ref (oz_b G + 53)), (1, .int a0)] [] M (f_Line_waysBehind a0 M) (fun x => x = vz)) _ hF rfl
  unfold f_Line_waysBehind
  refine oz_lconst (q := 1) cx d_Line_waysBehind_0 rfl (v := 0) rfl ?_
  refine oz_lstore_n (q := 2) cx d_Line_waysBehind_1 rfl rfl (by rw [hnL]; decide) (lv2 := [(2, .long 0), (0, .ref (oz_b G + 53)), (1, .int a0)]) rfl ?_
  refine oz_iconst (q := 3) cx d_Line_waysBehind_2 rfl (v := 0) rfl ?_
  refine oz_istore (q := 5) cx d_Line_waysBehind_3 rfl (by rw [hnL]; decide) (lv2 := [(4, .int 0), (2, .long 0), (0, .ref (oz_b G + 53)), (1, .int a0)]) rfl ?_
  refine oz_lv [2, 3, 1, 0] rfl ?_
  refine oz_seqE (p2 := 82) (lv2 := fun (y11 : Int64 × Int32) => [(2, .long y11.1)]) (M2 := fun y11 => M) (fun x => x = vz) ?_ (fun y11 => ?_) (fun _ _ hx hK => by cases hx; exact hK)
  · refine oz_loop (Y := (Int64 × Int32) ⊕ (Int64)) 5 (fun (s1 : Int64 × Int32) => [(0, .ref (oz_b G + 53)), (1, .int a0), (2, .long s1.1), (4, .int s1.2)]) (fun (s1 : Int64 × Int32) => M) (0, 0) (fun s1 => ?_)
    refine oz_iload (q := 7) cx d_Line_waysBehind_5 rfl 3 rfl ?_
    refine oz_aload_n (q := 8) cx d_Line_waysBehind_7 rfl rfl 0 rfl ?_
    refine oz_get (q := 11) cx 53 3 (by decide) (ci := 6) rfl rfl tin_Line (by decide) rfl rfl tw_186 d_Line_waysBehind_8 rfl ?_
    refine oz_get (q := 14) cx 6 0 (by decide) (ci := 3) rfl rfl tin_Order (by decide) rfl rfl tw_72 d_Line_waysBehind_11 rfl ?_
    refine oz_icmp_ge (q := 17) cx d_Line_waysBehind_14 rfl rfl (fun h10 => ?_) (fun h10 => ?_)
    · exact oz_lv [2] rfl (oz_leaf (fun h => h))
    · refine oz_aload_n (q := 18) cx d_Line_waysBehind_17 rfl rfl 0 rfl ?_
      refine oz_get (q := 21) cx 53 3 (by decide) (ci := 6) rfl rfl tin_Line (by decide) rfl rfl tw_186 d_Line_waysBehind_18 rfl ?_
      refine oz_get (q := 24) cx 6 1 (by decide) (ci := 3) rfl rfl tin_Order (by decide) rfl rfl tw_79 d_Line_waysBehind_21 rfl ?_
      refine oz_iload (q := 26) cx d_Line_waysBehind_24 rfl 3 rfl ?_
      refine oz_iald (q := 27) cx 7 14 (by decide) rfl d_Line_waysBehind_26 rfl (fun j2 hj2 => ?_)
      refine oz_iload_n (q := 28) cx d_Line_waysBehind_27 rfl rfl 1 rfl ?_
      refine oz_iconst (q := 29) cx d_Line_waysBehind_28 rfl (v := (-1)) rfl ?_
      refine oz_ixor (q := 30) cx d_Line_waysBehind_29 rfl ?_
      refine oz_iand (q := 31) cx d_Line_waysBehind_30 rfl ?_
      refine oz_seq (p2 := 39) (lv2 := fun (z3 : Int32) => [(0, .ref (oz_b G + 53)), (1, .int a0), (2, .long s1.1), (4, .int s1.2)]) (st2 := fun z3 => [.int z3]) (M2 := fun z3 => M) ?_ (fun z3 => ?_)
      · refine oz_if_ne (q := 34) cx d_Line_waysBehind_31 rfl rfl (fun h4 => ?_) (fun h4 => ?_)
        · refine oz_iconst (q := 39) cx d_Line_waysBehind_38 rfl (v := 0) rfl ?_
          exact oz_lv [0, 1, 2, 3] rfl (oz_leaf (fun h => h))
        · refine oz_iconst (q := 35) cx d_Line_waysBehind_34 rfl (v := 1) rfl ?_
          refine oz_goto cx d_Line_waysBehind_35 rfl ?_
          exact oz_lv [0, 1, 2, 3] rfl (oz_leaf (fun h => h))
      · refine oz_istore (q := 41) cx d_Line_waysBehind_39 rfl (by rw [hnL]; decide) (lv2 := [(5, .int z3), (0, .ref (oz_b G + 53)), (1, .int a0), (2, .long s1.1), (4, .int s1.2)]) rfl ?_
        refine oz_iload_n (q := 42) cx d_Line_waysBehind_41 rfl rfl 2 rfl ?_
        refine oz_iload (q := 44) cx d_Line_waysBehind_42 rfl 4 rfl ?_
        refine oz_cSNip (q := 47) cx [.int a0, .int s1.2] 2 hRm (by decide) (by decide) (fun _ h => c_Hall_has h) tn_341 ⟨tw_274, tw_1⟩ tw_275 (by decide +kernel) rfl (st := []) rfl (Nat.le_of_ble_eq_true rfl) d_Line_waysBehind_44 rfl (fun v5 hv5 => ?_)
        refine oz_if_eq (q := 50) cx d_Line_waysBehind_47 rfl rfl (fun h9 => ?_) (fun h9 => ?_)
        · refine oz_iload (q := 59) cx d_Line_waysBehind_57 rfl 0 rfl ?_
          refine oz_if_eq (q := 62) cx d_Line_waysBehind_59 rfl rfl (fun h7 => ?_) (fun h7 => ?_)
          · refine oz_iinc (q := 79) cx (s1.2 + 1) d_Line_waysBehind_76 rfl 4 rfl rfl (by rw [hnL]; decide) (lv2 := [(4, .int (s1.2 + 1)), (5, .int z3), (0, .ref (oz_b G + 53)), (1, .int a0), (2, .long s1.1)]) rfl ?_
            refine oz_goto cx d_Line_waysBehind_79 rfl ?_
            exact oz_lv [2, 3, 4, 0] rfl (oz_leaf (fun h => h))
          · refine oz_lload_n (q := 63) cx d_Line_waysBehind_62 rfl rfl 3 rfl ?_
            refine oz_aload_n (q := 64) cx d_Line_waysBehind_63 rfl rfl 1 rfl ?_
            refine oz_get (q := 67) cx 53 4 (by decide) (ci := 6) rfl rfl tin_Line (by decide) rfl rfl tw_187 d_Line_waysBehind_64 rfl ?_
            refine oz_iload_n (q := 68) cx d_Line_waysBehind_67 rfl rfl 2 rfl ?_
            refine oz_iconst (q := 69) cx d_Line_waysBehind_68 rfl (v := 1) rfl ?_
            refine oz_iload (q := 71) cx d_Line_waysBehind_69 rfl 4 rfl ?_
            refine oz_ishl (q := 72) cx d_Line_waysBehind_71 rfl ?_
            refine oz_ior (q := 73) cx d_Line_waysBehind_72 rfl ?_
            refine oz_lald (q := 74) cx 55 16384 (by decide) rfl d_Line_waysBehind_73 rfl (fun j6 hj6 => ?_)
            refine oz_ladd (q := 75) cx d_Line_waysBehind_74 rfl ?_
            refine oz_lstore_n (q := 76) cx d_Line_waysBehind_75 rfl rfl (by rw [hnL]; decide) (lv2 := [(2, .long (s1.1 + (M.2 55 j6))), (5, .int z3), (0, .ref (oz_b G + 53)), (1, .int a0), (4, .int s1.2)]) rfl ?_
            refine oz_iinc (q := 79) cx (s1.2 + 1) d_Line_waysBehind_76 rfl 4 rfl rfl (by rw [hnL]; decide) (lv2 := [(4, .int (s1.2 + 1)), (2, .long (s1.1 + (M.2 55 j6))), (5, .int z3), (0, .ref (oz_b G + 53)), (1, .int a0)]) rfl ?_
            refine oz_goto cx d_Line_waysBehind_79 rfl ?_
            exact oz_lv [3, 4, 1, 0] rfl (oz_leaf (fun h => h))
        · refine oz_iload (q := 52) cx d_Line_waysBehind_50 rfl 0 rfl ?_
          refine oz_if_ne (q := 55) cx d_Line_waysBehind_52 rfl rfl (fun h8 => ?_) (fun h8 => ?_)
          · refine oz_iinc (q := 79) cx (s1.2 + 1) d_Line_waysBehind_76 rfl 4 rfl rfl (by rw [hnL]; decide) (lv2 := [(4, .int (s1.2 + 1)), (5, .int z3), (0, .ref (oz_b G + 53)), (1, .int a0), (2, .long s1.1)]) rfl ?_
            refine oz_goto cx d_Line_waysBehind_79 rfl ?_
            exact oz_lv [2, 3, 4, 0] rfl (oz_leaf (fun h => h))
          · refine oz_lconst (q := 56) cx d_Line_waysBehind_55 rfl (v := 0) rfl ?_
            exact oz_wrap (oz_lretp cx hR d_Line_waysBehind_56) (fun h => h)
  · refine oz_lload_n (q := 83) cx d_Line_waysBehind_82 rfl rfl 0 rfl ?_
    exact oz_lretp cx hR d_Line_waysBehind_83
def y_Line_waysWith : MethodName := ⟨"OrderHall$Line", "waysWith", "(II)J"⟩
theorem d_Line_waysWith_0 : decode prog_5_method_6_code 0 = .ok (.iload_n 1, 1) := by decide +kernel
theorem d_Line_waysWith_1 : decode prog_5_method_6_code 1 = .ok (.iload_n 2, 1) := by decide +kernel
theorem d_Line_waysWith_2 : decode prog_5_method_6_code 2 = .ok (.invokestatic 50, 3) := by decide +kernel
theorem d_Line_waysWith_5 : decode prog_5_method_6_code 5 = .ok (.ifCond .eq 7, 3) := by decide +kernel
theorem d_Line_waysWith_8 : decode prog_5_method_6_code 8 = .ok (.lconst 0, 1) := by decide +kernel
theorem d_Line_waysWith_9 : decode prog_5_method_6_code 9 = .ok (.goto 13, 3) := by decide +kernel
theorem d_Line_waysWith_12 : decode prog_5_method_6_code 12 = .ok (.aload_n 0, 1) := by decide +kernel
theorem d_Line_waysWith_13 : decode prog_5_method_6_code 13 = .ok (.getfield 22, 3) := by decide +kernel
theorem d_Line_waysWith_16 : decode prog_5_method_6_code 16 = .ok (.iload_n 1, 1) := by decide +kernel
theorem d_Line_waysWith_17 : decode prog_5_method_6_code 17 = .ok (.iconst 1, 1) := by decide +kernel
theorem d_Line_waysWith_18 : decode prog_5_method_6_code 18 = .ok (.iload_n 2, 1) := by decide +kernel
theorem d_Line_waysWith_19 : decode prog_5_method_6_code 19 = .ok (.ishl, 1) := by decide +kernel
theorem d_Line_waysWith_20 : decode prog_5_method_6_code 20 = .ok (.ior, 1) := by decide +kernel
theorem d_Line_waysWith_21 : decode prog_5_method_6_code 21 = .ok (.laload, 1) := by decide +kernel
theorem d_Line_waysWith_22 : decode prog_5_method_6_code 22 = .ok (.lreturn, 1) := by decide +kernel
def f_Line_waysWith (a0 : Int32) (a1 : Int32) (M : oz_M) : Option (Int64) := (f_Hall_has a0 a1 M).bind fun v1 => if v1 = 0 then ((oz_in (a0 ||| (1 <<< (a1 &&& 31))) 16384).bind fun j2 => some (M.2 55 j2)) else (some 0)
set_option maxRecDepth 20000 in
set_option maxHeartbeats 4000000 in
theorem c_Line_waysWith {l : Launch} {D : va_G} {cs : Nat → ClassId} {b : Nat} {a0 : Int32} {a1 : Int32} {M : oz_M} {vz : Int64} (hF : f_Line_waysWith a0 a1 M = some vz) : oz_Met l D cs b y_Line_waysWith prog_5_method_6_code 3 (some .long) (oz_rm 1) [.ref (b + 53), .int a0, .int a1] M (some (.long vz)) M := by
  refine oz_enter (by decide) (Nat.le_of_ble_eq_true rfl) (fun G cx hR e1 hRm e2 e3 e4 hnL => ?_)
  subst e1; subst e2; subst e3; subst e4
  refine (?_ : oz_R G 0 [(0, .ref (oz_b G + 53)), (1, .int a0), (2, .int a1)] [] M (f_Line_waysWith a0 a1 M) (fun x => x = vz)) _ hF rfl
  unfold f_Line_waysWith
  refine oz_iload_n (q := 1) cx d_Line_waysWith_0 rfl rfl 1 rfl ?_
  refine oz_iload_n (q := 2) cx d_Line_waysWith_1 rfl rfl 2 rfl ?_
  refine oz_cSNip (q := 5) cx [.int a0, .int a1] 2 hRm (by decide) (by decide) (fun _ h => c_Hall_has h) tn_341 ⟨tw_274, tw_1⟩ tw_275 (by decide +kernel) rfl (st := []) rfl (Nat.le_of_ble_eq_true rfl) d_Line_waysWith_2 rfl (fun v1 hv1 => ?_)
  refine oz_if_eq (q := 8) cx d_Line_waysWith_5 rfl rfl (fun h3 => ?_) (fun h3 => ?_)
  · refine oz_aload_n (q := 13) cx d_Line_waysWith_12 rfl rfl 0 rfl ?_
    refine oz_get (q := 16) cx 53 4 (by decide) (ci := 6) rfl rfl tin_Line (by decide) rfl rfl tw_187 d_Line_waysWith_13 rfl ?_
    refine oz_iload_n (q := 17) cx d_Line_waysWith_16 rfl rfl 1 rfl ?_
    refine oz_iconst (q := 18) cx d_Line_waysWith_17 rfl (v := 1) rfl ?_
    refine oz_iload_n (q := 19) cx d_Line_waysWith_18 rfl rfl 2 rfl ?_
    refine oz_ishl (q := 20) cx d_Line_waysWith_19 rfl ?_
    refine oz_ior (q := 21) cx d_Line_waysWith_20 rfl ?_
    refine oz_lald (q := 22) cx 55 16384 (by decide) rfl d_Line_waysWith_21 rfl (fun j2 hj2 => ?_)
    exact oz_lretp cx hR d_Line_waysWith_22
  · refine oz_lconst (q := 9) cx d_Line_waysWith_8 rfl (v := 0) rfl ?_
    refine oz_goto cx d_Line_waysWith_9 rfl ?_
    exact oz_lretp cx hR d_Line_waysWith_22
def y_Order_belowOf : MethodName := ⟨"OrderHall$Order", "belowOf", "(I)I"⟩
theorem d_Order_belowOf_0 : decode prog_6_method_5_code 0 = .ok (.iconst 0, 1) := by decide +kernel
theorem d_Order_belowOf_1 : decode prog_6_method_5_code 1 = .ok (.istore_n 2, 1) := by decide +kernel
theorem d_Order_belowOf_2 : decode prog_6_method_5_code 2 = .ok (.iconst 0, 1) := by decide +kernel
theorem d_Order_belowOf_3 : decode prog_6_method_5_code 3 = .ok (.istore_n 3, 1) := by decide +kernel
theorem d_Order_belowOf_4 : decode prog_6_method_5_code 4 = .ok (.iload_n 3, 1) := by decide +kernel
theorem d_Order_belowOf_5 : decode prog_6_method_5_code 5 = .ok (.aload_n 0, 1) := by decide +kernel
theorem d_Order_belowOf_6 : decode prog_6_method_5_code 6 = .ok (.getfield 9, 3) := by decide +kernel
theorem d_Order_belowOf_9 : decode prog_6_method_5_code 9 = .ok (.if_icmp .ge 28, 3) := by decide +kernel
theorem d_Order_belowOf_12 : decode prog_6_method_5_code 12 = .ok (.aload_n 0, 1) := by decide +kernel
theorem d_Order_belowOf_13 : decode prog_6_method_5_code 13 = .ok (.getfield 19, 3) := by decide +kernel
theorem d_Order_belowOf_16 : decode prog_6_method_5_code 16 = .ok (.iload_n 3, 1) := by decide +kernel
theorem d_Order_belowOf_17 : decode prog_6_method_5_code 17 = .ok (.iaload, 1) := by decide +kernel
theorem d_Order_belowOf_18 : decode prog_6_method_5_code 18 = .ok (.iload_n 1, 1) := by decide +kernel
theorem d_Order_belowOf_19 : decode prog_6_method_5_code 19 = .ok (.invokestatic 61, 3) := by decide +kernel
theorem d_Order_belowOf_22 : decode prog_6_method_5_code 22 = .ok (.ifCond .eq 9, 3) := by decide +kernel
theorem d_Order_belowOf_25 : decode prog_6_method_5_code 25 = .ok (.iload_n 2, 1) := by decide +kernel
theorem d_Order_belowOf_26 : decode prog_6_method_5_code 26 = .ok (.iconst 1, 1) := by decide +kernel
theorem d_Order_belowOf_27 : decode prog_6_method_5_code 27 = .ok (.iload_n 3, 1) := by decide +kernel
theorem d_Order_belowOf_28 : decode prog_6_method_5_code 28 = .ok (.ishl, 1) := by decide +kernel
theorem d_Order_belowOf_29 : decode prog_6_method_5_code 29 = .ok (.ior, 1) := by decide +kernel
theorem d_Order_belowOf_30 : decode prog_6_method_5_code 30 = .ok (.istore_n 2, 1) := by decide +kernel
theorem d_Order_belowOf_31 : decode prog_6_method_5_code 31 = .ok (.iinc 3 1, 3) := by decide +kernel
theorem d_Order_belowOf_34 : decode prog_6_method_5_code 34 = .ok (.goto (-30), 3) := by decide +kernel
theorem d_Order_belowOf_37 : decode prog_6_method_5_code 37 = .ok (.iload_n 2, 1) := by decide +kernel
theorem d_Order_belowOf_38 : decode prog_6_method_5_code 38 = .ok (.ireturn, 1) := by decide +kernel
noncomputable def f_Order_belowOf (a0 : Int32) (M : oz_M) : Option (Int32) := (oz_lp (fun (s1 : Int32 × Int32) => (if s1.2 < (M.1 6 0) then ((oz_in s1.2 14).bind fun j2 => (f_Hall_has (M.1 8 j2) a0 M).bind fun v3 => if v3 = 0 then (some (.inl (s1.1, s1.2 + 1))) else (some (.inl (s1.1 ||| (1 <<< (s1.2 &&& 31)), s1.2 + 1)))) else (some (.inr (s1.1, s1.2))) : Option ((Int32 × Int32) ⊕ (Int32 × Int32)))) (0, 0)).bind fun (y6 : Int32 × Int32) => some y6.1
set_option maxRecDepth 20000 in
set_option maxHeartbeats 4000000 in
theorem c_Order_belowOf {l : Launch} {D : va_G} {cs : Nat → ClassId} {b : Nat} {a0 : Int32} {M : oz_M} {vz : Int32} (hF : f_Order_belowOf a0 M = some vz) : oz_Met l D cs b y_Order_belowOf prog_6_method_5_code 4 (some .int) (oz_rm 1) [.ref (b + 6), .int a0] M (some (.int vz)) M := by
  refine oz_enter (by decide) (Nat.le_of_ble_eq_true rfl) (fun G cx hR e1 hRm e2 e3 e4 hnL => ?_)
  subst e1; subst e2; subst e3; subst e4
  refine (?_ : oz_R G 0 [(0, .ref (oz_b G + 6)), (1, .int a0)] [] M (f_Order_belowOf a0 M) (fun x => x = vz)) _ hF rfl
  unfold f_Order_belowOf
  refine oz_iconst (q := 1) cx d_Order_belowOf_0 rfl (v := 0) rfl ?_
  refine oz_istore_n (q := 2) cx d_Order_belowOf_1 rfl rfl (by rw [hnL]; decide) (lv2 := [(2, .int 0), (0, .ref (oz_b G + 6)), (1, .int a0)]) rfl ?_
  refine oz_iconst (q := 3) cx d_Order_belowOf_2 rfl (v := 0) rfl ?_
  refine oz_istore_n (q := 4) cx d_Order_belowOf_3 rfl rfl (by rw [hnL]; decide) (lv2 := [(3, .int 0), (2, .int 0), (0, .ref (oz_b G + 6)), (1, .int a0)]) rfl ?_
  refine oz_lv [2, 3, 1, 0] rfl ?_
  refine oz_seq (p2 := 37) (lv2 := fun (y6 : Int32 × Int32) => [(2, .int y6.1)]) (st2 := fun y6 => []) (M2 := fun y6 => M) ?_ (fun y6 => ?_)
  · refine oz_loop (Y := Int32 × Int32) 4 (fun (s1 : Int32 × Int32) => [(0, .ref (oz_b G + 6)), (1, .int a0), (2, .int s1.1), (3, .int s1.2)]) (fun (s1 : Int32 × Int32) => M) (0, 0) (fun s1 => ?_)
    refine oz_iload_n (q := 5) cx d_Order_belowOf_4 rfl rfl 3 rfl ?_
    refine oz_aload_n (q := 6) cx d_Order_belowOf_5 rfl rfl 0 rfl ?_
    refine oz_get (q := 9) cx 6 0 (by decide) (ci := 3) rfl rfl tin_Order (by decide) rfl rfl tw_69 d_Order_belowOf_6 rfl ?_
    refine oz_icmp_ge (q := 12) cx d_Order_belowOf_9 rfl rfl (fun h5 => ?_) (fun h5 => ?_)
    · exact oz_lv [2] rfl (oz_leaf (fun h => h))
    · refine oz_aload_n (q := 13) cx d_Order_belowOf_12 rfl rfl 0 rfl ?_
      refine oz_get (q := 16) cx 6 2 (by decide) (ci := 3) rfl rfl tin_Order (by decide) rfl rfl tw_82 d_Order_belowOf_13 rfl ?_
      refine oz_iload_n (q := 17) cx d_Order_belowOf_16 rfl rfl 3 rfl ?_
      refine oz_iald (q := 18) cx 8 14 (by decide) rfl d_Order_belowOf_17 rfl (fun j2 hj2 => ?_)
      refine oz_iload_n (q := 19) cx d_Order_belowOf_18 rfl rfl 1 rfl ?_
      refine oz_cSNip (q := 22) cx [.int (M.1 8 j2), .int a0] 2 hRm (by decide) (by decide) (fun _ h => c_Hall_has h) tn_295 ⟨tw_274, tw_1⟩ tw_275 (by decide +kernel) rfl (st := []) rfl (Nat.le_of_ble_eq_true rfl) d_Order_belowOf_19 rfl (fun v3 hv3 => ?_)
      refine oz_if_eq (q := 25) cx d_Order_belowOf_22 rfl rfl (fun h4 => ?_) (fun h4 => ?_)
      · refine oz_iinc (q := 34) cx (s1.2 + 1) d_Order_belowOf_31 rfl 3 rfl rfl (by rw [hnL]; decide) (lv2 := [(3, .int (s1.2 + 1)), (0, .ref (oz_b G + 6)), (1, .int a0), (2, .int s1.1)]) rfl ?_
        refine oz_goto cx d_Order_belowOf_34 rfl ?_
        exact oz_lv [1, 2, 3, 0] rfl (oz_leaf (fun h => h))
      · refine oz_iload_n (q := 26) cx d_Order_belowOf_25 rfl rfl 2 rfl ?_
        refine oz_iconst (q := 27) cx d_Order_belowOf_26 rfl (v := 1) rfl ?_
        refine oz_iload_n (q := 28) cx d_Order_belowOf_27 rfl rfl 3 rfl ?_
        refine oz_ishl (q := 29) cx d_Order_belowOf_28 rfl ?_
        refine oz_ior (q := 30) cx d_Order_belowOf_29 rfl ?_
        refine oz_istore_n (q := 31) cx d_Order_belowOf_30 rfl rfl (by rw [hnL]; decide) (lv2 := [(2, .int (s1.1 ||| (1 <<< (s1.2 &&& 31)))), (0, .ref (oz_b G + 6)), (1, .int a0), (3, .int s1.2)]) rfl ?_
        refine oz_iinc (q := 34) cx (s1.2 + 1) d_Order_belowOf_31 rfl 3 rfl rfl (by rw [hnL]; decide) (lv2 := [(3, .int (s1.2 + 1)), (2, .int (s1.1 ||| (1 <<< (s1.2 &&& 31)))), (0, .ref (oz_b G + 6)), (1, .int a0)]) rfl ?_
        refine oz_goto cx d_Order_belowOf_34 rfl ?_
        exact oz_lv [2, 3, 1, 0] rfl (oz_leaf (fun h => h))
  · refine oz_iload_n (q := 38) cx d_Order_belowOf_37 rfl rfl 0 rfl ?_
    exact oz_iretp cx hR d_Order_belowOf_38
def y_Order_closeAbove : MethodName := ⟨"OrderHall$Order", "closeAbove", "(LOrderHall$Arcs;)V"⟩
theorem d_Order_closeAbove_0 : decode prog_6_method_4_code 0 = .ok (.iconst 0, 1) := by decide +kernel
theorem d_Order_closeAbove_1 : decode prog_6_method_4_code 1 = .ok (.istore_n 2, 1) := by decide +kernel
theorem d_Order_closeAbove_2 : decode prog_6_method_4_code 2 = .ok (.iload_n 2, 1) := by decide +kernel
theorem d_Order_closeAbove_3 : decode prog_6_method_4_code 3 = .ok (.aload_n 0, 1) := by decide +kernel
theorem d_Order_closeAbove_4 : decode prog_6_method_4_code 4 = .ok (.getfield 9, 3) := by decide +kernel
theorem d_Order_closeAbove_7 : decode prog_6_method_4_code 7 = .ok (.if_icmp .ge 21, 3) := by decide +kernel
theorem d_Order_closeAbove_10 : decode prog_6_method_4_code 10 = .ok (.aload_n 0, 1) := by decide +kernel
theorem d_Order_closeAbove_11 : decode prog_6_method_4_code 11 = .ok (.getfield 19, 3) := by decide +kernel
theorem d_Order_closeAbove_14 : decode prog_6_method_4_code 14 = .ok (.iload_n 2, 1) := by decide +kernel
theorem d_Order_closeAbove_15 : decode prog_6_method_4_code 15 = .ok (.aload_n 1, 1) := by decide +kernel
theorem d_Order_closeAbove_16 : decode prog_6_method_4_code 16 = .ok (.getfield 58, 3) := by decide +kernel
theorem d_Order_closeAbove_19 : decode prog_6_method_4_code 19 = .ok (.iload_n 2, 1) := by decide +kernel
theorem d_Order_closeAbove_20 : decode prog_6_method_4_code 20 = .ok (.iaload, 1) := by decide +kernel
theorem d_Order_closeAbove_21 : decode prog_6_method_4_code 21 = .ok (.iastore, 1) := by decide +kernel
theorem d_Order_closeAbove_22 : decode prog_6_method_4_code 22 = .ok (.iinc 2 1, 3) := by decide +kernel
theorem d_Order_closeAbove_25 : decode prog_6_method_4_code 25 = .ok (.goto (-23), 3) := by decide +kernel
theorem d_Order_closeAbove_28 : decode prog_6_method_4_code 28 = .ok (.iconst 0, 1) := by decide +kernel
theorem d_Order_closeAbove_29 : decode prog_6_method_4_code 29 = .ok (.istore_n 2, 1) := by decide +kernel
theorem d_Order_closeAbove_30 : decode prog_6_method_4_code 30 = .ok (.iload_n 2, 1) := by decide +kernel
theorem d_Order_closeAbove_31 : decode prog_6_method_4_code 31 = .ok (.aload_n 0, 1) := by decide +kernel
theorem d_Order_closeAbove_32 : decode prog_6_method_4_code 32 = .ok (.getfield 9, 3) := by decide +kernel
theorem d_Order_closeAbove_35 : decode prog_6_method_4_code 35 = .ok (.if_icmp .ge 53, 3) := by decide +kernel
theorem d_Order_closeAbove_38 : decode prog_6_method_4_code 38 = .ok (.iconst 0, 1) := by decide +kernel
theorem d_Order_closeAbove_39 : decode prog_6_method_4_code 39 = .ok (.istore_n 3, 1) := by decide +kernel
theorem d_Order_closeAbove_40 : decode prog_6_method_4_code 40 = .ok (.iload_n 3, 1) := by decide +kernel
theorem d_Order_closeAbove_41 : decode prog_6_method_4_code 41 = .ok (.aload_n 0, 1) := by decide +kernel
theorem d_Order_closeAbove_42 : decode prog_6_method_4_code 42 = .ok (.getfield 9, 3) := by decide +kernel
theorem d_Order_closeAbove_45 : decode prog_6_method_4_code 45 = .ok (.if_icmp .ge 37, 3) := by decide +kernel
theorem d_Order_closeAbove_48 : decode prog_6_method_4_code 48 = .ok (.aload_n 0, 1) := by decide +kernel
theorem d_Order_closeAbove_49 : decode prog_6_method_4_code 49 = .ok (.getfield 19, 3) := by decide +kernel
theorem d_Order_closeAbove_52 : decode prog_6_method_4_code 52 = .ok (.iload_n 3, 1) := by decide +kernel
theorem d_Order_closeAbove_53 : decode prog_6_method_4_code 53 = .ok (.iaload, 1) := by decide +kernel
theorem d_Order_closeAbove_54 : decode prog_6_method_4_code 54 = .ok (.iload_n 2, 1) := by decide +kernel
theorem d_Order_closeAbove_55 : decode prog_6_method_4_code 55 = .ok (.invokestatic 61, 3) := by decide +kernel
theorem d_Order_closeAbove_58 : decode prog_6_method_4_code 58 = .ok (.ifCond .eq 18, 3) := by decide +kernel
theorem d_Order_closeAbove_61 : decode prog_6_method_4_code 61 = .ok (.aload_n 0, 1) := by decide +kernel
theorem d_Order_closeAbove_62 : decode prog_6_method_4_code 62 = .ok (.getfield 19, 3) := by decide +kernel
theorem d_Order_closeAbove_65 : decode prog_6_method_4_code 65 = .ok (.iload_n 3, 1) := by decide +kernel
theorem d_Order_closeAbove_66 : decode prog_6_method_4_code 66 = .ok (.dup2, 1) := by decide +kernel
theorem d_Order_closeAbove_67 : decode prog_6_method_4_code 67 = .ok (.iaload, 1) := by decide +kernel
theorem d_Order_closeAbove_68 : decode prog_6_method_4_code 68 = .ok (.aload_n 0, 1) := by decide +kernel
theorem d_Order_closeAbove_69 : decode prog_6_method_4_code 69 = .ok (.getfield 19, 3) := by decide +kernel
theorem d_Order_closeAbove_72 : decode prog_6_method_4_code 72 = .ok (.iload_n 2, 1) := by decide +kernel
theorem d_Order_closeAbove_73 : decode prog_6_method_4_code 73 = .ok (.iaload, 1) := by decide +kernel
theorem d_Order_closeAbove_74 : decode prog_6_method_4_code 74 = .ok (.ior, 1) := by decide +kernel
theorem d_Order_closeAbove_75 : decode prog_6_method_4_code 75 = .ok (.iastore, 1) := by decide +kernel
theorem d_Order_closeAbove_76 : decode prog_6_method_4_code 76 = .ok (.iinc 3 1, 3) := by decide +kernel
theorem d_Order_closeAbove_79 : decode prog_6_method_4_code 79 = .ok (.goto (-39), 3) := by decide +kernel
theorem d_Order_closeAbove_82 : decode prog_6_method_4_code 82 = .ok (.iinc 2 1, 3) := by decide +kernel
theorem d_Order_closeAbove_85 : decode prog_6_method_4_code 85 = .ok (.goto (-55), 3) := by decide +kernel
theorem d_Order_closeAbove_88 : decode prog_6_method_4_code 88 = .ok (.return_, 1) := by decide +kernel
noncomputable def f_Order_closeAbove (M : oz_M) : Option (Unit × oz_M) := (oz_lp (fun (s1 : Int32 × oz_M) => (if s1.1 < (s1.2.1 6 0) then ((oz_in s1.1 14).bind fun j2 => (oz_in s1.1 14).bind fun j3 => (some (oz_s s1.2 8 j3 (s1.2.1 2 j2))).bind fun M4 => some (.inl (s1.1 + 1, M4))) else (some (.inr (s1.1, s1.2))) : Option ((Int32 × oz_M) ⊕ (Int32 × oz_M)))) (0, M)).bind fun (y6 : Int32 × oz_M) => (oz_lp (fun (s7 : Int32 × oz_M) => (if s7.1 < (s7.2.1 6 0) then ((oz_lp (fun (s8 : Int32 × oz_M) => (if s8.1 < (s8.2.1 6 0) then ((oz_in s8.1 14).bind fun j9 => (f_Hall_has (s8.2.1 8 j9) s7.1 s8.2).bind fun v10 => if v10 = 0 then (some (.inl (s8.1 + 1, s8.2))) else ((oz_in s8.1 14).bind fun j11 => (oz_in s7.1 14).bind fun j12 => (oz_in s8.1 14).bind fun j13 => (some (oz_s s8.2 8 j13 ((s8.2.1 8 j11) ||| (s8.2.1 8 j12)))).bind fun M14 => some (.inl (s8.1 + 1, M14)))) else (some (.inr (s8.1, s8.2))) : Option ((Int32 × oz_M) ⊕ (Int32 × oz_M)))) (0, s7.2)).bind fun (y17 : Int32 × oz_M) => some (.inl (s7.1 + 1, y17.2))) else (some (.inr (s7.1, s7.2))) : Option ((Int32 × oz_M) ⊕ (Int32 × oz_M)))) (0, y6.2)).bind fun (y19 : Int32 × oz_M) => some ((), y19.2)
set_option maxRecDepth 20000 in
set_option maxHeartbeats 4000000 in
theorem c_Order_closeAbove {l : Launch} {D : va_G} {cs : Nat → ClassId} {b : Nat} {M : oz_M} {vz : Unit} {Mz : oz_M} (hF : f_Order_closeAbove M = some (vz, Mz)) : oz_Met l D cs b y_Order_closeAbove prog_6_method_4_code 4 none (oz_rm 1) [.ref (b + 6), .ref (b + 1)] M (none) Mz := by
  refine oz_enter (by decide) (Nat.le_of_ble_eq_true rfl) (fun G cx hR e1 hRm e2 e3 e4 hnL => ?_)
  subst e1; subst e2; subst e3; subst e4
  refine (?_ : oz_R G 0 [(0, .ref (oz_b G + 6)), (1, .ref (oz_b G + 1))] [] M (f_Order_closeAbove  M) (fun x => x = (vz, Mz))) _ hF rfl
  unfold f_Order_closeAbove
  refine oz_iconst (q := 1) cx d_Order_closeAbove_0 rfl (v := 0) rfl ?_
  refine oz_istore_n (q := 2) cx d_Order_closeAbove_1 rfl rfl (by rw [hnL]; decide) (lv2 := [(2, .int 0), (0, .ref (oz_b G + 6)), (1, .ref (oz_b G + 1))]) rfl ?_
  refine oz_lv [1, 2, 0] rfl ?_
  refine oz_seq (p2 := 28) (lv2 := fun (y6 : Int32 × oz_M) => [(0, .ref (oz_b G + 6))]) (st2 := fun y6 => []) (M2 := fun y6 => y6.2) ?_ (fun y6 => ?_)
  · refine oz_loop (Y := Int32 × oz_M) 2 (fun (s1 : Int32 × oz_M) => [(0, .ref (oz_b G + 6)), (1, .ref (oz_b G + 1)), (2, .int s1.1)]) (fun (s1 : Int32 × oz_M) => s1.2) (0, M) (fun s1 => ?_)
    refine oz_iload_n (q := 3) cx d_Order_closeAbove_2 rfl rfl 2 rfl ?_
    refine oz_aload_n (q := 4) cx d_Order_closeAbove_3 rfl rfl 0 rfl ?_
    refine oz_get (q := 7) cx 6 0 (by decide) (ci := 3) rfl rfl tin_Order (by decide) rfl rfl tw_69 d_Order_closeAbove_4 rfl ?_
    refine oz_icmp_ge (q := 10) cx d_Order_closeAbove_7 rfl rfl (fun h5 => ?_) (fun h5 => ?_)
    · exact oz_lv [0] rfl (oz_leaf (fun h => h))
    · refine oz_aload_n (q := 11) cx d_Order_closeAbove_10 rfl rfl 0 rfl ?_
      refine oz_get (q := 14) cx 6 2 (by decide) (ci := 3) rfl rfl tin_Order (by decide) rfl rfl tw_82 d_Order_closeAbove_11 rfl ?_
      refine oz_iload_n (q := 15) cx d_Order_closeAbove_14 rfl rfl 2 rfl ?_
      refine oz_aload_n (q := 16) cx d_Order_closeAbove_15 rfl rfl 1 rfl ?_
      refine oz_get (q := 19) cx 1 1 (by decide) (ci := 1) rfl rfl tin_Arcs (by decide) rfl rfl tw_37 d_Order_closeAbove_16 rfl ?_
      refine oz_iload_n (q := 20) cx d_Order_closeAbove_19 rfl rfl 2 rfl ?_
      refine oz_iald (q := 21) cx 2 14 (by decide) rfl d_Order_closeAbove_20 rfl (fun j2 hj2 => ?_)
      refine oz_iast (q := 22) cx 8 14 (by decide) (fun _ => rfl) d_Order_closeAbove_21 rfl (fun j3 hj3 => ?_)
      refine oz_nm (fun M4 hM4 => ?_)
      refine oz_iinc (q := 25) cx (s1.1 + 1) d_Order_closeAbove_22 rfl 2 rfl rfl (by rw [hnL]; decide) (lv2 := [(2, .int (s1.1 + 1)), (0, .ref (oz_b G + 6)), (1, .ref (oz_b G + 1))]) rfl ?_
      refine oz_goto cx d_Order_closeAbove_25 rfl ?_
      exact oz_lv [1, 2, 0] rfl (oz_leaf (fun h => h))
  · refine oz_iconst (q := 29) cx d_Order_closeAbove_28 rfl (v := 0) rfl ?_
    refine oz_istore_n (q := 30) cx d_Order_closeAbove_29 rfl rfl (by rw [hnL]; decide) (lv2 := [(2, .int 0), (0, .ref (oz_b G + 6))]) rfl ?_
    refine oz_lv [1, 0] rfl ?_
    refine oz_seq (p2 := 88) (lv2 := fun (y19 : Int32 × oz_M) => []) (st2 := fun y19 => []) (M2 := fun y19 => y19.2) ?_ (fun y19 => ?_)
    · refine oz_loop (Y := Int32 × oz_M) 30 (fun (s7 : Int32 × oz_M) => [(0, .ref (oz_b G + 6)), (2, .int s7.1)]) (fun (s7 : Int32 × oz_M) => s7.2) (0, y6.2) (fun s7 => ?_)
      refine oz_iload_n (q := 31) cx d_Order_closeAbove_30 rfl rfl 1 rfl ?_
      refine oz_aload_n (q := 32) cx d_Order_closeAbove_31 rfl rfl 0 rfl ?_
      refine oz_get (q := 35) cx 6 0 (by decide) (ci := 3) rfl rfl tin_Order (by decide) rfl rfl tw_69 d_Order_closeAbove_32 rfl ?_
      refine oz_icmp_ge (q := 38) cx d_Order_closeAbove_35 rfl rfl (fun h18 => ?_) (fun h18 => ?_)
      · exact oz_lv [] rfl (oz_leaf (fun h => h))
      · refine oz_iconst (q := 39) cx d_Order_closeAbove_38 rfl (v := 0) rfl ?_
        refine oz_istore_n (q := 40) cx d_Order_closeAbove_39 rfl rfl (by rw [hnL]; decide) (lv2 := [(3, .int 0), (0, .ref (oz_b G + 6)), (2, .int s7.1)]) rfl ?_
        refine oz_lv [1, 2, 0] rfl ?_
        refine oz_seq (p2 := 82) (lv2 := fun (y17 : Int32 × oz_M) => [(0, .ref (oz_b G + 6)), (2, .int s7.1)]) (st2 := fun y17 => []) (M2 := fun y17 => y17.2) ?_ (fun y17 => ?_)
        · refine oz_loop (Y := Int32 × oz_M) 40 (fun (s8 : Int32 × oz_M) => [(0, .ref (oz_b G + 6)), (2, .int s7.1), (3, .int s8.1)]) (fun (s8 : Int32 × oz_M) => s8.2) (0, s7.2) (fun s8 => ?_)
          refine oz_iload_n (q := 41) cx d_Order_closeAbove_40 rfl rfl 2 rfl ?_
          refine oz_aload_n (q := 42) cx d_Order_closeAbove_41 rfl rfl 0 rfl ?_
          refine oz_get (q := 45) cx 6 0 (by decide) (ci := 3) rfl rfl tin_Order (by decide) rfl rfl tw_69 d_Order_closeAbove_42 rfl ?_
          refine oz_icmp_ge (q := 48) cx d_Order_closeAbove_45 rfl rfl (fun h16 => ?_) (fun h16 => ?_)
          · exact oz_lv [0, 1] rfl (oz_leaf (fun h => h))
          · refine oz_aload_n (q := 49) cx d_Order_closeAbove_48 rfl rfl 0 rfl ?_
            refine oz_get (q := 52) cx 6 2 (by decide) (ci := 3) rfl rfl tin_Order (by decide) rfl rfl tw_82 d_Order_closeAbove_49 rfl ?_
            refine oz_iload_n (q := 53) cx d_Order_closeAbove_52 rfl rfl 2 rfl ?_
            refine oz_iald (q := 54) cx 8 14 (by decide) rfl d_Order_closeAbove_53 rfl (fun j9 hj9 => ?_)
            refine oz_iload_n (q := 55) cx d_Order_closeAbove_54 rfl rfl 1 rfl ?_
            refine oz_cSNip (q := 58) cx [.int (s8.2.1 8 j9), .int s7.1] 2 hRm (by decide) (by decide) (fun _ h => c_Hall_has h) tn_295 ⟨tw_274, tw_1⟩ tw_275 (by decide +kernel) rfl (st := []) rfl (Nat.le_of_ble_eq_true rfl) d_Order_closeAbove_55 rfl (fun v10 hv10 => ?_)
            refine oz_if_eq (q := 61) cx d_Order_closeAbove_58 rfl rfl (fun h15 => ?_) (fun h15 => ?_)
            · refine oz_iinc (q := 79) cx (s8.1 + 1) d_Order_closeAbove_76 rfl 2 rfl rfl (by rw [hnL]; decide) (lv2 := [(3, .int (s8.1 + 1)), (0, .ref (oz_b G + 6)), (2, .int s7.1)]) rfl ?_
              refine oz_goto cx d_Order_closeAbove_79 rfl ?_
              exact oz_lv [1, 2, 0] rfl (oz_leaf (fun h => h))
            · refine oz_aload_n (q := 62) cx d_Order_closeAbove_61 rfl rfl 0 rfl ?_
              refine oz_get (q := 65) cx 6 2 (by decide) (ci := 3) rfl rfl tin_Order (by decide) rfl rfl tw_82 d_Order_closeAbove_62 rfl ?_
              refine oz_iload_n (q := 66) cx d_Order_closeAbove_65 rfl rfl 2 rfl ?_
              refine oz_dup2 (q := 67) cx d_Order_closeAbove_66 rfl rfl rfl ?_
              refine oz_iald (q := 68) cx 8 14 (by decide) rfl d_Order_closeAbove_67 rfl (fun j11 hj11 => ?_)
              refine oz_aload_n (q := 69) cx d_Order_closeAbove_68 rfl rfl 0 rfl ?_
              refine oz_get (q := 72) cx 6 2 (by decide) (ci := 3) rfl rfl tin_Order (by decide) rfl rfl tw_82 d_Order_closeAbove_69 rfl ?_
              refine oz_iload_n (q := 73) cx d_Order_closeAbove_72 rfl rfl 1 rfl ?_
              refine oz_iald (q := 74) cx 8 14 (by decide) rfl d_Order_closeAbove_73 rfl (fun j12 hj12 => ?_)
              refine oz_ior (q := 75) cx d_Order_closeAbove_74 rfl ?_
              refine oz_iast (q := 76) cx 8 14 (by decide) (fun _ => rfl) d_Order_closeAbove_75 rfl (fun j13 hj13 => ?_)
              refine oz_nm (fun M14 hM14 => ?_)
              refine oz_iinc (q := 79) cx (s8.1 + 1) d_Order_closeAbove_76 rfl 2 rfl rfl (by rw [hnL]; decide) (lv2 := [(3, .int (s8.1 + 1)), (0, .ref (oz_b G + 6)), (2, .int s7.1)]) rfl ?_
              refine oz_goto cx d_Order_closeAbove_79 rfl ?_
              exact oz_lv [1, 2, 0] rfl (oz_leaf (fun h => h))
        · refine oz_iinc (q := 85) cx (s7.1 + 1) d_Order_closeAbove_82 rfl 1 rfl rfl (by rw [hnL]; decide) (lv2 := [(2, .int (s7.1 + 1)), (0, .ref (oz_b G + 6))]) rfl ?_
          refine oz_goto cx d_Order_closeAbove_85 rfl ?_
          exact oz_lv [1, 0] rfl (oz_leaf (fun h => h))
    · exact oz_vret cx hR d_Order_closeAbove_88
def y_Order_ends : MethodName := ⟨"OrderHall$Order", "ends", "(I[I)I"⟩
theorem d_Order_ends_0 : decode prog_6_method_11_code 0 = .ok (.iconst 0, 1) := by decide +kernel
theorem d_Order_ends_1 : decode prog_6_method_11_code 1 = .ok (.istore_n 3, 1) := by decide +kernel
theorem d_Order_ends_2 : decode prog_6_method_11_code 2 = .ok (.iconst 0, 1) := by decide +kernel
theorem d_Order_ends_3 : decode prog_6_method_11_code 3 = .ok (.istore 4, 2) := by decide +kernel
theorem d_Order_ends_5 : decode prog_6_method_11_code 5 = .ok (.iload 4, 2) := by decide +kernel
theorem d_Order_ends_7 : decode prog_6_method_11_code 7 = .ok (.aload_n 0, 1) := by decide +kernel
theorem d_Order_ends_8 : decode prog_6_method_11_code 8 = .ok (.getfield 9, 3) := by decide +kernel
theorem d_Order_ends_11 : decode prog_6_method_11_code 11 = .ok (.if_icmp .ge 34, 3) := by decide +kernel
theorem d_Order_ends_14 : decode prog_6_method_11_code 14 = .ok (.iload_n 1, 1) := by decide +kernel
theorem d_Order_ends_15 : decode prog_6_method_11_code 15 = .ok (.iload 4, 2) := by decide +kernel
theorem d_Order_ends_17 : decode prog_6_method_11_code 17 = .ok (.invokestatic 61, 3) := by decide +kernel
theorem d_Order_ends_20 : decode prog_6_method_11_code 20 = .ok (.ifCond .eq 19, 3) := by decide +kernel
theorem d_Order_ends_23 : decode prog_6_method_11_code 23 = .ok (.aload_n 2, 1) := by decide +kernel
theorem d_Order_ends_24 : decode prog_6_method_11_code 24 = .ok (.iload 4, 2) := by decide +kernel
theorem d_Order_ends_26 : decode prog_6_method_11_code 26 = .ok (.iaload, 1) := by decide +kernel
theorem d_Order_ends_27 : decode prog_6_method_11_code 27 = .ok (.iload_n 1, 1) := by decide +kernel
theorem d_Order_ends_28 : decode prog_6_method_11_code 28 = .ok (.iand, 1) := by decide +kernel
theorem d_Order_ends_29 : decode prog_6_method_11_code 29 = .ok (.ifCond .ne 10, 3) := by decide +kernel
theorem d_Order_ends_32 : decode prog_6_method_11_code 32 = .ok (.iload_n 3, 1) := by decide +kernel
theorem d_Order_ends_33 : decode prog_6_method_11_code 33 = .ok (.iconst 1, 1) := by decide +kernel
theorem d_Order_ends_34 : decode prog_6_method_11_code 34 = .ok (.iload 4, 2) := by decide +kernel
theorem d_Order_ends_36 : decode prog_6_method_11_code 36 = .ok (.ishl, 1) := by decide +kernel
theorem d_Order_ends_37 : decode prog_6_method_11_code 37 = .ok (.ior, 1) := by decide +kernel
theorem d_Order_ends_38 : decode prog_6_method_11_code 38 = .ok (.istore_n 3, 1) := by decide +kernel
theorem d_Order_ends_39 : decode prog_6_method_11_code 39 = .ok (.iinc 4 1, 3) := by decide +kernel
theorem d_Order_ends_42 : decode prog_6_method_11_code 42 = .ok (.goto (-37), 3) := by decide +kernel
theorem d_Order_ends_45 : decode prog_6_method_11_code 45 = .ok (.iload_n 3, 1) := by decide +kernel
theorem d_Order_ends_46 : decode prog_6_method_11_code 46 = .ok (.ireturn, 1) := by decide +kernel
noncomputable def f_Order_ends (a0 : Int32) (a1 : Nat) (M : oz_M) : Option (Int32) := (oz_lp (fun (s1 : Int32 × Int32) => (if s1.2 < (M.1 6 0) then ((f_Hall_has a0 s1.2 M).bind fun v2 => if v2 = 0 then (some (.inl (s1.1, s1.2 + 1))) else ((oz_in s1.2 14).bind fun j3 => if ((M.1 a1 j3) &&& a0) = 0 then (some (.inl (s1.1 ||| (1 <<< (s1.2 &&& 31)), s1.2 + 1))) else (some (.inl (s1.1, s1.2 + 1))))) else (some (.inr (s1.1, s1.2))) : Option ((Int32 × Int32) ⊕ (Int32 × Int32)))) (0, 0)).bind fun (y7 : Int32 × Int32) => some y7.1
set_option maxRecDepth 20000 in
set_option maxHeartbeats 4000000 in
theorem c_Order_ends {l : Launch} {D : va_G} {cs : Nat → ClassId} {b : Nat} {a0 : Int32} {a1 : Nat} {M : oz_M} {vz : Int32} (ha1 : oz_A 14 a1) (hF : f_Order_ends a0 a1 M = some vz) : oz_Met l D cs b y_Order_ends prog_6_method_11_code 5 (some .int) (oz_rm 1) [.ref (b + 6), .int a0, .ref (b + a1)] M (some (.int vz)) M := by
  refine oz_enter (by decide) (Nat.le_of_ble_eq_true rfl) (fun G cx hR e1 hRm e2 e3 e4 hnL => ?_)
  subst e1; subst e2; subst e3; subst e4
  refine (?_ : oz_R G 0 [(0, .ref (oz_b G + 6)), (1, .int a0), (2, .ref (oz_b G + a1))] [] M (f_Order_ends a0 a1 M) (fun x => x = vz)) _ hF rfl
  unfold f_Order_ends
  refine oz_iconst (q := 1) cx d_Order_ends_0 rfl (v := 0) rfl ?_
  refine oz_istore_n (q := 2) cx d_Order_ends_1 rfl rfl (by rw [hnL]; decide) (lv2 := [(3, .int 0), (0, .ref (oz_b G + 6)), (1, .int a0), (2, .ref (oz_b G + a1))]) rfl ?_
  refine oz_iconst (q := 3) cx d_Order_ends_2 rfl (v := 0) rfl ?_
  refine oz_istore (q := 5) cx d_Order_ends_3 rfl (by rw [hnL]; decide) (lv2 := [(4, .int 0), (3, .int 0), (0, .ref (oz_b G + 6)), (1, .int a0), (2, .ref (oz_b G + a1))]) rfl ?_
  refine oz_lv [2, 3, 4, 1, 0] rfl ?_
  refine oz_seq (p2 := 45) (lv2 := fun (y7 : Int32 × Int32) => [(3, .int y7.1)]) (st2 := fun y7 => []) (M2 := fun y7 => M) ?_ (fun y7 => ?_)
  · refine oz_loop (Y := Int32 × Int32) 5 (fun (s1 : Int32 × Int32) => [(0, .ref (oz_b G + 6)), (1, .int a0), (2, .ref (oz_b G + a1)), (3, .int s1.1), (4, .int s1.2)]) (fun (s1 : Int32 × Int32) => M) (0, 0) (fun s1 => ?_)
    refine oz_iload (q := 7) cx d_Order_ends_5 rfl 4 rfl ?_
    refine oz_aload_n (q := 8) cx d_Order_ends_7 rfl rfl 0 rfl ?_
    refine oz_get (q := 11) cx 6 0 (by decide) (ci := 3) rfl rfl tin_Order (by decide) rfl rfl tw_69 d_Order_ends_8 rfl ?_
    refine oz_icmp_ge (q := 14) cx d_Order_ends_11 rfl rfl (fun h6 => ?_) (fun h6 => ?_)
    · exact oz_lv [3] rfl (oz_leaf (fun h => h))
    · refine oz_iload_n (q := 15) cx d_Order_ends_14 rfl rfl 1 rfl ?_
      refine oz_iload (q := 17) cx d_Order_ends_15 rfl 4 rfl ?_
      refine oz_cSNip (q := 20) cx [.int a0, .int s1.2] 2 hRm (by decide) (by decide) (fun _ h => c_Hall_has h) tn_295 ⟨tw_274, tw_1⟩ tw_275 (by decide +kernel) rfl (st := []) rfl (Nat.le_of_ble_eq_true rfl) d_Order_ends_17 rfl (fun v2 hv2 => ?_)
      refine oz_if_eq (q := 23) cx d_Order_ends_20 rfl rfl (fun h5 => ?_) (fun h5 => ?_)
      · refine oz_iinc (q := 42) cx (s1.2 + 1) d_Order_ends_39 rfl 4 rfl rfl (by rw [hnL]; decide) (lv2 := [(4, .int (s1.2 + 1)), (0, .ref (oz_b G + 6)), (1, .int a0), (2, .ref (oz_b G + a1)), (3, .int s1.1)]) rfl ?_
        refine oz_goto cx d_Order_ends_42 rfl ?_
        exact oz_lv [1, 2, 3, 4, 0] rfl (oz_leaf (fun h => h))
      · refine oz_aload_n (q := 24) cx d_Order_ends_23 rfl rfl 2 rfl ?_
        refine oz_iload (q := 26) cx d_Order_ends_24 rfl 4 rfl ?_
        refine oz_iald (q := 27) cx a1 14 ha1.1 (ha1.2 _ _ _ _) d_Order_ends_26 rfl (fun j3 hj3 => ?_)
        refine oz_iload_n (q := 28) cx d_Order_ends_27 rfl rfl 1 rfl ?_
        refine oz_iand (q := 29) cx d_Order_ends_28 rfl ?_
        refine oz_if_ne (q := 32) cx d_Order_ends_29 rfl rfl (fun h4 => ?_) (fun h4 => ?_)
        · refine oz_iinc (q := 42) cx (s1.2 + 1) d_Order_ends_39 rfl 4 rfl rfl (by rw [hnL]; decide) (lv2 := [(4, .int (s1.2 + 1)), (0, .ref (oz_b G + 6)), (1, .int a0), (2, .ref (oz_b G + a1)), (3, .int s1.1)]) rfl ?_
          refine oz_goto cx d_Order_ends_42 rfl ?_
          exact oz_lv [1, 2, 3, 4, 0] rfl (oz_leaf (fun h => h))
        · refine oz_iload_n (q := 33) cx d_Order_ends_32 rfl rfl 3 rfl ?_
          refine oz_iconst (q := 34) cx d_Order_ends_33 rfl (v := 1) rfl ?_
          refine oz_iload (q := 36) cx d_Order_ends_34 rfl 4 rfl ?_
          refine oz_ishl (q := 37) cx d_Order_ends_36 rfl ?_
          refine oz_ior (q := 38) cx d_Order_ends_37 rfl ?_
          refine oz_istore_n (q := 39) cx d_Order_ends_38 rfl rfl (by rw [hnL]; decide) (lv2 := [(3, .int (s1.1 ||| (1 <<< (s1.2 &&& 31)))), (0, .ref (oz_b G + 6)), (1, .int a0), (2, .ref (oz_b G + a1)), (4, .int s1.2)]) rfl ?_
          refine oz_iinc (q := 42) cx (s1.2 + 1) d_Order_ends_39 rfl 4 rfl rfl (by rw [hnL]; decide) (lv2 := [(4, .int (s1.2 + 1)), (3, .int (s1.1 ||| (1 <<< (s1.2 &&& 31)))), (0, .ref (oz_b G + 6)), (1, .int a0), (2, .ref (oz_b G + a1))]) rfl ?_
          refine oz_goto cx d_Order_ends_42 rfl ?_
          exact oz_lv [2, 3, 4, 1, 0] rfl (oz_leaf (fun h => h))
  · refine oz_iload_n (q := 46) cx d_Order_ends_45 rfl rfl 0 rfl ?_
    exact oz_iretp cx hR d_Order_ends_46
def y_Order_greatest : MethodName := ⟨"OrderHall$Order", "greatest", "([II)I"⟩
theorem d_Order_greatest_0 : decode prog_6_method_8_code 0 = .ok (.iconst 0, 1) := by decide +kernel
theorem d_Order_greatest_1 : decode prog_6_method_8_code 1 = .ok (.istore_n 3, 1) := by decide +kernel
theorem d_Order_greatest_2 : decode prog_6_method_8_code 2 = .ok (.iconst 0, 1) := by decide +kernel
theorem d_Order_greatest_3 : decode prog_6_method_8_code 3 = .ok (.istore 4, 2) := by decide +kernel
theorem d_Order_greatest_5 : decode prog_6_method_8_code 5 = .ok (.iload 4, 2) := by decide +kernel
theorem d_Order_greatest_7 : decode prog_6_method_8_code 7 = .ok (.aload_n 0, 1) := by decide +kernel
theorem d_Order_greatest_8 : decode prog_6_method_8_code 8 = .ok (.getfield 9, 3) := by decide +kernel
theorem d_Order_greatest_11 : decode prog_6_method_8_code 11 = .ok (.if_icmp .ge 27, 3) := by decide +kernel
theorem d_Order_greatest_14 : decode prog_6_method_8_code 14 = .ok (.iload_n 2, 1) := by decide +kernel
theorem d_Order_greatest_15 : decode prog_6_method_8_code 15 = .ok (.iload 4, 2) := by decide +kernel
theorem d_Order_greatest_17 : decode prog_6_method_8_code 17 = .ok (.invokestatic 61, 3) := by decide +kernel
theorem d_Order_greatest_20 : decode prog_6_method_8_code 20 = .ok (.ifCond .eq 12, 3) := by decide +kernel
theorem d_Order_greatest_23 : decode prog_6_method_8_code 23 = .ok (.iload_n 3, 1) := by decide +kernel
theorem d_Order_greatest_24 : decode prog_6_method_8_code 24 = .ok (.aload_n 1, 1) := by decide +kernel
theorem d_Order_greatest_25 : decode prog_6_method_8_code 25 = .ok (.iload 4, 2) := by decide +kernel
theorem d_Order_greatest_27 : decode prog_6_method_8_code 27 = .ok (.iaload, 1) := by decide +kernel
theorem d_Order_greatest_28 : decode prog_6_method_8_code 28 = .ok (.invokestatic 74, 3) := by decide +kernel
theorem d_Order_greatest_31 : decode prog_6_method_8_code 31 = .ok (.istore_n 3, 1) := by decide +kernel
theorem d_Order_greatest_32 : decode prog_6_method_8_code 32 = .ok (.iinc 4 1, 3) := by decide +kernel
theorem d_Order_greatest_35 : decode prog_6_method_8_code 35 = .ok (.goto (-30), 3) := by decide +kernel
theorem d_Order_greatest_38 : decode prog_6_method_8_code 38 = .ok (.iload_n 3, 1) := by decide +kernel
theorem d_Order_greatest_39 : decode prog_6_method_8_code 39 = .ok (.ireturn, 1) := by decide +kernel
noncomputable def f_Order_greatest (a0 : Nat) (a1 : Int32) (M : oz_M) : Option (Int32) := (oz_lp (fun (s1 : Int32 × Int32) => (if s1.2 < (M.1 6 0) then ((f_Hall_has a1 s1.2 M).bind fun v2 => if v2 = 0 then (some (.inl (s1.1, s1.2 + 1))) else ((oz_in s1.2 14).bind fun j3 => some (.inl ((if s1.1 < (M.1 a0 j3) then M.1 a0 j3 else s1.1), s1.2 + 1)))) else (some (.inr (s1.1, s1.2))) : Option ((Int32 × Int32) ⊕ (Int32 × Int32)))) (0, 0)).bind fun (y6 : Int32 × Int32) => some y6.1
set_option maxRecDepth 20000 in
set_option maxHeartbeats 4000000 in
theorem c_Order_greatest {l : Launch} {D : va_G} {cs : Nat → ClassId} {b : Nat} {a0 : Nat} {a1 : Int32} {M : oz_M} {vz : Int32} (ha0 : oz_A 14 a0) (hF : f_Order_greatest a0 a1 M = some vz) : oz_Met l D cs b y_Order_greatest prog_6_method_8_code 5 (some .int) (oz_rm 1) [.ref (b + 6), .ref (b + a0), .int a1] M (some (.int vz)) M := by
  refine oz_enter (by decide) (Nat.le_of_ble_eq_true rfl) (fun G cx hR e1 hRm e2 e3 e4 hnL => ?_)
  subst e1; subst e2; subst e3; subst e4
  refine (?_ : oz_R G 0 [(0, .ref (oz_b G + 6)), (1, .ref (oz_b G + a0)), (2, .int a1)] [] M (f_Order_greatest a0 a1 M) (fun x => x = vz)) _ hF rfl
  unfold f_Order_greatest
  refine oz_iconst (q := 1) cx d_Order_greatest_0 rfl (v := 0) rfl ?_
  refine oz_istore_n (q := 2) cx d_Order_greatest_1 rfl rfl (by rw [hnL]; decide) (lv2 := [(3, .int 0), (0, .ref (oz_b G + 6)), (1, .ref (oz_b G + a0)), (2, .int a1)]) rfl ?_
  refine oz_iconst (q := 3) cx d_Order_greatest_2 rfl (v := 0) rfl ?_
  refine oz_istore (q := 5) cx d_Order_greatest_3 rfl (by rw [hnL]; decide) (lv2 := [(4, .int 0), (3, .int 0), (0, .ref (oz_b G + 6)), (1, .ref (oz_b G + a0)), (2, .int a1)]) rfl ?_
  refine oz_lv [2, 3, 4, 1, 0] rfl ?_
  refine oz_seq (p2 := 38) (lv2 := fun (y6 : Int32 × Int32) => [(3, .int y6.1)]) (st2 := fun y6 => []) (M2 := fun y6 => M) ?_ (fun y6 => ?_)
  · refine oz_loop (Y := Int32 × Int32) 5 (fun (s1 : Int32 × Int32) => [(0, .ref (oz_b G + 6)), (1, .ref (oz_b G + a0)), (2, .int a1), (3, .int s1.1), (4, .int s1.2)]) (fun (s1 : Int32 × Int32) => M) (0, 0) (fun s1 => ?_)
    refine oz_iload (q := 7) cx d_Order_greatest_5 rfl 4 rfl ?_
    refine oz_aload_n (q := 8) cx d_Order_greatest_7 rfl rfl 0 rfl ?_
    refine oz_get (q := 11) cx 6 0 (by decide) (ci := 3) rfl rfl tin_Order (by decide) rfl rfl tw_69 d_Order_greatest_8 rfl ?_
    refine oz_icmp_ge (q := 14) cx d_Order_greatest_11 rfl rfl (fun h5 => ?_) (fun h5 => ?_)
    · exact oz_lv [3] rfl (oz_leaf (fun h => h))
    · refine oz_iload_n (q := 15) cx d_Order_greatest_14 rfl rfl 2 rfl ?_
      refine oz_iload (q := 17) cx d_Order_greatest_15 rfl 4 rfl ?_
      refine oz_cSNip (q := 20) cx [.int a1, .int s1.2] 2 hRm (by decide) (by decide) (fun _ h => c_Hall_has h) tn_295 ⟨tw_274, tw_1⟩ tw_275 (by decide +kernel) rfl (st := []) rfl (Nat.le_of_ble_eq_true rfl) d_Order_greatest_17 rfl (fun v2 hv2 => ?_)
      refine oz_if_eq (q := 23) cx d_Order_greatest_20 rfl rfl (fun h4 => ?_) (fun h4 => ?_)
      · refine oz_iinc (q := 35) cx (s1.2 + 1) d_Order_greatest_32 rfl 4 rfl rfl (by rw [hnL]; decide) (lv2 := [(4, .int (s1.2 + 1)), (0, .ref (oz_b G + 6)), (1, .ref (oz_b G + a0)), (2, .int a1), (3, .int s1.1)]) rfl ?_
        refine oz_goto cx d_Order_greatest_35 rfl ?_
        exact oz_lv [1, 2, 3, 4, 0] rfl (oz_leaf (fun h => h))
      · refine oz_iload_n (q := 24) cx d_Order_greatest_23 rfl rfl 3 rfl ?_
        refine oz_aload_n (q := 25) cx d_Order_greatest_24 rfl rfl 1 rfl ?_
        refine oz_iload (q := 27) cx d_Order_greatest_25 rfl 4 rfl ?_
        refine oz_iald (q := 28) cx a0 14 ha0.1 (ha0.2 _ _ _ _) d_Order_greatest_27 rfl (fun j3 hj3 => ?_)
        refine oz_mmax (q := 31) cx hRm (by decide) ⟨tw_322, tw_max⟩ (Nat.le_of_ble_eq_true rfl) d_Order_greatest_28 rfl ?_
        refine oz_istore_n (q := 32) cx d_Order_greatest_31 rfl rfl (by rw [hnL]; decide) (lv2 := [(3, .int (if s1.1 < (M.1 a0 j3) then M.1 a0 j3 else s1.1)), (0, .ref (oz_b G + 6)), (1, .ref (oz_b G + a0)), (2, .int a1), (4, .int s1.2)]) rfl ?_
        refine oz_iinc (q := 35) cx (s1.2 + 1) d_Order_greatest_32 rfl 4 rfl rfl (by rw [hnL]; decide) (lv2 := [(4, .int (s1.2 + 1)), (3, .int (if s1.1 < (M.1 a0 j3) then M.1 a0 j3 else s1.1)), (0, .ref (oz_b G + 6)), (1, .ref (oz_b G + a0)), (2, .int a1)]) rfl ?_
        refine oz_goto cx d_Order_greatest_35 rfl ?_
        exact oz_lv [2, 3, 4, 1, 0] rfl (oz_leaf (fun h => h))
  · refine oz_iload_n (q := 39) cx d_Order_greatest_38 rfl rfl 0 rfl ?_
    exact oz_iretp cx hR d_Order_greatest_39
def y_Order_pairs : MethodName := ⟨"OrderHall$Order", "pairs", "()I"⟩
theorem d_Order_pairs_0 : decode prog_6_method_12_code 0 = .ok (.iconst 0, 1) := by decide +kernel
theorem d_Order_pairs_1 : decode prog_6_method_12_code 1 = .ok (.istore_n 1, 1) := by decide +kernel
theorem d_Order_pairs_2 : decode prog_6_method_12_code 2 = .ok (.iconst 0, 1) := by decide +kernel
theorem d_Order_pairs_3 : decode prog_6_method_12_code 3 = .ok (.istore_n 2, 1) := by decide +kernel
theorem d_Order_pairs_4 : decode prog_6_method_12_code 4 = .ok (.iload_n 2, 1) := by decide +kernel
theorem d_Order_pairs_5 : decode prog_6_method_12_code 5 = .ok (.aload_n 0, 1) := by decide +kernel
theorem d_Order_pairs_6 : decode prog_6_method_12_code 6 = .ok (.getfield 9, 3) := by decide +kernel
theorem d_Order_pairs_9 : decode prog_6_method_12_code 9 = .ok (.if_icmp .ge 21, 3) := by decide +kernel
theorem d_Order_pairs_12 : decode prog_6_method_12_code 12 = .ok (.iload_n 1, 1) := by decide +kernel
theorem d_Order_pairs_13 : decode prog_6_method_12_code 13 = .ok (.aload_n 0, 1) := by decide +kernel
theorem d_Order_pairs_14 : decode prog_6_method_12_code 14 = .ok (.getfield 15, 3) := by decide +kernel
theorem d_Order_pairs_17 : decode prog_6_method_12_code 17 = .ok (.iload_n 2, 1) := by decide +kernel
theorem d_Order_pairs_18 : decode prog_6_method_12_code 18 = .ok (.iaload, 1) := by decide +kernel
theorem d_Order_pairs_19 : decode prog_6_method_12_code 19 = .ok (.invokestatic 65, 3) := by decide +kernel
theorem d_Order_pairs_22 : decode prog_6_method_12_code 22 = .ok (.iadd, 1) := by decide +kernel
theorem d_Order_pairs_23 : decode prog_6_method_12_code 23 = .ok (.istore_n 1, 1) := by decide +kernel
theorem d_Order_pairs_24 : decode prog_6_method_12_code 24 = .ok (.iinc 2 1, 3) := by decide +kernel
theorem d_Order_pairs_27 : decode prog_6_method_12_code 27 = .ok (.goto (-23), 3) := by decide +kernel
theorem d_Order_pairs_30 : decode prog_6_method_12_code 30 = .ok (.iload_n 1, 1) := by decide +kernel
theorem d_Order_pairs_31 : decode prog_6_method_12_code 31 = .ok (.ireturn, 1) := by decide +kernel
noncomputable def f_Order_pairs (M : oz_M) : Option (Int32) := (oz_lp (fun (s1 : Int32 × Int32) => (if s1.2 < (M.1 6 0) then ((oz_in s1.2 14).bind fun j2 => (f_Integer_bitCount (M.1 7 j2) M).bind fun v3 => some (.inl (s1.1 + v3, s1.2 + 1))) else (some (.inr (s1.1, s1.2))) : Option ((Int32 × Int32) ⊕ (Int32 × Int32)))) (0, 0)).bind fun (y5 : Int32 × Int32) => some y5.1
set_option maxRecDepth 20000 in
set_option maxHeartbeats 4000000 in
theorem c_Order_pairs {l : Launch} {D : va_G} {cs : Nat → ClassId} {b : Nat} {M : oz_M} {vz : Int32} (hF : f_Order_pairs M = some vz) : oz_Met l D cs b y_Order_pairs prog_6_method_12_code 3 (some .int) (oz_rm 1) [.ref (b + 6)] M (some (.int vz)) M := by
  refine oz_enter (by decide) (Nat.le_of_ble_eq_true rfl) (fun G cx hR e1 hRm e2 e3 e4 hnL => ?_)
  subst e1; subst e2; subst e3; subst e4
  refine (?_ : oz_R G 0 [(0, .ref (oz_b G + 6))] [] M (f_Order_pairs  M) (fun x => x = vz)) _ hF rfl
  unfold f_Order_pairs
  refine oz_iconst (q := 1) cx d_Order_pairs_0 rfl (v := 0) rfl ?_
  refine oz_istore_n (q := 2) cx d_Order_pairs_1 rfl rfl (by rw [hnL]; decide) (lv2 := [(1, .int 0), (0, .ref (oz_b G + 6))]) rfl ?_
  refine oz_iconst (q := 3) cx d_Order_pairs_2 rfl (v := 0) rfl ?_
  refine oz_istore_n (q := 4) cx d_Order_pairs_3 rfl rfl (by rw [hnL]; decide) (lv2 := [(2, .int 0), (1, .int 0), (0, .ref (oz_b G + 6))]) rfl ?_
  refine oz_lv [2, 1, 0] rfl ?_
  refine oz_seq (p2 := 30) (lv2 := fun (y5 : Int32 × Int32) => [(1, .int y5.1)]) (st2 := fun y5 => []) (M2 := fun y5 => M) ?_ (fun y5 => ?_)
  · refine oz_loop (Y := Int32 × Int32) 4 (fun (s1 : Int32 × Int32) => [(0, .ref (oz_b G + 6)), (1, .int s1.1), (2, .int s1.2)]) (fun (s1 : Int32 × Int32) => M) (0, 0) (fun s1 => ?_)
    refine oz_iload_n (q := 5) cx d_Order_pairs_4 rfl rfl 2 rfl ?_
    refine oz_aload_n (q := 6) cx d_Order_pairs_5 rfl rfl 0 rfl ?_
    refine oz_get (q := 9) cx 6 0 (by decide) (ci := 3) rfl rfl tin_Order (by decide) rfl rfl tw_69 d_Order_pairs_6 rfl ?_
    refine oz_icmp_ge (q := 12) cx d_Order_pairs_9 rfl rfl (fun h4 => ?_) (fun h4 => ?_)
    · exact oz_lv [1] rfl (oz_leaf (fun h => h))
    · refine oz_iload_n (q := 13) cx d_Order_pairs_12 rfl rfl 1 rfl ?_
      refine oz_aload_n (q := 14) cx d_Order_pairs_13 rfl rfl 0 rfl ?_
      refine oz_get (q := 17) cx 6 1 (by decide) (ci := 3) rfl rfl tin_Order (by decide) rfl rfl tw_76 d_Order_pairs_14 rfl ?_
      refine oz_iload_n (q := 18) cx d_Order_pairs_17 rfl rfl 2 rfl ?_
      refine oz_iald (q := 19) cx 7 14 (by decide) rfl d_Order_pairs_18 rfl (fun j2 hj2 => ?_)
      refine oz_cSip (q := 22) cx [.int (M.1 7 j2)] 1 hRm (by decide) (by decide) (fun _ h => c_Integer_bitCount h) ⟨tw_308, tw_309, tw_15⟩ tw_310 (by decide +kernel) rfl (st := [.int s1.1]) rfl (Nat.le_of_ble_eq_true rfl) d_Order_pairs_19 rfl (fun v3 hv3 => ?_)
      refine oz_iadd (q := 23) cx d_Order_pairs_22 rfl ?_
      refine oz_istore_n (q := 24) cx d_Order_pairs_23 rfl rfl (by rw [hnL]; decide) (lv2 := [(1, .int (s1.1 + v3)), (0, .ref (oz_b G + 6)), (2, .int s1.2)]) rfl ?_
      refine oz_iinc (q := 27) cx (s1.2 + 1) d_Order_pairs_24 rfl 2 rfl rfl (by rw [hnL]; decide) (lv2 := [(2, .int (s1.2 + 1)), (1, .int (s1.1 + v3)), (0, .ref (oz_b G + 6))]) rfl ?_
      refine oz_goto cx d_Order_pairs_27 rfl ?_
      exact oz_lv [2, 1, 0] rfl (oz_leaf (fun h => h))
  · refine oz_iload_n (q := 31) cx d_Order_pairs_30 rfl rfl 0 rfl ?_
    exact oz_iretp cx hR d_Order_pairs_31
def y_Order_sort : MethodName := ⟨"OrderHall$Order", "sort", "()V"⟩
theorem d_Order_sort_0 : decode prog_6_method_6_code 0 = .ok (.iconst 0, 1) := by decide +kernel
theorem d_Order_sort_1 : decode prog_6_method_6_code 1 = .ok (.istore_n 1, 1) := by decide +kernel
theorem d_Order_sort_2 : decode prog_6_method_6_code 2 = .ok (.iconst 0, 1) := by decide +kernel
theorem d_Order_sort_3 : decode prog_6_method_6_code 3 = .ok (.istore_n 2, 1) := by decide +kernel
theorem d_Order_sort_4 : decode prog_6_method_6_code 4 = .ok (.iload_n 2, 1) := by decide +kernel
theorem d_Order_sort_5 : decode prog_6_method_6_code 5 = .ok (.aload_n 0, 1) := by decide +kernel
theorem d_Order_sort_6 : decode prog_6_method_6_code 6 = .ok (.getfield 9, 3) := by decide +kernel
theorem d_Order_sort_9 : decode prog_6_method_6_code 9 = .ok (.if_icmp .ge 48, 3) := by decide +kernel
theorem d_Order_sort_12 : decode prog_6_method_6_code 12 = .ok (.iconst 0, 1) := by decide +kernel
theorem d_Order_sort_13 : decode prog_6_method_6_code 13 = .ok (.istore_n 3, 1) := by decide +kernel
theorem d_Order_sort_14 : decode prog_6_method_6_code 14 = .ok (.iload_n 3, 1) := by decide +kernel
theorem d_Order_sort_15 : decode prog_6_method_6_code 15 = .ok (.aload_n 0, 1) := by decide +kernel
theorem d_Order_sort_16 : decode prog_6_method_6_code 16 = .ok (.getfield 9, 3) := by decide +kernel
theorem d_Order_sort_19 : decode prog_6_method_6_code 19 = .ok (.if_icmp .ge 32, 3) := by decide +kernel
theorem d_Order_sort_22 : decode prog_6_method_6_code 22 = .ok (.aload_n 0, 1) := by decide +kernel
theorem d_Order_sort_23 : decode prog_6_method_6_code 23 = .ok (.getfield 15, 3) := by decide +kernel
theorem d_Order_sort_26 : decode prog_6_method_6_code 26 = .ok (.iload_n 3, 1) := by decide +kernel
theorem d_Order_sort_27 : decode prog_6_method_6_code 27 = .ok (.iaload, 1) := by decide +kernel
theorem d_Order_sort_28 : decode prog_6_method_6_code 28 = .ok (.invokestatic 65, 3) := by decide +kernel
theorem d_Order_sort_31 : decode prog_6_method_6_code 31 = .ok (.iload_n 2, 1) := by decide +kernel
theorem d_Order_sort_32 : decode prog_6_method_6_code 32 = .ok (.if_icmp .ne 13, 3) := by decide +kernel
theorem d_Order_sort_35 : decode prog_6_method_6_code 35 = .ok (.aload_n 0, 1) := by decide +kernel
theorem d_Order_sort_36 : decode prog_6_method_6_code 36 = .ok (.getfield 31, 3) := by decide +kernel
theorem d_Order_sort_39 : decode prog_6_method_6_code 39 = .ok (.iload_n 1, 1) := by decide +kernel
theorem d_Order_sort_40 : decode prog_6_method_6_code 40 = .ok (.iload_n 3, 1) := by decide +kernel
theorem d_Order_sort_41 : decode prog_6_method_6_code 41 = .ok (.iastore, 1) := by decide +kernel
theorem d_Order_sort_42 : decode prog_6_method_6_code 42 = .ok (.iinc 1 1, 3) := by decide +kernel
theorem d_Order_sort_45 : decode prog_6_method_6_code 45 = .ok (.iinc 3 1, 3) := by decide +kernel
theorem d_Order_sort_48 : decode prog_6_method_6_code 48 = .ok (.goto (-34), 3) := by decide +kernel
theorem d_Order_sort_51 : decode prog_6_method_6_code 51 = .ok (.iinc 2 1, 3) := by decide +kernel
theorem d_Order_sort_54 : decode prog_6_method_6_code 54 = .ok (.goto (-50), 3) := by decide +kernel
theorem d_Order_sort_57 : decode prog_6_method_6_code 57 = .ok (.return_, 1) := by decide +kernel
noncomputable def f_Order_sort (M : oz_M) : Option (Unit × oz_M) := (oz_lp (fun (s1 : Int32 × Int32 × oz_M) => (if s1.2.1 < (s1.2.2.1 6 0) then ((oz_lp (fun (s2 : Int32 × Int32 × oz_M) => (if s2.2.1 < (s2.2.2.1 6 0) then ((oz_in s2.2.1 14).bind fun j3 => (f_Integer_bitCount (s2.2.2.1 7 j3) s2.2.2).bind fun v4 => if v4 = s1.2.1 then ((oz_in s2.1 14).bind fun j5 => (some (oz_s s2.2.2 12 j5 s2.2.1)).bind fun M6 => some (.inl (s2.1 + 1, s2.2.1 + 1, M6))) else (some (.inl (s2.1, s2.2.1 + 1, s2.2.2)))) else (some (.inr (s2.1, s2.2.1, s2.2.2))) : Option ((Int32 × Int32 × oz_M) ⊕ (Int32 × Int32 × oz_M)))) (s1.1, 0, s1.2.2)).bind fun (y9 : Int32 × Int32 × oz_M) => some (.inl (y9.1, s1.2.1 + 1, y9.2.2))) else (some (.inr (s1.1, s1.2.1, s1.2.2))) : Option ((Int32 × Int32 × oz_M) ⊕ (Int32 × Int32 × oz_M)))) (0, 0, M)).bind fun (y11 : Int32 × Int32 × oz_M) => some ((), y11.2.2)
set_option maxRecDepth 20000 in
set_option maxHeartbeats 4000000 in
theorem c_Order_sort {l : Launch} {D : va_G} {cs : Nat → ClassId} {b : Nat} {M : oz_M} {vz : Unit} {Mz : oz_M} (hF : f_Order_sort M = some (vz, Mz)) : oz_Met l D cs b y_Order_sort prog_6_method_6_code 4 none (oz_rm 1) [.ref (b + 6)] M (none) Mz := by
  refine oz_enter (by decide) (Nat.le_of_ble_eq_true rfl) (fun G cx hR e1 hRm e2 e3 e4 hnL => ?_)
  subst e1; subst e2; subst e3; subst e4
  refine (?_ : oz_R G 0 [(0, .ref (oz_b G + 6))] [] M (f_Order_sort  M) (fun x => x = (vz, Mz))) _ hF rfl
  unfold f_Order_sort
  refine oz_iconst (q := 1) cx d_Order_sort_0 rfl (v := 0) rfl ?_
  refine oz_istore_n (q := 2) cx d_Order_sort_1 rfl rfl (by rw [hnL]; decide) (lv2 := [(1, .int 0), (0, .ref (oz_b G + 6))]) rfl ?_
  refine oz_iconst (q := 3) cx d_Order_sort_2 rfl (v := 0) rfl ?_
  refine oz_istore_n (q := 4) cx d_Order_sort_3 rfl rfl (by rw [hnL]; decide) (lv2 := [(2, .int 0), (1, .int 0), (0, .ref (oz_b G + 6))]) rfl ?_
  refine oz_lv [2, 1, 0] rfl ?_
  refine oz_seq (p2 := 57) (lv2 := fun (y11 : Int32 × Int32 × oz_M) => []) (st2 := fun y11 => []) (M2 := fun y11 => y11.2.2) ?_ (fun y11 => ?_)
  · refine oz_loop (Y := Int32 × Int32 × oz_M) 4 (fun (s1 : Int32 × Int32 × oz_M) => [(0, .ref (oz_b G + 6)), (1, .int s1.1), (2, .int s1.2.1)]) (fun (s1 : Int32 × Int32 × oz_M) => s1.2.2) (0, 0, M) (fun s1 => ?_)
    refine oz_iload_n (q := 5) cx d_Order_sort_4 rfl rfl 2 rfl ?_
    refine oz_aload_n (q := 6) cx d_Order_sort_5 rfl rfl 0 rfl ?_
    refine oz_get (q := 9) cx 6 0 (by decide) (ci := 3) rfl rfl tin_Order (by decide) rfl rfl tw_69 d_Order_sort_6 rfl ?_
    refine oz_icmp_ge (q := 12) cx d_Order_sort_9 rfl rfl (fun h10 => ?_) (fun h10 => ?_)
    · exact oz_lv [] rfl (oz_leaf (fun h => h))
    · refine oz_iconst (q := 13) cx d_Order_sort_12 rfl (v := 0) rfl ?_
      refine oz_istore_n (q := 14) cx d_Order_sort_13 rfl rfl (by rw [hnL]; decide) (lv2 := [(3, .int 0), (0, .ref (oz_b G + 6)), (1, .int s1.1), (2, .int s1.2.1)]) rfl ?_
      refine oz_lv [1, 2, 3, 0] rfl ?_
      refine oz_seq (p2 := 51) (lv2 := fun (y9 : Int32 × Int32 × oz_M) => [(0, .ref (oz_b G + 6)), (1, .int y9.1), (2, .int s1.2.1)]) (st2 := fun y9 => []) (M2 := fun y9 => y9.2.2) ?_ (fun y9 => ?_)
      · refine oz_loop (Y := Int32 × Int32 × oz_M) 14 (fun (s2 : Int32 × Int32 × oz_M) => [(0, .ref (oz_b G + 6)), (1, .int s2.1), (2, .int s1.2.1), (3, .int s2.2.1)]) (fun (s2 : Int32 × Int32 × oz_M) => s2.2.2) (s1.1, 0, s1.2.2) (fun s2 => ?_)
        refine oz_iload_n (q := 15) cx d_Order_sort_14 rfl rfl 3 rfl ?_
        refine oz_aload_n (q := 16) cx d_Order_sort_15 rfl rfl 0 rfl ?_
        refine oz_get (q := 19) cx 6 0 (by decide) (ci := 3) rfl rfl tin_Order (by decide) rfl rfl tw_69 d_Order_sort_16 rfl ?_
        refine oz_icmp_ge (q := 22) cx d_Order_sort_19 rfl rfl (fun h8 => ?_) (fun h8 => ?_)
        · exact oz_lv [0, 1, 2] rfl (oz_leaf (fun h => h))
        · refine oz_aload_n (q := 23) cx d_Order_sort_22 rfl rfl 0 rfl ?_
          refine oz_get (q := 26) cx 6 1 (by decide) (ci := 3) rfl rfl tin_Order (by decide) rfl rfl tw_76 d_Order_sort_23 rfl ?_
          refine oz_iload_n (q := 27) cx d_Order_sort_26 rfl rfl 3 rfl ?_
          refine oz_iald (q := 28) cx 7 14 (by decide) rfl d_Order_sort_27 rfl (fun j3 hj3 => ?_)
          refine oz_cSip (q := 31) cx [.int (s2.2.2.1 7 j3)] 1 hRm (by decide) (by decide) (fun _ h => c_Integer_bitCount h) ⟨tw_308, tw_309, tw_15⟩ tw_310 (by decide +kernel) rfl (st := []) rfl (Nat.le_of_ble_eq_true rfl) d_Order_sort_28 rfl (fun v4 hv4 => ?_)
          refine oz_iload_n (q := 32) cx d_Order_sort_31 rfl rfl 2 rfl ?_
          refine oz_icmp_ne (q := 35) cx d_Order_sort_32 rfl rfl (fun h7 => ?_) (fun h7 => ?_)
          · refine oz_iinc (q := 48) cx (s2.2.1 + 1) d_Order_sort_45 rfl 3 rfl rfl (by rw [hnL]; decide) (lv2 := [(3, .int (s2.2.1 + 1)), (0, .ref (oz_b G + 6)), (1, .int s2.1), (2, .int s1.2.1)]) rfl ?_
            refine oz_goto cx d_Order_sort_48 rfl ?_
            exact oz_lv [1, 2, 3, 0] rfl (oz_leaf (fun h => h))
          · refine oz_aload_n (q := 36) cx d_Order_sort_35 rfl rfl 0 rfl ?_
            refine oz_get (q := 39) cx 6 6 (by decide) (ci := 3) rfl rfl tin_Order (by decide) rfl rfl tw_96 d_Order_sort_36 rfl ?_
            refine oz_iload_n (q := 40) cx d_Order_sort_39 rfl rfl 1 rfl ?_
            refine oz_iload_n (q := 41) cx d_Order_sort_40 rfl rfl 3 rfl ?_
            refine oz_iast (q := 42) cx 12 14 (by decide) (fun _ => rfl) d_Order_sort_41 rfl (fun j5 hj5 => ?_)
            refine oz_nm (fun M6 hM6 => ?_)
            refine oz_iinc (q := 45) cx (s2.1 + 1) d_Order_sort_42 rfl 1 rfl rfl (by rw [hnL]; decide) (lv2 := [(1, .int (s2.1 + 1)), (0, .ref (oz_b G + 6)), (2, .int s1.2.1), (3, .int s2.2.1)]) rfl ?_
            refine oz_iinc (q := 48) cx (s2.2.1 + 1) d_Order_sort_45 rfl 3 rfl rfl (by rw [hnL]; decide) (lv2 := [(3, .int (s2.2.1 + 1)), (1, .int (s2.1 + 1)), (0, .ref (oz_b G + 6)), (2, .int s1.2.1)]) rfl ?_
            refine oz_goto cx d_Order_sort_48 rfl ?_
            exact oz_lv [2, 1, 3, 0] rfl (oz_leaf (fun h => h))
      · refine oz_iinc (q := 54) cx (s1.2.1 + 1) d_Order_sort_51 rfl 2 rfl rfl (by rw [hnL]; decide) (lv2 := [(2, .int (s1.2.1 + 1)), (0, .ref (oz_b G + 6)), (1, .int y9.1)]) rfl ?_
        refine oz_goto cx d_Order_sort_54 rfl ?_
        exact oz_lv [1, 2, 0] rfl (oz_leaf (fun h => h))
  · exact oz_vret cx hR d_Order_sort_57
def y_Order_sum : MethodName := ⟨"OrderHall$Order", "sum", "([II)I"⟩
theorem d_Order_sum_0 : decode prog_6_method_9_code 0 = .ok (.iconst 0, 1) := by decide +kernel
theorem d_Order_sum_1 : decode prog_6_method_9_code 1 = .ok (.istore_n 3, 1) := by decide +kernel
theorem d_Order_sum_2 : decode prog_6_method_9_code 2 = .ok (.iconst 0, 1) := by decide +kernel
theorem d_Order_sum_3 : decode prog_6_method_9_code 3 = .ok (.istore 4, 2) := by decide +kernel
theorem d_Order_sum_5 : decode prog_6_method_9_code 5 = .ok (.iload 4, 2) := by decide +kernel
theorem d_Order_sum_7 : decode prog_6_method_9_code 7 = .ok (.aload_n 0, 1) := by decide +kernel
theorem d_Order_sum_8 : decode prog_6_method_9_code 8 = .ok (.getfield 9, 3) := by decide +kernel
theorem d_Order_sum_11 : decode prog_6_method_9_code 11 = .ok (.if_icmp .ge 25, 3) := by decide +kernel
theorem d_Order_sum_14 : decode prog_6_method_9_code 14 = .ok (.iload_n 2, 1) := by decide +kernel
theorem d_Order_sum_15 : decode prog_6_method_9_code 15 = .ok (.iload 4, 2) := by decide +kernel
theorem d_Order_sum_17 : decode prog_6_method_9_code 17 = .ok (.invokestatic 61, 3) := by decide +kernel
theorem d_Order_sum_20 : decode prog_6_method_9_code 20 = .ok (.ifCond .eq 10, 3) := by decide +kernel
theorem d_Order_sum_23 : decode prog_6_method_9_code 23 = .ok (.iload_n 3, 1) := by decide +kernel
theorem d_Order_sum_24 : decode prog_6_method_9_code 24 = .ok (.aload_n 1, 1) := by decide +kernel
theorem d_Order_sum_25 : decode prog_6_method_9_code 25 = .ok (.iload 4, 2) := by decide +kernel
theorem d_Order_sum_27 : decode prog_6_method_9_code 27 = .ok (.iaload, 1) := by decide +kernel
theorem d_Order_sum_28 : decode prog_6_method_9_code 28 = .ok (.iadd, 1) := by decide +kernel
theorem d_Order_sum_29 : decode prog_6_method_9_code 29 = .ok (.istore_n 3, 1) := by decide +kernel
theorem d_Order_sum_30 : decode prog_6_method_9_code 30 = .ok (.iinc 4 1, 3) := by decide +kernel
theorem d_Order_sum_33 : decode prog_6_method_9_code 33 = .ok (.goto (-28), 3) := by decide +kernel
theorem d_Order_sum_36 : decode prog_6_method_9_code 36 = .ok (.iload_n 3, 1) := by decide +kernel
theorem d_Order_sum_37 : decode prog_6_method_9_code 37 = .ok (.ireturn, 1) := by decide +kernel
noncomputable def f_Order_sum (a0 : Nat) (a1 : Int32) (M : oz_M) : Option (Int32) := (oz_lp (fun (s1 : Int32 × Int32) => (if s1.2 < (M.1 6 0) then ((f_Hall_has a1 s1.2 M).bind fun v2 => if v2 = 0 then (some (.inl (s1.1, s1.2 + 1))) else ((oz_in s1.2 14).bind fun j3 => some (.inl (s1.1 + (M.1 a0 j3), s1.2 + 1)))) else (some (.inr (s1.1, s1.2))) : Option ((Int32 × Int32) ⊕ (Int32 × Int32)))) (0, 0)).bind fun (y6 : Int32 × Int32) => some y6.1
set_option maxRecDepth 20000 in
set_option maxHeartbeats 4000000 in
theorem c_Order_sum {l : Launch} {D : va_G} {cs : Nat → ClassId} {b : Nat} {a0 : Nat} {a1 : Int32} {M : oz_M} {vz : Int32} (ha0 : oz_A 14 a0) (hF : f_Order_sum a0 a1 M = some vz) : oz_Met l D cs b y_Order_sum prog_6_method_9_code 5 (some .int) (oz_rm 1) [.ref (b + 6), .ref (b + a0), .int a1] M (some (.int vz)) M := by
  refine oz_enter (by decide) (Nat.le_of_ble_eq_true rfl) (fun G cx hR e1 hRm e2 e3 e4 hnL => ?_)
  subst e1; subst e2; subst e3; subst e4
  refine (?_ : oz_R G 0 [(0, .ref (oz_b G + 6)), (1, .ref (oz_b G + a0)), (2, .int a1)] [] M (f_Order_sum a0 a1 M) (fun x => x = vz)) _ hF rfl
  unfold f_Order_sum
  refine oz_iconst (q := 1) cx d_Order_sum_0 rfl (v := 0) rfl ?_
  refine oz_istore_n (q := 2) cx d_Order_sum_1 rfl rfl (by rw [hnL]; decide) (lv2 := [(3, .int 0), (0, .ref (oz_b G + 6)), (1, .ref (oz_b G + a0)), (2, .int a1)]) rfl ?_
  refine oz_iconst (q := 3) cx d_Order_sum_2 rfl (v := 0) rfl ?_
  refine oz_istore (q := 5) cx d_Order_sum_3 rfl (by rw [hnL]; decide) (lv2 := [(4, .int 0), (3, .int 0), (0, .ref (oz_b G + 6)), (1, .ref (oz_b G + a0)), (2, .int a1)]) rfl ?_
  refine oz_lv [2, 3, 4, 1, 0] rfl ?_
  refine oz_seq (p2 := 36) (lv2 := fun (y6 : Int32 × Int32) => [(3, .int y6.1)]) (st2 := fun y6 => []) (M2 := fun y6 => M) ?_ (fun y6 => ?_)
  · refine oz_loop (Y := Int32 × Int32) 5 (fun (s1 : Int32 × Int32) => [(0, .ref (oz_b G + 6)), (1, .ref (oz_b G + a0)), (2, .int a1), (3, .int s1.1), (4, .int s1.2)]) (fun (s1 : Int32 × Int32) => M) (0, 0) (fun s1 => ?_)
    refine oz_iload (q := 7) cx d_Order_sum_5 rfl 4 rfl ?_
    refine oz_aload_n (q := 8) cx d_Order_sum_7 rfl rfl 0 rfl ?_
    refine oz_get (q := 11) cx 6 0 (by decide) (ci := 3) rfl rfl tin_Order (by decide) rfl rfl tw_69 d_Order_sum_8 rfl ?_
    refine oz_icmp_ge (q := 14) cx d_Order_sum_11 rfl rfl (fun h5 => ?_) (fun h5 => ?_)
    · exact oz_lv [3] rfl (oz_leaf (fun h => h))
    · refine oz_iload_n (q := 15) cx d_Order_sum_14 rfl rfl 2 rfl ?_
      refine oz_iload (q := 17) cx d_Order_sum_15 rfl 4 rfl ?_
      refine oz_cSNip (q := 20) cx [.int a1, .int s1.2] 2 hRm (by decide) (by decide) (fun _ h => c_Hall_has h) tn_295 ⟨tw_274, tw_1⟩ tw_275 (by decide +kernel) rfl (st := []) rfl (Nat.le_of_ble_eq_true rfl) d_Order_sum_17 rfl (fun v2 hv2 => ?_)
      refine oz_if_eq (q := 23) cx d_Order_sum_20 rfl rfl (fun h4 => ?_) (fun h4 => ?_)
      · refine oz_iinc (q := 33) cx (s1.2 + 1) d_Order_sum_30 rfl 4 rfl rfl (by rw [hnL]; decide) (lv2 := [(4, .int (s1.2 + 1)), (0, .ref (oz_b G + 6)), (1, .ref (oz_b G + a0)), (2, .int a1), (3, .int s1.1)]) rfl ?_
        refine oz_goto cx d_Order_sum_33 rfl ?_
        exact oz_lv [1, 2, 3, 4, 0] rfl (oz_leaf (fun h => h))
      · refine oz_iload_n (q := 24) cx d_Order_sum_23 rfl rfl 3 rfl ?_
        refine oz_aload_n (q := 25) cx d_Order_sum_24 rfl rfl 1 rfl ?_
        refine oz_iload (q := 27) cx d_Order_sum_25 rfl 4 rfl ?_
        refine oz_iald (q := 28) cx a0 14 ha0.1 (ha0.2 _ _ _ _) d_Order_sum_27 rfl (fun j3 hj3 => ?_)
        refine oz_iadd (q := 29) cx d_Order_sum_28 rfl ?_
        refine oz_istore_n (q := 30) cx d_Order_sum_29 rfl rfl (by rw [hnL]; decide) (lv2 := [(3, .int (s1.1 + (M.1 a0 j3))), (0, .ref (oz_b G + 6)), (1, .ref (oz_b G + a0)), (2, .int a1), (4, .int s1.2)]) rfl ?_
        refine oz_iinc (q := 33) cx (s1.2 + 1) d_Order_sum_30 rfl 4 rfl rfl (by rw [hnL]; decide) (lv2 := [(4, .int (s1.2 + 1)), (3, .int (s1.1 + (M.1 a0 j3))), (0, .ref (oz_b G + 6)), (1, .ref (oz_b G + a0)), (2, .int a1)]) rfl ?_
        refine oz_goto cx d_Order_sum_33 rfl ?_
        exact oz_lv [2, 3, 4, 1, 0] rfl (oz_leaf (fun h => h))
  · refine oz_iload_n (q := 37) cx d_Order_sum_36 rfl rfl 0 rfl ?_
    exact oz_iretp cx hR d_Order_sum_37
def y_Parts_cutChains : MethodName := ⟨"OrderHall$Parts", "cutChains", "(I)V"⟩
theorem d_Parts_cutChains_0 : decode prog_7_method_7_code 0 = .ok (.iconst 0, 1) := by decide +kernel
theorem d_Parts_cutChains_1 : decode prog_7_method_7_code 1 = .ok (.istore_n 2, 1) := by decide +kernel
theorem d_Parts_cutChains_2 : decode prog_7_method_7_code 2 = .ok (.iload_n 2, 1) := by decide +kernel
theorem d_Parts_cutChains_3 : decode prog_7_method_7_code 3 = .ok (.aload_n 0, 1) := by decide +kernel
theorem d_Parts_cutChains_4 : decode prog_7_method_7_code 4 = .ok (.getfield 31, 3) := by decide +kernel
theorem d_Parts_cutChains_7 : decode prog_7_method_7_code 7 = .ok (.getfield 35, 3) := by decide +kernel
theorem d_Parts_cutChains_10 : decode prog_7_method_7_code 10 = .ok (.if_icmp .ge 36, 3) := by decide +kernel
theorem d_Parts_cutChains_13 : decode prog_7_method_7_code 13 = .ok (.iload_n 1, 1) := by decide +kernel
theorem d_Parts_cutChains_14 : decode prog_7_method_7_code 14 = .ok (.iload_n 2, 1) := by decide +kernel
theorem d_Parts_cutChains_15 : decode prog_7_method_7_code 15 = .ok (.invokestatic 91, 3) := by decide +kernel
theorem d_Parts_cutChains_18 : decode prog_7_method_7_code 18 = .ok (.ifCond .eq 22, 3) := by decide +kernel
theorem d_Parts_cutChains_21 : decode prog_7_method_7_code 21 = .ok (.aload_n 0, 1) := by decide +kernel
theorem d_Parts_cutChains_22 : decode prog_7_method_7_code 22 = .ok (.getfield 22, 3) := by decide +kernel
theorem d_Parts_cutChains_25 : decode prog_7_method_7_code 25 = .ok (.iload_n 2, 1) := by decide +kernel
theorem d_Parts_cutChains_26 : decode prog_7_method_7_code 26 = .ok (.iaload, 1) := by decide +kernel
theorem d_Parts_cutChains_27 : decode prog_7_method_7_code 27 = .ok (.iconst (-1), 1) := by decide +kernel
theorem d_Parts_cutChains_28 : decode prog_7_method_7_code 28 = .ok (.if_icmp .ne 12, 3) := by decide +kernel
theorem d_Parts_cutChains_31 : decode prog_7_method_7_code 31 = .ok (.aload_n 0, 1) := by decide +kernel
theorem d_Parts_cutChains_32 : decode prog_7_method_7_code 32 = .ok (.aload_n 0, 1) := by decide +kernel
theorem d_Parts_cutChains_33 : decode prog_7_method_7_code 33 = .ok (.iload_n 2, 1) := by decide +kernel
theorem d_Parts_cutChains_34 : decode prog_7_method_7_code 34 = .ok (.invokevirtual 95, 3) := by decide +kernel
theorem d_Parts_cutChains_37 : decode prog_7_method_7_code 37 = .ok (.invokevirtual 81, 3) := by decide +kernel
theorem d_Parts_cutChains_40 : decode prog_7_method_7_code 40 = .ok (.iinc 2 1, 3) := by decide +kernel
theorem d_Parts_cutChains_43 : decode prog_7_method_7_code 43 = .ok (.goto (-41), 3) := by decide +kernel
theorem d_Parts_cutChains_46 : decode prog_7_method_7_code 46 = .ok (.return_, 1) := by decide +kernel
noncomputable def f_Parts_cutChains (a0 : Int32) (M : oz_M) : Option (Unit × oz_M) := (oz_lp (fun (s1 : Int32 × oz_M) => (if s1.1 < (s1.2.1 6 0) then ((f_Hall_has a0 s1.1 s1.2).bind fun v2 => if v2 = 0 then (some (.inl (s1.1 + 1, s1.2))) else ((oz_in s1.1 14).bind fun j3 => if (s1.2.1 59 j3) = (-1) then ((f_Parts_chainFrom s1.1 s1.2).bind fun v4 => oz_b2 (f_Parts_addPart v4 s1.2) fun v5 M6 => some (.inl (s1.1 + 1, M6))) else (some (.inl (s1.1 + 1, s1.2))))) else (some (.inr (s1.1, s1.2))) : Option ((Int32 × oz_M) ⊕ (Int32 × oz_M)))) (0, M)).bind fun (y10 : Int32 × oz_M) => some ((), y10.2)
set_option maxRecDepth 20000 in
set_option maxHeartbeats 4000000 in
theorem c_Parts_cutChains {l : Launch} {D : va_G} {cs : Nat → ClassId} {b : Nat} {a0 : Int32} {M : oz_M} {vz : Unit} {Mz : oz_M} (hF : f_Parts_cutChains a0 M = some (vz, Mz)) : oz_Met l D cs b y_Parts_cutChains prog_7_method_7_code 3 none (oz_rm 1) [.ref (b + 56), .int a0] M (none) Mz := by
  refine oz_enter (by decide) (Nat.le_of_ble_eq_true rfl) (fun G cx hR e1 hRm e2 e3 e4 hnL => ?_)
  subst e1; subst e2; subst e3; subst e4
  refine (?_ : oz_R G 0 [(0, .ref (oz_b G + 56)), (1, .int a0)] [] M (f_Parts_cutChains a0 M) (fun x => x = (vz, Mz))) _ hF rfl
  unfold f_Parts_cutChains
  refine oz_iconst (q := 1) cx d_Parts_cutChains_0 rfl (v := 0) rfl ?_
  refine oz_istore_n (q := 2) cx d_Parts_cutChains_1 rfl rfl (by rw [hnL]; decide) (lv2 := [(2, .int 0), (0, .ref (oz_b G + 56)), (1, .int a0)]) rfl ?_
  refine oz_lv [1, 2, 0] rfl ?_
  refine oz_seq (p2 := 46) (lv2 := fun (y10 : Int32 × oz_M) => []) (st2 := fun y10 => []) (M2 := fun y10 => y10.2) ?_ (fun y10 => ?_)
  · refine oz_loop (Y := Int32 × oz_M) 2 (fun (s1 : Int32 × oz_M) => [(0, .ref (oz_b G + 56)), (1, .int a0), (2, .int s1.1)]) (fun (s1 : Int32 × oz_M) => s1.2) (0, M) (fun s1 => ?_)
    refine oz_iload_n (q := 3) cx d_Parts_cutChains_2 rfl rfl 2 rfl ?_
    refine oz_aload_n (q := 4) cx d_Parts_cutChains_3 rfl rfl 0 rfl ?_
    refine oz_get (q := 7) cx 56 0 (by decide) (ci := 7) rfl rfl tin_Parts (by decide) rfl rfl tw_206 d_Parts_cutChains_4 rfl ?_
    refine oz_get (q := 10) cx 6 0 (by decide) (ci := 3) rfl rfl tin_Order (by decide) rfl rfl tw_70 d_Parts_cutChains_7 rfl ?_
    refine oz_icmp_ge (q := 13) cx d_Parts_cutChains_10 rfl rfl (fun h9 => ?_) (fun h9 => ?_)
    · exact oz_lv [] rfl (oz_leaf (fun h => h))
    · refine oz_iload_n (q := 14) cx d_Parts_cutChains_13 rfl rfl 1 rfl ?_
      refine oz_iload_n (q := 15) cx d_Parts_cutChains_14 rfl rfl 2 rfl ?_
      refine oz_cSNip (q := 18) cx [.int a0, .int s1.1] 2 hRm (by decide) (by decide) (fun _ h => c_Hall_has h) tn_745 ⟨tw_274, tw_1⟩ tw_275 (by decide +kernel) rfl (st := []) rfl (Nat.le_of_ble_eq_true rfl) d_Parts_cutChains_15 rfl (fun v2 hv2 => ?_)
      refine oz_if_eq (q := 21) cx d_Parts_cutChains_18 rfl rfl (fun h8 => ?_) (fun h8 => ?_)
      · refine oz_iinc (q := 43) cx (s1.1 + 1) d_Parts_cutChains_40 rfl 2 rfl rfl (by rw [hnL]; decide) (lv2 := [(2, .int (s1.1 + 1)), (0, .ref (oz_b G + 56)), (1, .int a0)]) rfl ?_
        refine oz_goto cx d_Parts_cutChains_43 rfl ?_
        exact oz_lv [1, 2, 0] rfl (oz_leaf (fun h => h))
      · refine oz_aload_n (q := 22) cx d_Parts_cutChains_21 rfl rfl 0 rfl ?_
        refine oz_get (q := 25) cx 56 4 (by decide) (ci := 7) rfl rfl tin_Parts (by decide) rfl rfl tw_210 d_Parts_cutChains_22 rfl ?_
        refine oz_iload_n (q := 26) cx d_Parts_cutChains_25 rfl rfl 2 rfl ?_
        refine oz_iald (q := 27) cx 59 14 (by decide) rfl d_Parts_cutChains_26 rfl (fun j3 hj3 => ?_)
        refine oz_iconst (q := 28) cx d_Parts_cutChains_27 rfl (v := (-1)) rfl ?_
        refine oz_icmp_ne (q := 31) cx d_Parts_cutChains_28 rfl rfl (fun h7 => ?_) (fun h7 => ?_)
        · refine oz_iinc (q := 43) cx (s1.1 + 1) d_Parts_cutChains_40 rfl 2 rfl rfl (by rw [hnL]; decide) (lv2 := [(2, .int (s1.1 + 1)), (0, .ref (oz_b G + 56)), (1, .int a0)]) rfl ?_
          refine oz_goto cx d_Parts_cutChains_43 rfl ?_
          exact oz_lv [1, 2, 0] rfl (oz_leaf (fun h => h))
        · refine oz_aload_n (q := 32) cx d_Parts_cutChains_31 rfl rfl 0 rfl ?_
          refine oz_aload_n (q := 33) cx d_Parts_cutChains_32 rfl rfl 0 rfl ?_
          refine oz_iload_n (q := 34) cx d_Parts_cutChains_33 rfl rfl 2 rfl ?_
          refine oz_cVip (q := 37) cx 56 [.int s1.1] 1 7 hRm (by decide) (by decide) (fun _ h => c_Parts_chainFrom h) ⟨tw_758, tw_760, ts_26, tw_8⟩ tw_761 (by decide +kernel) rfl (by decide) rfl rfl (st := [.ref (oz_b G + 56)]) rfl (Nat.le_of_ble_eq_true rfl) d_Parts_cutChains_34 rfl (fun v4 hv4 => ?_)
          refine oz_cVv (q := 40) cx 56 [.int v4] 1 7 hRm (by decide) (by decide) (fun _ _ h => c_Parts_addPart h) ⟨tw_762, tw_764, ts_27, tw_8⟩ tw_765 (by decide +kernel) rfl (by decide) rfl rfl (st := []) rfl (Nat.le_of_ble_eq_true rfl) d_Parts_cutChains_37 rfl (fun v5 M6 hv5 => ?_)
          refine oz_iinc (q := 43) cx (s1.1 + 1) d_Parts_cutChains_40 rfl 2 rfl rfl (by rw [hnL]; decide) (lv2 := [(2, .int (s1.1 + 1)), (0, .ref (oz_b G + 56)), (1, .int a0)]) rfl ?_
          refine oz_goto cx d_Parts_cutChains_43 rfl ?_
          exact oz_lv [1, 2, 0] rfl (oz_leaf (fun h => h))
  · exact oz_vret cx hR d_Parts_cutChains_46
def y_Parts_linkOn : MethodName := ⟨"OrderHall$Parts", "linkOn", "(II)V"⟩
theorem d_Parts_linkOn_0 : decode prog_7_method_10_code 0 = .ok (.iload_n 2, 1) := by decide +kernel
theorem d_Parts_linkOn_1 : decode prog_7_method_10_code 1 = .ok (.istore_n 3, 1) := by decide +kernel
theorem d_Parts_linkOn_2 : decode prog_7_method_10_code 2 = .ok (.iconst 1, 1) := by decide +kernel
theorem d_Parts_linkOn_3 : decode prog_7_method_10_code 3 = .ok (.istore 4, 2) := by decide +kernel
theorem d_Parts_linkOn_5 : decode prog_7_method_10_code 5 = .ok (.aload_n 0, 1) := by decide +kernel
theorem d_Parts_linkOn_6 : decode prog_7_method_10_code 6 = .ok (.getfield 28, 3) := by decide +kernel
theorem d_Parts_linkOn_9 : decode prog_7_method_10_code 9 = .ok (.iconst 0, 1) := by decide +kernel
theorem d_Parts_linkOn_10 : decode prog_7_method_10_code 10 = .ok (.iload_n 1, 1) := by decide +kernel
theorem d_Parts_linkOn_11 : decode prog_7_method_10_code 11 = .ok (.iastore, 1) := by decide +kernel
theorem d_Parts_linkOn_12 : decode prog_7_method_10_code 12 = .ok (.iconst 0, 1) := by decide +kernel
theorem d_Parts_linkOn_13 : decode prog_7_method_10_code 13 = .ok (.istore 5, 2) := by decide +kernel
theorem d_Parts_linkOn_15 : decode prog_7_method_10_code 15 = .ok (.iload 5, 2) := by decide +kernel
theorem d_Parts_linkOn_17 : decode prog_7_method_10_code 17 = .ok (.aload_n 0, 1) := by decide +kernel
theorem d_Parts_linkOn_18 : decode prog_7_method_10_code 18 = .ok (.getfield 31, 3) := by decide +kernel
theorem d_Parts_linkOn_21 : decode prog_7_method_10_code 21 = .ok (.getfield 35, 3) := by decide +kernel
theorem d_Parts_linkOn_24 : decode prog_7_method_10_code 24 = .ok (.if_icmp .ge 119, 3) := by decide +kernel
theorem d_Parts_linkOn_27 : decode prog_7_method_10_code 27 = .ok (.iload 5, 2) := by decide +kernel
theorem d_Parts_linkOn_29 : decode prog_7_method_10_code 29 = .ok (.iload 4, 2) := by decide +kernel
theorem d_Parts_linkOn_31 : decode prog_7_method_10_code 31 = .ok (.if_icmp .ge 112, 3) := by decide +kernel
theorem d_Parts_linkOn_34 : decode prog_7_method_10_code 34 = .ok (.aload_n 0, 1) := by decide +kernel
theorem d_Parts_linkOn_35 : decode prog_7_method_10_code 35 = .ok (.getfield 28, 3) := by decide +kernel
theorem d_Parts_linkOn_38 : decode prog_7_method_10_code 38 = .ok (.iload 5, 2) := by decide +kernel
theorem d_Parts_linkOn_40 : decode prog_7_method_10_code 40 = .ok (.iaload, 1) := by decide +kernel
theorem d_Parts_linkOn_41 : decode prog_7_method_10_code 41 = .ok (.istore 6, 2) := by decide +kernel
theorem d_Parts_linkOn_43 : decode prog_7_method_10_code 43 = .ok (.iconst 0, 1) := by decide +kernel
theorem d_Parts_linkOn_44 : decode prog_7_method_10_code 44 = .ok (.istore 7, 2) := by decide +kernel
theorem d_Parts_linkOn_46 : decode prog_7_method_10_code 46 = .ok (.iload 7, 2) := by decide +kernel
theorem d_Parts_linkOn_48 : decode prog_7_method_10_code 48 = .ok (.aload_n 0, 1) := by decide +kernel
theorem d_Parts_linkOn_49 : decode prog_7_method_10_code 49 = .ok (.getfield 31, 3) := by decide +kernel
theorem d_Parts_linkOn_52 : decode prog_7_method_10_code 52 = .ok (.getfield 35, 3) := by decide +kernel
theorem d_Parts_linkOn_55 : decode prog_7_method_10_code 55 = .ok (.if_icmp .ge 82, 3) := by decide +kernel
theorem d_Parts_linkOn_58 : decode prog_7_method_10_code 58 = .ok (.aload_n 0, 1) := by decide +kernel
theorem d_Parts_linkOn_59 : decode prog_7_method_10_code 59 = .ok (.getfield 31, 3) := by decide +kernel
theorem d_Parts_linkOn_62 : decode prog_7_method_10_code 62 = .ok (.getfield 101, 3) := by decide +kernel
theorem d_Parts_linkOn_65 : decode prog_7_method_10_code 65 = .ok (.iload 6, 2) := by decide +kernel
theorem d_Parts_linkOn_67 : decode prog_7_method_10_code 67 = .ok (.iaload, 1) := by decide +kernel
theorem d_Parts_linkOn_68 : decode prog_7_method_10_code 68 = .ok (.iload_n 3, 1) := by decide +kernel
theorem d_Parts_linkOn_69 : decode prog_7_method_10_code 69 = .ok (.iand, 1) := by decide +kernel
theorem d_Parts_linkOn_70 : decode prog_7_method_10_code 70 = .ok (.iload 7, 2) := by decide +kernel
theorem d_Parts_linkOn_72 : decode prog_7_method_10_code 72 = .ok (.invokestatic 91, 3) := by decide +kernel
theorem d_Parts_linkOn_75 : decode prog_7_method_10_code 75 = .ok (.ifCond .eq 56, 3) := by decide +kernel
theorem d_Parts_linkOn_78 : decode prog_7_method_10_code 78 = .ok (.iload_n 3, 1) := by decide +kernel
theorem d_Parts_linkOn_79 : decode prog_7_method_10_code 79 = .ok (.iconst 1, 1) := by decide +kernel
theorem d_Parts_linkOn_80 : decode prog_7_method_10_code 80 = .ok (.iload 7, 2) := by decide +kernel
theorem d_Parts_linkOn_82 : decode prog_7_method_10_code 82 = .ok (.ishl, 1) := by decide +kernel
theorem d_Parts_linkOn_83 : decode prog_7_method_10_code 83 = .ok (.iconst (-1), 1) := by decide +kernel
theorem d_Parts_linkOn_84 : decode prog_7_method_10_code 84 = .ok (.ixor, 1) := by decide +kernel
theorem d_Parts_linkOn_85 : decode prog_7_method_10_code 85 = .ok (.iand, 1) := by decide +kernel
theorem d_Parts_linkOn_86 : decode prog_7_method_10_code 86 = .ok (.istore_n 3, 1) := by decide +kernel
theorem d_Parts_linkOn_87 : decode prog_7_method_10_code 87 = .ok (.aload_n 0, 1) := by decide +kernel
theorem d_Parts_linkOn_88 : decode prog_7_method_10_code 88 = .ok (.getfield 25, 3) := by decide +kernel
theorem d_Parts_linkOn_91 : decode prog_7_method_10_code 91 = .ok (.iload 7, 2) := by decide +kernel
theorem d_Parts_linkOn_93 : decode prog_7_method_10_code 93 = .ok (.iload 6, 2) := by decide +kernel
theorem d_Parts_linkOn_95 : decode prog_7_method_10_code 95 = .ok (.iastore, 1) := by decide +kernel
theorem d_Parts_linkOn_96 : decode prog_7_method_10_code 96 = .ok (.aload_n 0, 1) := by decide +kernel
theorem d_Parts_linkOn_97 : decode prog_7_method_10_code 97 = .ok (.getfield 22, 3) := by decide +kernel
theorem d_Parts_linkOn_100 : decode prog_7_method_10_code 100 = .ok (.iload 7, 2) := by decide +kernel
theorem d_Parts_linkOn_102 : decode prog_7_method_10_code 102 = .ok (.iaload, 1) := by decide +kernel
theorem d_Parts_linkOn_103 : decode prog_7_method_10_code 103 = .ok (.iconst (-1), 1) := by decide +kernel
theorem d_Parts_linkOn_104 : decode prog_7_method_10_code 104 = .ok (.if_icmp .ne 10, 3) := by decide +kernel
theorem d_Parts_linkOn_107 : decode prog_7_method_10_code 107 = .ok (.aload_n 0, 1) := by decide +kernel
theorem d_Parts_linkOn_108 : decode prog_7_method_10_code 108 = .ok (.iload 7, 2) := by decide +kernel
theorem d_Parts_linkOn_110 : decode prog_7_method_10_code 110 = .ok (.invokevirtual 104, 3) := by decide +kernel
theorem d_Parts_linkOn_113 : decode prog_7_method_10_code 113 = .ok (.return_, 1) := by decide +kernel
theorem d_Parts_linkOn_114 : decode prog_7_method_10_code 114 = .ok (.aload_n 0, 1) := by decide +kernel
theorem d_Parts_linkOn_115 : decode prog_7_method_10_code 115 = .ok (.getfield 28, 3) := by decide +kernel
theorem d_Parts_linkOn_118 : decode prog_7_method_10_code 118 = .ok (.iload 4, 2) := by decide +kernel
theorem d_Parts_linkOn_120 : decode prog_7_method_10_code 120 = .ok (.aload_n 0, 1) := by decide +kernel
theorem d_Parts_linkOn_121 : decode prog_7_method_10_code 121 = .ok (.getfield 22, 3) := by decide +kernel
theorem d_Parts_linkOn_124 : decode prog_7_method_10_code 124 = .ok (.iload 7, 2) := by decide +kernel
theorem d_Parts_linkOn_126 : decode prog_7_method_10_code 126 = .ok (.iaload, 1) := by decide +kernel
theorem d_Parts_linkOn_127 : decode prog_7_method_10_code 127 = .ok (.iastore, 1) := by decide +kernel
theorem d_Parts_linkOn_128 : decode prog_7_method_10_code 128 = .ok (.iinc 4 1, 3) := by decide +kernel
theorem d_Parts_linkOn_131 : decode prog_7_method_10_code 131 = .ok (.iinc 7 1, 3) := by decide +kernel
theorem d_Parts_linkOn_134 : decode prog_7_method_10_code 134 = .ok (.goto (-88), 3) := by decide +kernel
theorem d_Parts_linkOn_137 : decode prog_7_method_10_code 137 = .ok (.iinc 5 1, 3) := by decide +kernel
theorem d_Parts_linkOn_140 : decode prog_7_method_10_code 140 = .ok (.goto (-125), 3) := by decide +kernel
theorem d_Parts_linkOn_143 : decode prog_7_method_10_code 143 = .ok (.return_, 1) := by decide +kernel
noncomputable def f_Parts_linkOn (a0 : Int32) (a1 : Int32) (M : oz_M) : Option (Unit × oz_M) := (oz_in 0 15).bind fun j1 => (some (oz_s M 61 j1 a0)).bind fun M2 => (oz_lp (fun (s3 : Int32 × Int32 × Int32 × oz_M) => (if s3.2.2.1 < (s3.2.2.2.1 6 0) then (if s3.2.2.1 < s3.2.1 then ((oz_in s3.2.2.1 15).bind fun j4 => (oz_lp (fun (s5 : Int32 × Int32 × Int32 × oz_M) => (if s5.2.2.1 < (s5.2.2.2.1 6 0) then ((oz_in (s3.2.2.2.1 61 j4) 14).bind fun j6 => (f_Hall_has ((s5.2.2.2.1 8 j6) &&& s5.1) s5.2.2.1 s5.2.2.2).bind fun v7 => if v7 = 0 then (some (.inl (s5.1, s5.2.1, s5.2.2.1 + 1, s5.2.2.2))) else ((oz_in s5.2.2.1 14).bind fun j8 => (some (oz_s s5.2.2.2 60 j8 (s3.2.2.2.1 61 j4))).bind fun M9 => (oz_in s5.2.2.1 14).bind fun j10 => if (M9.1 59 j10) = (-1) then (oz_b2 (f_Parts_relink s5.2.2.1 M9) fun v14 M15 => some (.inr (.inr ((), M15)))) else ((oz_in s5.2.2.1 14).bind fun j11 => (oz_in s5.2.1 15).bind fun j12 => (some (oz_s M9 61 j12 (M9.1 59 j11))).bind fun M13 => some (.inl (s5.1 &&& ((1 <<< (s5.2.2.1 &&& 31)) ^^^ (-1)), s5.2.1 + 1, s5.2.2.1 + 1, M13))))) else (some (.inr (.inl (s5.1, s5.2.1, s5.2.2.1, s5.2.2.2)))) : Option ((Int32 × Int32 × Int32 × oz_M) ⊕ ((Int32 × Int32 × Int32 × oz_M) ⊕ (Unit × oz_M))))) (s3.1, s3.2.1, 0, s3.2.2.2)).bind (oz_el (fun (y19 : Int32 × Int32 × Int32 × oz_M) => some (.inl (y19.1, y19.2.1, s3.2.2.1 + 1, y19.2.2.2))) (fun r20 => some (.inr (.inr r20))))) else (some (.inr (.inl (s3.1, s3.2.1, s3.2.2.1, s3.2.2.2))))) else (some (.inr (.inl (s3.1, s3.2.1, s3.2.2.1, s3.2.2.2)))) : Option ((Int32 × Int32 × Int32 × oz_M) ⊕ ((Int32 × Int32 × Int32 × oz_M) ⊕ (Unit × oz_M))))) (a1, 1, 0, M2)).bind (oz_el (fun (y23 : Int32 × Int32 × Int32 × oz_M) => some ((), y23.2.2.2)) (fun r24 => some (r24)))
set_option maxRecDepth 20000 in
set_option maxHeartbeats 4000000 in
theorem c_Parts_linkOn {l : Launch} {D : va_G} {cs : Nat → ClassId} {b : Nat} {a0 : Int32} {a1 : Int32} {M : oz_M} {vz : Unit} {Mz : oz_M} (hF : f_Parts_linkOn a0 a1 M = some (vz, Mz)) : oz_Met l D cs b y_Parts_linkOn prog_7_method_10_code 8 none (oz_rm 1) [.ref (b + 56), .int a0, .int a1] M (none) Mz := by
  refine oz_enter (by decide) (Nat.le_of_ble_eq_true rfl) (fun G cx hR e1 hRm e2 e3 e4 hnL => ?_)
  subst e1; subst e2; subst e3; subst e4
  refine (?_ : oz_R G 0 [(0, .ref (oz_b G + 56)), (1, .int a0), (2, .int a1)] [] M (f_Parts_linkOn a0 a1 M) (fun x => x = (vz, Mz))) _ hF rfl
  unfold f_Parts_linkOn
  refine oz_iload_n (q := 1) cx d_Parts_linkOn_0 rfl rfl 2 rfl ?_
  refine oz_istore_n (q := 2) cx d_Parts_linkOn_1 rfl rfl (by rw [hnL]; decide) (lv2 := [(3, .int a1), (0, .ref (oz_b G + 56)), (1, .int a0), (2, .int a1)]) rfl ?_
  refine oz_iconst (q := 3) cx d_Parts_linkOn_2 rfl (v := 1) rfl ?_
  refine oz_istore (q := 5) cx d_Parts_linkOn_3 rfl (by rw [hnL]; decide) (lv2 := [(4, .int 1), (3, .int a1), (0, .ref (oz_b G + 56)), (1, .int a0), (2, .int a1)]) rfl ?_
  refine oz_aload_n (q := 6) cx d_Parts_linkOn_5 rfl rfl 2 rfl ?_
  refine oz_get (q := 9) cx 56 6 (by decide) (ci := 7) rfl rfl tin_Parts (by decide) rfl rfl tw_212 d_Parts_linkOn_6 rfl ?_
  refine oz_iconst (q := 10) cx d_Parts_linkOn_9 rfl (v := 0) rfl ?_
  refine oz_iload_n (q := 11) cx d_Parts_linkOn_10 rfl rfl 3 rfl ?_
  refine oz_iast (q := 12) cx 61 15 (by decide) (fun _ => rfl) d_Parts_linkOn_11 rfl (fun j1 hj1 => ?_)
  refine oz_nm (fun M2 hM2 => ?_)
  refine oz_iconst (q := 13) cx d_Parts_linkOn_12 rfl (v := 0) rfl ?_
  refine oz_istore (q := 15) cx d_Parts_linkOn_13 rfl (by rw [hnL]; decide) (lv2 := [(5, .int 0), (4, .int 1), (3, .int a1), (0, .ref (oz_b G + 56)), (1, .int a0), (2, .int a1)]) rfl ?_
  refine oz_lv [3, 2, 1, 0] rfl ?_
  refine oz_seqE (p2 := 143) (lv2 := fun (y23 : Int32 × Int32 × Int32 × oz_M) => []) (M2 := fun y23 => y23.2.2.2) (fun x => x = (vz, Mz)) ?_ (fun y23 => ?_) (fun _ _ hx hK => by cases hx; exact hK)
  · refine oz_loop (Y := (Int32 × Int32 × Int32 × oz_M) ⊕ (Unit × oz_M)) 15 (fun (s3 : Int32 × Int32 × Int32 × oz_M) => [(0, .ref (oz_b G + 56)), (3, .int s3.1), (4, .int s3.2.1), (5, .int s3.2.2.1)]) (fun (s3 : Int32 × Int32 × Int32 × oz_M) => s3.2.2.2) (a1, 1, 0, M2) (fun s3 => ?_)
    refine oz_iload (q := 17) cx d_Parts_linkOn_15 rfl 3 rfl ?_
    refine oz_aload_n (q := 18) cx d_Parts_linkOn_17 rfl rfl 0 rfl ?_
    refine oz_get (q := 21) cx 56 0 (by decide) (ci := 7) rfl rfl tin_Parts (by decide) rfl rfl tw_206 d_Parts_linkOn_18 rfl ?_
    refine oz_get (q := 24) cx 6 0 (by decide) (ci := 3) rfl rfl tin_Order (by decide) rfl rfl tw_70 d_Parts_linkOn_21 rfl ?_
    refine oz_icmp_ge (q := 27) cx d_Parts_linkOn_24 rfl rfl (fun h22 => ?_) (fun h22 => ?_)
    · exact oz_lv [] rfl (oz_leaf (fun h => h))
    · refine oz_iload (q := 29) cx d_Parts_linkOn_27 rfl 3 rfl ?_
      refine oz_iload (q := 31) cx d_Parts_linkOn_29 rfl 2 rfl ?_
      refine oz_icmp_ge (q := 34) cx d_Parts_linkOn_31 rfl rfl (fun h21 => ?_) (fun h21 => ?_)
      · exact oz_lv [] rfl (oz_leaf (fun h => h))
      · refine oz_aload_n (q := 35) cx d_Parts_linkOn_34 rfl rfl 0 rfl ?_
        refine oz_get (q := 38) cx 56 6 (by decide) (ci := 7) rfl rfl tin_Parts (by decide) rfl rfl tw_212 d_Parts_linkOn_35 rfl ?_
        refine oz_iload (q := 40) cx d_Parts_linkOn_38 rfl 3 rfl ?_
        refine oz_iald (q := 41) cx 61 15 (by decide) rfl d_Parts_linkOn_40 rfl (fun j4 hj4 => ?_)
        refine oz_istore (q := 43) cx d_Parts_linkOn_41 rfl (by rw [hnL]; decide) (lv2 := [(6, .int (s3.2.2.2.1 61 j4)), (0, .ref (oz_b G + 56)), (3, .int s3.1), (4, .int s3.2.1), (5, .int s3.2.2.1)]) rfl ?_
        refine oz_iconst (q := 44) cx d_Parts_linkOn_43 rfl (v := 0) rfl ?_
        refine oz_istore (q := 46) cx d_Parts_linkOn_44 rfl (by rw [hnL]; decide) (lv2 := [(7, .int 0), (6, .int (s3.2.2.2.1 61 j4)), (0, .ref (oz_b G + 56)), (3, .int s3.1), (4, .int s3.2.1), (5, .int s3.2.2.1)]) rfl ?_
        refine oz_lv [2, 3, 4, 5, 1, 0] rfl ?_
        refine oz_seqE (p2 := 137) (lv2 := fun (y19 : Int32 × Int32 × Int32 × oz_M) => [(0, .ref (oz_b G + 56)), (3, .int y19.1), (4, .int y19.2.1), (5, .int s3.2.2.1)]) (M2 := fun y19 => y19.2.2.2) (fun x => x = (vz, Mz)) ?_ (fun y19 => ?_) (fun _ _ hx hK => by cases hx; exact hK)
        · refine oz_loop (Y := (Int32 × Int32 × Int32 × oz_M) ⊕ (Unit × oz_M)) 46 (fun (s5 : Int32 × Int32 × Int32 × oz_M) => [(0, .ref (oz_b G + 56)), (3, .int s5.1), (4, .int s5.2.1), (5, .int s3.2.2.1), (6, .int (s3.2.2.2.1 61 j4)), (7, .int s5.2.2.1)]) (fun (s5 : Int32 × Int32 × Int32 × oz_M) => s5.2.2.2) (s3.1, s3.2.1, 0, s3.2.2.2) (fun s5 => ?_)
          refine oz_iload (q := 48) cx d_Parts_linkOn_46 rfl 5 rfl ?_
          refine oz_aload_n (q := 49) cx d_Parts_linkOn_48 rfl rfl 0 rfl ?_
          refine oz_get (q := 52) cx 56 0 (by decide) (ci := 7) rfl rfl tin_Parts (by decide) rfl rfl tw_206 d_Parts_linkOn_49 rfl ?_
          refine oz_get (q := 55) cx 6 0 (by decide) (ci := 3) rfl rfl tin_Order (by decide) rfl rfl tw_70 d_Parts_linkOn_52 rfl ?_
          refine oz_icmp_ge (q := 58) cx d_Parts_linkOn_55 rfl rfl (fun h18 => ?_) (fun h18 => ?_)
          · exact oz_lv [0, 1, 2, 3] rfl (oz_leaf (fun h => h))
          · refine oz_aload_n (q := 59) cx d_Parts_linkOn_58 rfl rfl 0 rfl ?_
            refine oz_get (q := 62) cx 56 0 (by decide) (ci := 7) rfl rfl tin_Parts (by decide) rfl rfl tw_206 d_Parts_linkOn_59 rfl ?_
            refine oz_get (q := 65) cx 6 2 (by decide) (ci := 3) rfl rfl tin_Order (by decide) rfl rfl tw_87 d_Parts_linkOn_62 rfl ?_
            refine oz_iload (q := 67) cx d_Parts_linkOn_65 rfl 4 rfl ?_
            refine oz_iald (q := 68) cx 8 14 (by decide) rfl d_Parts_linkOn_67 rfl (fun j6 hj6 => ?_)
            refine oz_iload_n (q := 69) cx d_Parts_linkOn_68 rfl rfl 1 rfl ?_
            refine oz_iand (q := 70) cx d_Parts_linkOn_69 rfl ?_
            refine oz_iload (q := 72) cx d_Parts_linkOn_70 rfl 5 rfl ?_
            refine oz_cSNip (q := 75) cx [.int ((s5.2.2.2.1 8 j6) &&& s5.1), .int s5.2.2.1] 2 hRm (by decide) (by decide) (fun _ h => c_Hall_has h) tn_745 ⟨tw_274, tw_1⟩ tw_275 (by decide +kernel) rfl (st := []) rfl (Nat.le_of_ble_eq_true rfl) d_Parts_linkOn_72 rfl (fun v7 hv7 => ?_)
            refine oz_if_eq (q := 78) cx d_Parts_linkOn_75 rfl rfl (fun h17 => ?_) (fun h17 => ?_)
            · refine oz_iinc (q := 134) cx (s5.2.2.1 + 1) d_Parts_linkOn_131 rfl 5 rfl rfl (by rw [hnL]; decide) (lv2 := [(7, .int (s5.2.2.1 + 1)), (0, .ref (oz_b G + 56)), (3, .int s5.1), (4, .int s5.2.1), (5, .int s3.2.2.1), (6, .int (s3.2.2.2.1 61 j4))]) rfl ?_
              refine oz_goto cx d_Parts_linkOn_134 rfl ?_
              exact oz_lv [1, 2, 3, 4, 5, 0] rfl (oz_leaf (fun h => h))
            · refine oz_iload_n (q := 79) cx d_Parts_linkOn_78 rfl rfl 1 rfl ?_
              refine oz_iconst (q := 80) cx d_Parts_linkOn_79 rfl (v := 1) rfl ?_
              refine oz_iload (q := 82) cx d_Parts_linkOn_80 rfl 5 rfl ?_
              refine oz_ishl (q := 83) cx d_Parts_linkOn_82 rfl ?_
              refine oz_iconst (q := 84) cx d_Parts_linkOn_83 rfl (v := (-1)) rfl ?_
              refine oz_ixor (q := 85) cx d_Parts_linkOn_84 rfl ?_
              refine oz_iand (q := 86) cx d_Parts_linkOn_85 rfl ?_
              refine oz_istore_n (q := 87) cx d_Parts_linkOn_86 rfl rfl (by rw [hnL]; decide) (lv2 := [(3, .int (s5.1 &&& ((1 <<< (s5.2.2.1 &&& 31)) ^^^ (-1)))), (0, .ref (oz_b G + 56)), (4, .int s5.2.1), (5, .int s3.2.2.1), (6, .int (s3.2.2.2.1 61 j4)), (7, .int s5.2.2.1)]) rfl ?_
              refine oz_aload_n (q := 88) cx d_Parts_linkOn_87 rfl rfl 1 rfl ?_
              refine oz_get (q := 91) cx 56 5 (by decide) (ci := 7) rfl rfl tin_Parts (by decide) rfl rfl tw_211 d_Parts_linkOn_88 rfl ?_
              refine oz_iload (q := 93) cx d_Parts_linkOn_91 rfl 5 rfl ?_
              refine oz_iload (q := 95) cx d_Parts_linkOn_93 rfl 4 rfl ?_
              refine oz_iast (q := 96) cx 60 14 (by decide) (fun _ => rfl) d_Parts_linkOn_95 rfl (fun j8 hj8 => ?_)
              refine oz_nm (fun M9 hM9 => ?_)
              refine oz_aload_n (q := 97) cx d_Parts_linkOn_96 rfl rfl 1 rfl ?_
              refine oz_get (q := 100) cx 56 4 (by decide) (ci := 7) rfl rfl tin_Parts (by decide) rfl rfl tw_210 d_Parts_linkOn_97 rfl ?_
              refine oz_iload (q := 102) cx d_Parts_linkOn_100 rfl 5 rfl ?_
              refine oz_iald (q := 103) cx 59 14 (by decide) rfl d_Parts_linkOn_102 rfl (fun j10 hj10 => ?_)
              refine oz_iconst (q := 104) cx d_Parts_linkOn_103 rfl (v := (-1)) rfl ?_
              refine oz_icmp_ne (q := 107) cx d_Parts_linkOn_104 rfl rfl (fun h16 => ?_) (fun h16 => ?_)
              · refine oz_aload_n (q := 115) cx d_Parts_linkOn_114 rfl rfl 1 rfl ?_
                refine oz_get (q := 118) cx 56 6 (by decide) (ci := 7) rfl rfl tin_Parts (by decide) rfl rfl tw_212 d_Parts_linkOn_115 rfl ?_
                refine oz_iload (q := 120) cx d_Parts_linkOn_118 rfl 2 rfl ?_
                refine oz_aload_n (q := 121) cx d_Parts_linkOn_120 rfl rfl 1 rfl ?_
                refine oz_get (q := 124) cx 56 4 (by decide) (ci := 7) rfl rfl tin_Parts (by decide) rfl rfl tw_210 d_Parts_linkOn_121 rfl ?_
                refine oz_iload (q := 126) cx d_Parts_linkOn_124 rfl 5 rfl ?_
                refine oz_iald (q := 127) cx 59 14 (by decide) rfl d_Parts_linkOn_126 rfl (fun j11 hj11 => ?_)
                refine oz_iast (q := 128) cx 61 15 (by decide) (fun _ => rfl) d_Parts_linkOn_127 rfl (fun j12 hj12 => ?_)
                refine oz_nm (fun M13 hM13 => ?_)
                refine oz_iinc (q := 131) cx (s5.2.1 + 1) d_Parts_linkOn_128 rfl 2 rfl rfl (by rw [hnL]; decide) (lv2 := [(4, .int (s5.2.1 + 1)), (3, .int (s5.1 &&& ((1 <<< (s5.2.2.1 &&& 31)) ^^^ (-1)))), (0, .ref (oz_b G + 56)), (5, .int s3.2.2.1), (6, .int (s3.2.2.2.1 61 j4)), (7, .int s5.2.2.1)]) rfl ?_
                refine oz_iinc (q := 134) cx (s5.2.2.1 + 1) d_Parts_linkOn_131 rfl 5 rfl rfl (by rw [hnL]; decide) (lv2 := [(7, .int (s5.2.2.1 + 1)), (4, .int (s5.2.1 + 1)), (3, .int (s5.1 &&& ((1 <<< (s5.2.2.1 &&& 31)) ^^^ (-1)))), (0, .ref (oz_b G + 56)), (5, .int s3.2.2.1), (6, .int (s3.2.2.2.1 61 j4))]) rfl ?_
                refine oz_goto cx d_Parts_linkOn_134 rfl ?_
                exact oz_lv [3, 2, 1, 4, 5, 0] rfl (oz_leaf (fun h => h))
              · refine oz_aload_n (q := 108) cx d_Parts_linkOn_107 rfl rfl 1 rfl ?_
                refine oz_iload (q := 110) cx d_Parts_linkOn_108 rfl 5 rfl ?_
                refine oz_cVv (q := 113) cx 56 [.int s5.2.2.1] 1 7 hRm (by decide) (by decide) (fun _ _ h => c_Parts_relink h) ⟨tw_750, tw_752, ts_24, tw_8⟩ tw_753 (by decide +kernel) rfl (by decide) rfl rfl (st := []) rfl (Nat.le_of_ble_eq_true rfl) d_Parts_linkOn_110 rfl (fun v14 M15 hv14 => ?_)
                exact oz_wrap (oz_vret cx hR d_Parts_linkOn_113) (fun h => h)
        · refine oz_iinc (q := 140) cx (s3.2.2.1 + 1) d_Parts_linkOn_137 rfl 3 rfl rfl (by rw [hnL]; decide) (lv2 := [(5, .int (s3.2.2.1 + 1)), (0, .ref (oz_b G + 56)), (3, .int y19.1), (4, .int y19.2.1)]) rfl ?_
          refine oz_goto cx d_Parts_linkOn_140 rfl ?_
          exact oz_lv [1, 2, 3, 0] rfl (oz_leaf (fun h => h))
  · exact oz_vret cx hR d_Parts_linkOn_143
def y_Parts_together : MethodName := ⟨"OrderHall$Parts", "together", "(I)I"⟩
theorem d_Parts_together_0 : decode prog_7_method_3_code 0 = .ok (.iconst 0, 1) := by decide +kernel
theorem d_Parts_together_1 : decode prog_7_method_3_code 1 = .ok (.istore_n 2, 1) := by decide +kernel
theorem d_Parts_together_2 : decode prog_7_method_3_code 2 = .ok (.iconst 0, 1) := by decide +kernel
theorem d_Parts_together_3 : decode prog_7_method_3_code 3 = .ok (.istore_n 3, 1) := by decide +kernel
theorem d_Parts_together_4 : decode prog_7_method_3_code 4 = .ok (.iload_n 3, 1) := by decide +kernel
theorem d_Parts_together_5 : decode prog_7_method_3_code 5 = .ok (.aload_n 0, 1) := by decide +kernel
theorem d_Parts_together_6 : decode prog_7_method_3_code 6 = .ok (.getfield 15, 3) := by decide +kernel
theorem d_Parts_together_9 : decode prog_7_method_3_code 9 = .ok (.if_icmp .ge 22, 3) := by decide +kernel
theorem d_Parts_together_12 : decode prog_7_method_3_code 12 = .ok (.iload_n 2, 1) := by decide +kernel
theorem d_Parts_together_13 : decode prog_7_method_3_code 13 = .ok (.aload_n 0, 1) := by decide +kernel
theorem d_Parts_together_14 : decode prog_7_method_3_code 14 = .ok (.getfield 9, 3) := by decide +kernel
theorem d_Parts_together_17 : decode prog_7_method_3_code 17 = .ok (.iload_n 3, 1) := by decide +kernel
theorem d_Parts_together_18 : decode prog_7_method_3_code 18 = .ok (.iaload, 1) := by decide +kernel
theorem d_Parts_together_19 : decode prog_7_method_3_code 19 = .ok (.iload_n 1, 1) := by decide +kernel
theorem d_Parts_together_20 : decode prog_7_method_3_code 20 = .ok (.invokestatic 60, 3) := by decide +kernel
theorem d_Parts_together_23 : decode prog_7_method_3_code 23 = .ok (.iadd, 1) := by decide +kernel
theorem d_Parts_together_24 : decode prog_7_method_3_code 24 = .ok (.istore_n 2, 1) := by decide +kernel
theorem d_Parts_together_25 : decode prog_7_method_3_code 25 = .ok (.iinc 3 1, 3) := by decide +kernel
theorem d_Parts_together_28 : decode prog_7_method_3_code 28 = .ok (.goto (-24), 3) := by decide +kernel
theorem d_Parts_together_31 : decode prog_7_method_3_code 31 = .ok (.iload_n 2, 1) := by decide +kernel
theorem d_Parts_together_32 : decode prog_7_method_3_code 32 = .ok (.ireturn, 1) := by decide +kernel
noncomputable def f_Parts_together (a0 : Int32) (M : oz_M) : Option (Int32) := (oz_lp (fun (s1 : Int32 × Int32) => (if s1.2 < (M.1 56 2) then ((oz_in s1.2 14).bind fun j2 => (some (s1.1 + (if a0 < (M.1 57 j2) then a0 else M.1 57 j2))).bind fun x3 => some (.inl (x3, s1.2 + 1))) else (some (.inr (s1.1, s1.2))) : Option ((Int32 × Int32) ⊕ (Int32 × Int32)))) (0, 0)).bind fun (y5 : Int32 × Int32) => some y5.1
set_option maxRecDepth 20000 in
set_option maxHeartbeats 4000000 in
theorem c_Parts_together {l : Launch} {D : va_G} {cs : Nat → ClassId} {b : Nat} {a0 : Int32} {M : oz_M} {vz : Int32} (hF : f_Parts_together a0 M = some vz) : oz_Met l D cs b y_Parts_together prog_7_method_3_code 4 (some .int) (oz_rm 1) [.ref (b + 56), .int a0] M (some (.int vz)) M := by
  refine oz_enter (by decide) (Nat.le_of_ble_eq_true rfl) (fun G cx hR e1 hRm e2 e3 e4 hnL => ?_)
  subst e1; subst e2; subst e3; subst e4
  refine (?_ : oz_R G 0 [(0, .ref (oz_b G + 56)), (1, .int a0)] [] M (f_Parts_together a0 M) (fun x => x = vz)) _ hF rfl
  unfold f_Parts_together
  refine oz_iconst (q := 1) cx d_Parts_together_0 rfl (v := 0) rfl ?_
  refine oz_istore_n (q := 2) cx d_Parts_together_1 rfl rfl (by rw [hnL]; decide) (lv2 := [(2, .int 0), (0, .ref (oz_b G + 56)), (1, .int a0)]) rfl ?_
  refine oz_iconst (q := 3) cx d_Parts_together_2 rfl (v := 0) rfl ?_
  refine oz_istore_n (q := 4) cx d_Parts_together_3 rfl rfl (by rw [hnL]; decide) (lv2 := [(3, .int 0), (2, .int 0), (0, .ref (oz_b G + 56)), (1, .int a0)]) rfl ?_
  refine oz_lv [2, 3, 1, 0] rfl ?_
  refine oz_seq (p2 := 31) (lv2 := fun (y5 : Int32 × Int32) => [(2, .int y5.1)]) (st2 := fun y5 => []) (M2 := fun y5 => M) ?_ (fun y5 => ?_)
  · refine oz_loop (Y := Int32 × Int32) 4 (fun (s1 : Int32 × Int32) => [(0, .ref (oz_b G + 56)), (1, .int a0), (2, .int s1.1), (3, .int s1.2)]) (fun (s1 : Int32 × Int32) => M) (0, 0) (fun s1 => ?_)
    refine oz_iload_n (q := 5) cx d_Parts_together_4 rfl rfl 3 rfl ?_
    refine oz_aload_n (q := 6) cx d_Parts_together_5 rfl rfl 0 rfl ?_
    refine oz_get (q := 9) cx 56 2 (by decide) (ci := 7) rfl rfl tin_Parts (by decide) rfl rfl tw_208 d_Parts_together_6 rfl ?_
    refine oz_icmp_ge (q := 12) cx d_Parts_together_9 rfl rfl (fun h4 => ?_) (fun h4 => ?_)
    · exact oz_lv [2] rfl (oz_leaf (fun h => h))
    · refine oz_iload_n (q := 13) cx d_Parts_together_12 rfl rfl 2 rfl ?_
      refine oz_aload_n (q := 14) cx d_Parts_together_13 rfl rfl 0 rfl ?_
      refine oz_get (q := 17) cx 56 1 (by decide) (ci := 7) rfl rfl tin_Parts (by decide) rfl rfl tw_207 d_Parts_together_14 rfl ?_
      refine oz_iload_n (q := 18) cx d_Parts_together_17 rfl rfl 3 rfl ?_
      refine oz_iald (q := 19) cx 57 14 (by decide) rfl d_Parts_together_18 rfl (fun j2 hj2 => ?_)
      refine oz_iload_n (q := 20) cx d_Parts_together_19 rfl rfl 1 rfl ?_
      refine oz_mmin (q := 23) cx hRm (by decide) ⟨tw_776, tw_min⟩ (Nat.le_of_ble_eq_true rfl) d_Parts_together_20 rfl ?_
      refine oz_iadd (q := 24) cx d_Parts_together_23 rfl ?_
      refine oz_istore_nN (q := 25) cx d_Parts_together_24 rfl rfl (by rw [hnL]; decide) (lv2 := fun x3 => [(2, .int x3), (0, .ref (oz_b G + 56)), (1, .int a0), (3, .int s1.2)]) (fun _ => rfl) (fun x3 hx3 => ?_)
      refine oz_iinc (q := 28) cx (s1.2 + 1) d_Parts_together_25 rfl 3 rfl rfl (by rw [hnL]; decide) (lv2 := [(3, .int (s1.2 + 1)), (2, .int x3), (0, .ref (oz_b G + 56)), (1, .int a0)]) rfl ?_
      refine oz_goto cx d_Parts_together_28 rfl ?_
      exact oz_lv [2, 3, 1, 0] rfl (oz_leaf (fun h => h))
  · refine oz_iload_n (q := 32) cx d_Parts_together_31 rfl rfl 0 rfl ?_
    exact oz_iretp cx hR d_Parts_together_32
def y_Ring_least : MethodName := ⟨"OrderHall$Ring", "least", "(I)I"⟩
theorem d_Ring_least_0 : decode prog_8_method_5_code 0 = .ok (.iconst 0, 1) := by decide +kernel
theorem d_Ring_least_1 : decode prog_8_method_5_code 1 = .ok (.istore_n 1, 1) := by decide +kernel
theorem d_Ring_least_2 : decode prog_8_method_5_code 2 = .ok (.iload_n 1, 1) := by decide +kernel
theorem d_Ring_least_3 : decode prog_8_method_5_code 3 = .ok (.bipush 14, 2) := by decide +kernel
theorem d_Ring_least_5 : decode prog_8_method_5_code 5 = .ok (.if_icmp .ge 19, 3) := by decide +kernel
theorem d_Ring_least_8 : decode prog_8_method_5_code 8 = .ok (.iload_n 0, 1) := by decide +kernel
theorem d_Ring_least_9 : decode prog_8_method_5_code 9 = .ok (.iload_n 1, 1) := by decide +kernel
theorem d_Ring_least_10 : decode prog_8_method_5_code 10 = .ok (.invokestatic 39, 3) := by decide +kernel
theorem d_Ring_least_13 : decode prog_8_method_5_code 13 = .ok (.ifCond .eq 5, 3) := by decide +kernel
theorem d_Ring_least_16 : decode prog_8_method_5_code 16 = .ok (.iload_n 1, 1) := by decide +kernel
theorem d_Ring_least_17 : decode prog_8_method_5_code 17 = .ok (.ireturn, 1) := by decide +kernel
theorem d_Ring_least_18 : decode prog_8_method_5_code 18 = .ok (.iinc 1 1, 3) := by decide +kernel
theorem d_Ring_least_21 : decode prog_8_method_5_code 21 = .ok (.goto (-19), 3) := by decide +kernel
theorem d_Ring_least_24 : decode prog_8_method_5_code 24 = .ok (.iconst 0, 1) := by decide +kernel
theorem d_Ring_least_25 : decode prog_8_method_5_code 25 = .ok (.ireturn, 1) := by decide +kernel
noncomputable def f_Ring_least (a0 : Int32) (M : oz_M) : Option (Int32) := (oz_lp (fun (s1 : Int32) => (if s1 < 14 then ((f_Hall_has a0 s1 M).bind fun v2 => if v2 = 0 then (some (.inl (s1 + 1))) else (some (.inr (.inr s1)))) else (some (.inr (.inl s1))) : Option ((Int32) ⊕ ((Int32) ⊕ (Int32))))) 0).bind (oz_el (fun (y5 : Int32) => some 0) (fun r6 => some (r6)))
set_option maxRecDepth 20000 in
set_option maxHeartbeats 4000000 in
theorem c_Ring_least {l : Launch} {D : va_G} {cs : Nat → ClassId} {b : Nat} {a0 : Int32} {M : oz_M} {vz : Int32} (hF : f_Ring_least a0 M = some vz) : oz_Met l D cs b y_Ring_least prog_8_method_5_code 2 (some .int) (oz_rm 1) [.int a0] M (some (.int vz)) M := by
  refine oz_enter (by decide) (Nat.le_of_ble_eq_true rfl) (fun G cx hR e1 hRm e2 e3 e4 hnL => ?_)
  subst e1; subst e2; subst e3; subst e4
  refine (?_ : oz_R G 0 [(0, .int a0)] [] M (f_Ring_least a0 M) (fun x => x = vz)) _ hF rfl
  unfold f_Ring_least
  refine oz_iconst (q := 1) cx d_Ring_least_0 rfl (v := 0) rfl ?_
  refine oz_istore_n (q := 2) cx d_Ring_least_1 rfl rfl (by rw [hnL]; decide) (lv2 := [(1, .int 0), (0, .int a0)]) rfl ?_
  refine oz_lv [1, 0] rfl ?_
  refine oz_seqE (p2 := 24) (lv2 := fun (y5 : Int32) => []) (M2 := fun y5 => M) (fun x => x = vz) ?_ (fun y5 => ?_) (fun _ _ hx hK => by cases hx; exact hK)
  · refine oz_loop (Y := (Int32) ⊕ (Int32)) 2 (fun (s1 : Int32) => [(0, .int a0), (1, .int s1)]) (fun (s1 : Int32) => M) 0 (fun s1 => ?_)
    refine oz_iload_n (q := 3) cx d_Ring_least_2 rfl rfl 1 rfl ?_
    refine oz_bipush (q := 5) cx d_Ring_least_3 rfl (v := 14) rfl ?_
    refine oz_icmp_ge (q := 8) cx d_Ring_least_5 rfl rfl (fun h4 => ?_) (fun h4 => ?_)
    · exact oz_lv [] rfl (oz_leaf (fun h => h))
    · refine oz_iload_n (q := 9) cx d_Ring_least_8 rfl rfl 0 rfl ?_
      refine oz_iload_n (q := 10) cx d_Ring_least_9 rfl rfl 1 rfl ?_
      refine oz_cSNip (q := 13) cx [.int a0, .int s1] 2 hRm (by decide) (by decide) (fun _ h => c_Hall_has h) tn_273 ⟨tw_274, tw_1⟩ tw_275 (by decide +kernel) rfl (st := []) rfl (Nat.le_of_ble_eq_true rfl) d_Ring_least_10 rfl (fun v2 hv2 => ?_)
      refine oz_if_eq (q := 16) cx d_Ring_least_13 rfl rfl (fun h3 => ?_) (fun h3 => ?_)
      · refine oz_iinc (q := 21) cx (s1 + 1) d_Ring_least_18 rfl 1 rfl rfl (by rw [hnL]; decide) (lv2 := [(1, .int (s1 + 1)), (0, .int a0)]) rfl ?_
        refine oz_goto cx d_Ring_least_21 rfl ?_
        exact oz_lv [1, 0] rfl (oz_leaf (fun h => h))
      · refine oz_iload_n (q := 17) cx d_Ring_least_16 rfl rfl 1 rfl ?_
        exact oz_wrap (oz_iretp cx hR d_Ring_least_17) (fun h => h)
  · refine oz_iconst (q := 25) cx d_Ring_least_24 rfl (v := 0) rfl ?_
    exact oz_iretp cx hR d_Ring_least_25
def y_Ring_stepsRound : MethodName := ⟨"OrderHall$Ring", "stepsRound", "(LOrderHall$Arcs;II)I"⟩
theorem d_Ring_stepsRound_0 : decode prog_8_method_3_code 0 = .ok (.aload_n 0, 1) := by decide +kernel
theorem d_Ring_stepsRound_1 : decode prog_8_method_3_code 1 = .ok (.getfield 19, 3) := by decide +kernel
theorem d_Ring_stepsRound_4 : decode prog_8_method_3_code 4 = .ok (.iconst 0, 1) := by decide +kernel
theorem d_Ring_stepsRound_5 : decode prog_8_method_3_code 5 = .ok (.iconst 1, 1) := by decide +kernel
theorem d_Ring_stepsRound_6 : decode prog_8_method_3_code 6 = .ok (.iload_n 2, 1) := by decide +kernel
theorem d_Ring_stepsRound_7 : decode prog_8_method_3_code 7 = .ok (.ishl, 1) := by decide +kernel
theorem d_Ring_stepsRound_8 : decode prog_8_method_3_code 8 = .ok (.iastore, 1) := by decide +kernel
theorem d_Ring_stepsRound_9 : decode prog_8_method_3_code 9 = .ok (.iconst 1, 1) := by decide +kernel
theorem d_Ring_stepsRound_10 : decode prog_8_method_3_code 10 = .ok (.istore 4, 2) := by decide +kernel
theorem d_Ring_stepsRound_12 : decode prog_8_method_3_code 12 = .ok (.iload 4, 2) := by decide +kernel
theorem d_Ring_stepsRound_14 : decode prog_8_method_3_code 14 = .ok (.iload_n 3, 1) := by decide +kernel
theorem d_Ring_stepsRound_15 : decode prog_8_method_3_code 15 = .ok (.if_icmp .gt 46, 3) := by decide +kernel
theorem d_Ring_stepsRound_18 : decode prog_8_method_3_code 18 = .ok (.aload_n 0, 1) := by decide +kernel
theorem d_Ring_stepsRound_19 : decode prog_8_method_3_code 19 = .ok (.getfield 19, 3) := by decide +kernel
theorem d_Ring_stepsRound_22 : decode prog_8_method_3_code 22 = .ok (.iload 4, 2) := by decide +kernel
theorem d_Ring_stepsRound_24 : decode prog_8_method_3_code 24 = .ok (.aload_n 1, 1) := by decide +kernel
theorem d_Ring_stepsRound_25 : decode prog_8_method_3_code 25 = .ok (.aload_n 0, 1) := by decide +kernel
theorem d_Ring_stepsRound_26 : decode prog_8_method_3_code 26 = .ok (.getfield 19, 3) := by decide +kernel
theorem d_Ring_stepsRound_29 : decode prog_8_method_3_code 29 = .ok (.iload 4, 2) := by decide +kernel
theorem d_Ring_stepsRound_31 : decode prog_8_method_3_code 31 = .ok (.iconst 1, 1) := by decide +kernel
theorem d_Ring_stepsRound_32 : decode prog_8_method_3_code 32 = .ok (.isub, 1) := by decide +kernel
theorem d_Ring_stepsRound_33 : decode prog_8_method_3_code 33 = .ok (.iaload, 1) := by decide +kernel
theorem d_Ring_stepsRound_34 : decode prog_8_method_3_code 34 = .ok (.invokevirtual 35, 3) := by decide +kernel
theorem d_Ring_stepsRound_37 : decode prog_8_method_3_code 37 = .ok (.iastore, 1) := by decide +kernel
theorem d_Ring_stepsRound_38 : decode prog_8_method_3_code 38 = .ok (.aload_n 0, 1) := by decide +kernel
theorem d_Ring_stepsRound_39 : decode prog_8_method_3_code 39 = .ok (.getfield 19, 3) := by decide +kernel
theorem d_Ring_stepsRound_42 : decode prog_8_method_3_code 42 = .ok (.iload 4, 2) := by decide +kernel
theorem d_Ring_stepsRound_44 : decode prog_8_method_3_code 44 = .ok (.iaload, 1) := by decide +kernel
theorem d_Ring_stepsRound_45 : decode prog_8_method_3_code 45 = .ok (.iload_n 2, 1) := by decide +kernel
theorem d_Ring_stepsRound_46 : decode prog_8_method_3_code 46 = .ok (.invokestatic 39, 3) := by decide +kernel
theorem d_Ring_stepsRound_49 : decode prog_8_method_3_code 49 = .ok (.ifCond .eq 6, 3) := by decide +kernel
theorem d_Ring_stepsRound_52 : decode prog_8_method_3_code 52 = .ok (.iload 4, 2) := by decide +kernel
theorem d_Ring_stepsRound_54 : decode prog_8_method_3_code 54 = .ok (.ireturn, 1) := by decide +kernel
theorem d_Ring_stepsRound_55 : decode prog_8_method_3_code 55 = .ok (.iinc 4 1, 3) := by decide +kernel
theorem d_Ring_stepsRound_58 : decode prog_8_method_3_code 58 = .ok (.goto (-46), 3) := by decide +kernel
theorem d_Ring_stepsRound_61 : decode prog_8_method_3_code 61 = .ok (.iconst 0, 1) := by decide +kernel
theorem d_Ring_stepsRound_62 : decode prog_8_method_3_code 62 = .ok (.ireturn, 1) := by decide +kernel
noncomputable def f_Ring_stepsRound (a1 : Int32) (a2 : Int32) (M : oz_M) : Option (Int32 × oz_M) := (oz_in 0 15).bind fun j1 => (some (oz_s M 5 j1 (1 <<< (a1 &&& 31)))).bind fun M2 => (oz_lp (fun (s3 : Int32 × oz_M) => (if a2 < s3.1 then (some (.inr (.inl (s3.1, s3.2)))) else ((oz_in (s3.1 - 1) 15).bind fun j4 => (f_Arcs_into (s3.2.1 5 j4) s3.2).bind fun v5 => (oz_in s3.1 15).bind fun j6 => (some (oz_s s3.2 5 j6 v5)).bind fun M7 => (oz_in s3.1 15).bind fun j8 => (f_Hall_has (M7.1 5 j8) a1 M7).bind fun v9 => if v9 = 0 then (some (.inl (s3.1 + 1, M7))) else (some (.inr (.inr (s3.1, M7))))) : Option ((Int32 × oz_M) ⊕ ((Int32 × oz_M) ⊕ (Int32 × oz_M))))) (1, M2)).bind (oz_el (fun (y12 : Int32 × oz_M) => some (0, y12.2)) (fun r13 => some (r13)))
set_option maxRecDepth 20000 in
set_option maxHeartbeats 4000000 in
theorem c_Ring_stepsRound {l : Launch} {D : va_G} {cs : Nat → ClassId} {b : Nat} {a1 : Int32} {a2 : Int32} {M : oz_M} {vz : Int32} {Mz : oz_M} (hF : f_Ring_stepsRound a1 a2 M = some (vz, Mz)) : oz_Met l D cs b y_Ring_stepsRound prog_8_method_3_code 5 (some .int) (oz_rm 1) [.ref (b + 3), .ref (b + 1), .int a1, .int a2] M (some (.int vz)) Mz := by
  refine oz_enter (by decide) (Nat.le_of_ble_eq_true rfl) (fun G cx hR e1 hRm e2 e3 e4 hnL => ?_)
  subst e1; subst e2; subst e3; subst e4
  refine (?_ : oz_R G 0 [(0, .ref (oz_b G + 3)), (1, .ref (oz_b G + 1)), (2, .int a1), (3, .int a2)] [] M (f_Ring_stepsRound a1 a2 M) (fun x => x = (vz, Mz))) _ hF rfl
  unfold f_Ring_stepsRound
  refine oz_aload_n (q := 1) cx d_Ring_stepsRound_0 rfl rfl 0 rfl ?_
  refine oz_get (q := 4) cx 3 2 (by decide) (ci := 2) rfl rfl tin_Ring (by decide) rfl rfl tw_55 d_Ring_stepsRound_1 rfl ?_
  refine oz_iconst (q := 5) cx d_Ring_stepsRound_4 rfl (v := 0) rfl ?_
  refine oz_iconst (q := 6) cx d_Ring_stepsRound_5 rfl (v := 1) rfl ?_
  refine oz_iload_n (q := 7) cx d_Ring_stepsRound_6 rfl rfl 2 rfl ?_
  refine oz_ishl (q := 8) cx d_Ring_stepsRound_7 rfl ?_
  refine oz_iast (q := 9) cx 5 15 (by decide) (fun _ => rfl) d_Ring_stepsRound_8 rfl (fun j1 hj1 => ?_)
  refine oz_nm (fun M2 hM2 => ?_)
  refine oz_iconst (q := 10) cx d_Ring_stepsRound_9 rfl (v := 1) rfl ?_
  refine oz_istore (q := 12) cx d_Ring_stepsRound_10 rfl (by rw [hnL]; decide) (lv2 := [(4, .int 1), (0, .ref (oz_b G + 3)), (1, .ref (oz_b G + 1)), (2, .int a1), (3, .int a2)]) rfl ?_
  refine oz_lv [1, 2, 3, 4, 0] rfl ?_
  refine oz_seqE (p2 := 61) (lv2 := fun (y12 : Int32 × oz_M) => []) (M2 := fun y12 => y12.2) (fun x => x = (vz, Mz)) ?_ (fun y12 => ?_) (fun _ _ hx hK => by cases hx; exact hK)
  · refine oz_loop (Y := (Int32 × oz_M) ⊕ (Int32 × oz_M)) 12 (fun (s3 : Int32 × oz_M) => [(0, .ref (oz_b G + 3)), (1, .ref (oz_b G + 1)), (2, .int a1), (3, .int a2), (4, .int s3.1)]) (fun (s3 : Int32 × oz_M) => s3.2) (1, M2) (fun s3 => ?_)
    refine oz_iload (q := 14) cx d_Ring_stepsRound_12 rfl 4 rfl ?_
    refine oz_iload_n (q := 15) cx d_Ring_stepsRound_14 rfl rfl 3 rfl ?_
    refine oz_icmp_gt (q := 18) cx d_Ring_stepsRound_15 rfl rfl (fun h11 => ?_) (fun h11 => ?_)
    · exact oz_lv [] rfl (oz_leaf (fun h => h))
    · refine oz_aload_n (q := 19) cx d_Ring_stepsRound_18 rfl rfl 0 rfl ?_
      refine oz_get (q := 22) cx 3 2 (by decide) (ci := 2) rfl rfl tin_Ring (by decide) rfl rfl tw_55 d_Ring_stepsRound_19 rfl ?_
      refine oz_iload (q := 24) cx d_Ring_stepsRound_22 rfl 4 rfl ?_
      refine oz_aload_n (q := 25) cx d_Ring_stepsRound_24 rfl rfl 1 rfl ?_
      refine oz_aload_n (q := 26) cx d_Ring_stepsRound_25 rfl rfl 0 rfl ?_
      refine oz_get (q := 29) cx 3 2 (by decide) (ci := 2) rfl rfl tin_Ring (by decide) rfl rfl tw_55 d_Ring_stepsRound_26 rfl ?_
      refine oz_iload (q := 31) cx d_Ring_stepsRound_29 rfl 4 rfl ?_
      refine oz_iconst (q := 32) cx d_Ring_stepsRound_31 rfl (v := 1) rfl ?_
      refine oz_isub (q := 33) cx d_Ring_stepsRound_32 rfl ?_
      refine oz_iald (q := 34) cx 5 15 (by decide) rfl d_Ring_stepsRound_33 rfl (fun j4 hj4 => ?_)
      refine oz_cVip (q := 37) cx 1 [.int (s3.2.1 5 j4)] 1 1 hRm (by decide) (by decide) (fun _ h => c_Arcs_into h) ⟨tw_269, tw_270, tw_271, tw_2⟩ tw_272 (by decide +kernel) rfl (by decide) rfl rfl (st := [.int s3.1, .ref (oz_b G + 5)]) rfl (Nat.le_of_ble_eq_true rfl) d_Ring_stepsRound_34 rfl (fun v5 hv5 => ?_)
      refine oz_iast (q := 38) cx 5 15 (by decide) (fun _ => rfl) d_Ring_stepsRound_37 rfl (fun j6 hj6 => ?_)
      refine oz_nm (fun M7 hM7 => ?_)
      refine oz_aload_n (q := 39) cx d_Ring_stepsRound_38 rfl rfl 0 rfl ?_
      refine oz_get (q := 42) cx 3 2 (by decide) (ci := 2) rfl rfl tin_Ring (by decide) rfl rfl tw_55 d_Ring_stepsRound_39 rfl ?_
      refine oz_iload (q := 44) cx d_Ring_stepsRound_42 rfl 4 rfl ?_
      refine oz_iald (q := 45) cx 5 15 (by decide) rfl d_Ring_stepsRound_44 rfl (fun j8 hj8 => ?_)
      refine oz_iload_n (q := 46) cx d_Ring_stepsRound_45 rfl rfl 2 rfl ?_
      refine oz_cSNip (q := 49) cx [.int (M7.1 5 j8), .int a1] 2 hRm (by decide) (by decide) (fun _ h => c_Hall_has h) tn_273 ⟨tw_274, tw_1⟩ tw_275 (by decide +kernel) rfl (st := []) rfl (Nat.le_of_ble_eq_true rfl) d_Ring_stepsRound_46 rfl (fun v9 hv9 => ?_)
      refine oz_if_eq (q := 52) cx d_Ring_stepsRound_49 rfl rfl (fun h10 => ?_) (fun h10 => ?_)
      · refine oz_iinc (q := 58) cx (s3.1 + 1) d_Ring_stepsRound_55 rfl 4 rfl rfl (by rw [hnL]; decide) (lv2 := [(4, .int (s3.1 + 1)), (0, .ref (oz_b G + 3)), (1, .ref (oz_b G + 1)), (2, .int a1), (3, .int a2)]) rfl ?_
        refine oz_goto cx d_Ring_stepsRound_58 rfl ?_
        exact oz_lv [1, 2, 3, 4, 0] rfl (oz_leaf (fun h => h))
      · refine oz_iload (q := 54) cx d_Ring_stepsRound_52 rfl 4 rfl ?_
        exact oz_wrap (oz_iret cx hR d_Ring_stepsRound_54) (fun h => h)
  · refine oz_iconst (q := 62) cx d_Ring_stepsRound_61 rfl (v := 0) rfl ?_
    exact oz_iret cx hR d_Ring_stepsRound_62
def y_Model_begin : MethodName := ⟨"OrderHallModel", "begin", "(I)V"⟩
theorem d_Model_begin_0 : decode prog_10_method_5_code 0 = .ok (.aload_n 0, 1) := by decide +kernel
theorem d_Model_begin_1 : decode prog_10_method_5_code 1 = .ok (.iload_n 1, 1) := by decide +kernel
theorem d_Model_begin_2 : decode prog_10_method_5_code 2 = .ok (.iconst 1, 1) := by decide +kernel
theorem d_Model_begin_3 : decode prog_10_method_5_code 3 = .ok (.if_icmp .lt 13, 3) := by decide +kernel
theorem d_Model_begin_6 : decode prog_10_method_5_code 6 = .ok (.iload_n 1, 1) := by decide +kernel
theorem d_Model_begin_7 : decode prog_10_method_5_code 7 = .ok (.bipush 14, 2) := by decide +kernel
theorem d_Model_begin_9 : decode prog_10_method_5_code 9 = .ok (.if_icmp .gt 7, 3) := by decide +kernel
theorem d_Model_begin_12 : decode prog_10_method_5_code 12 = .ok (.iconst 0, 1) := by decide +kernel
theorem d_Model_begin_13 : decode prog_10_method_5_code 13 = .ok (.goto 4, 3) := by decide +kernel
theorem d_Model_begin_16 : decode prog_10_method_5_code 16 = .ok (.iconst 1, 1) := by decide +kernel
theorem d_Model_begin_17 : decode prog_10_method_5_code 17 = .ok (.putfield 50, 3) := by decide +kernel
theorem d_Model_begin_20 : decode prog_10_method_5_code 20 = .ok (.aload_n 0, 1) := by decide +kernel
theorem d_Model_begin_21 : decode prog_10_method_5_code 21 = .ok (.getfield 50, 3) := by decide +kernel
theorem d_Model_begin_24 : decode prog_10_method_5_code 24 = .ok (.ifCond .le 4, 3) := by decide +kernel
theorem d_Model_begin_27 : decode prog_10_method_5_code 27 = .ok (.return_, 1) := by decide +kernel
theorem d_Model_begin_28 : decode prog_10_method_5_code 28 = .ok (.aload_n 0, 1) := by decide +kernel
theorem d_Model_begin_29 : decode prog_10_method_5_code 29 = .ok (.iload_n 1, 1) := by decide +kernel
theorem d_Model_begin_30 : decode prog_10_method_5_code 30 = .ok (.putfield 7, 3) := by decide +kernel
theorem d_Model_begin_33 : decode prog_10_method_5_code 33 = .ok (.iconst 0, 1) := by decide +kernel
theorem d_Model_begin_34 : decode prog_10_method_5_code 34 = .ok (.istore_n 2, 1) := by decide +kernel
theorem d_Model_begin_35 : decode prog_10_method_5_code 35 = .ok (.iload_n 2, 1) := by decide +kernel
theorem d_Model_begin_36 : decode prog_10_method_5_code 36 = .ok (.sipush 196, 3) := by decide +kernel
theorem d_Model_begin_39 : decode prog_10_method_5_code 39 = .ok (.if_icmp .ge 16, 3) := by decide +kernel
theorem d_Model_begin_42 : decode prog_10_method_5_code 42 = .ok (.aload_n 0, 1) := by decide +kernel
theorem d_Model_begin_43 : decode prog_10_method_5_code 43 = .ok (.getfield 13, 3) := by decide +kernel
theorem d_Model_begin_46 : decode prog_10_method_5_code 46 = .ok (.iload_n 2, 1) := by decide +kernel
theorem d_Model_begin_47 : decode prog_10_method_5_code 47 = .ok (.iconst 0, 1) := by decide +kernel
theorem d_Model_begin_48 : decode prog_10_method_5_code 48 = .ok (.bastore, 1) := by decide +kernel
theorem d_Model_begin_49 : decode prog_10_method_5_code 49 = .ok (.iinc 2 1, 3) := by decide +kernel
theorem d_Model_begin_52 : decode prog_10_method_5_code 52 = .ok (.goto (-17), 3) := by decide +kernel
theorem d_Model_begin_55 : decode prog_10_method_5_code 55 = .ok (.aload_n 0, 1) := by decide +kernel
theorem d_Model_begin_56 : decode prog_10_method_5_code 56 = .ok (.invokevirtual 66, 3) := by decide +kernel
theorem d_Model_begin_59 : decode prog_10_method_5_code 59 = .ok (.return_, 1) := by decide +kernel
noncomputable def f_Model_begin (a0 : Int32) (M : oz_M) : Option (Unit × oz_M) := (if a0 < 1 then (some 1) else (if 14 < a0 then (some 1) else (some 0))).bind fun (z1 : Int32) => (some (oz_s M 62 0 z1)).bind fun M4 => if 0 < (M4.1 62 0) then (some ((), M4)) else ((some (oz_s M4 62 1 a0)).bind fun M5 => (oz_lp (fun (s6 : Int32 × oz_M) => (if s6.1 < 196 then ((oz_in s6.1 196).bind fun j7 => (some (oz_s s6.2 63 j7 (vp_nar .boolean 0))).bind fun M8 => some (.inl (s6.1 + 1, M8))) else (some (.inr (s6.1, s6.2))) : Option ((Int32 × oz_M) ⊕ (Int32 × oz_M)))) (0, M5)).bind fun (y10 : Int32 × oz_M) => oz_b2 (f_Model_change y10.2) fun v11 M12 => some ((), M12))
set_option maxRecDepth 20000 in
set_option maxHeartbeats 4000000 in
theorem c_Model_begin {l : Launch} {D : va_G} {cs : Nat → ClassId} {b : Nat} {a0 : Int32} {M : oz_M} {vz : Unit} {Mz : oz_M} (hF : f_Model_begin a0 M = some (vz, Mz)) : oz_Met l D cs b y_Model_begin prog_10_method_5_code 3 none (oz_rm 1) [.ref (b + 62), .int a0] M (none) Mz := by
  refine oz_enter (by decide) (Nat.le_of_ble_eq_true rfl) (fun G cx hR e1 hRm e2 e3 e4 hnL => ?_)
  subst e1; subst e2; subst e3; subst e4
  refine (?_ : oz_R G 0 [(0, .ref (oz_b G + 62)), (1, .int a0)] [] M (f_Model_begin a0 M) (fun x => x = (vz, Mz))) _ hF rfl
  unfold f_Model_begin
  refine oz_aload_n (q := 1) cx d_Model_begin_0 rfl rfl 0 rfl ?_
  refine oz_iload_n (q := 2) cx d_Model_begin_1 rfl rfl 1 rfl ?_
  refine oz_iconst (q := 3) cx d_Model_begin_2 rfl (v := 1) rfl ?_
  refine oz_seq (p2 := 17) (lv2 := fun (z1 : Int32) => [(0, .ref (oz_b G + 62)), (1, .int a0)]) (st2 := fun z1 => [.int z1, .ref (oz_b G + 62)]) (M2 := fun z1 => M) ?_ (fun z1 => ?_)
  · refine oz_icmp_lt (q := 6) cx d_Model_begin_3 rfl rfl (fun h3 => ?_) (fun h3 => ?_)
    · refine oz_iconst (q := 17) cx d_Model_begin_16 rfl (v := 1) rfl ?_
      exact oz_lv [0, 1] rfl (oz_leaf (fun h => h))
    · refine oz_iload_n (q := 7) cx d_Model_begin_6 rfl rfl 1 rfl ?_
      refine oz_bipush (q := 9) cx d_Model_begin_7 rfl (v := 14) rfl ?_
      refine oz_icmp_gt (q := 12) cx d_Model_begin_9 rfl rfl (fun h2 => ?_) (fun h2 => ?_)
      · refine oz_iconst (q := 17) cx d_Model_begin_16 rfl (v := 1) rfl ?_
        exact oz_lv [0, 1] rfl (oz_leaf (fun h => h))
      · refine oz_iconst (q := 13) cx d_Model_begin_12 rfl (v := 0) rfl ?_
        refine oz_goto cx d_Model_begin_13 rfl ?_
        exact oz_lv [0, 1] rfl (oz_leaf (fun h => h))
  · refine oz_put (q := 20) cx 62 0 (by decide) (ci := 8) rfl rfl rfl tin_Model t_Model t_Model_ok n_Model (by decide) (Nat.le_of_ble_eq_true rfl) rfl tw_786 rfl rfl rfl d_Model_begin_17 rfl ?_
    refine oz_nm (fun M4 hM4 => ?_)
    refine oz_aload_n (q := 21) cx d_Model_begin_20 rfl rfl 0 rfl ?_
    refine oz_get (q := 24) cx 62 0 (by decide) (ci := 8) rfl rfl tin_Model (by decide) rfl rfl tw_786 d_Model_begin_21 rfl ?_
    refine oz_if_le (q := 27) cx d_Model_begin_24 rfl rfl (fun h13 => ?_) (fun h13 => ?_)
    · refine oz_aload_n (q := 29) cx d_Model_begin_28 rfl rfl 0 rfl ?_
      refine oz_iload_n (q := 30) cx d_Model_begin_29 rfl rfl 1 rfl ?_
      refine oz_put (q := 33) cx 62 1 (by decide) (ci := 8) rfl rfl rfl tin_Model t_Model t_Model_ok n_Model (by decide) (Nat.le_of_ble_eq_true rfl) rfl tw_787 rfl rfl rfl d_Model_begin_30 rfl ?_
      refine oz_nm (fun M5 hM5 => ?_)
      refine oz_iconst (q := 34) cx d_Model_begin_33 rfl (v := 0) rfl ?_
      refine oz_istore_n (q := 35) cx d_Model_begin_34 rfl rfl (by rw [hnL]; decide) (lv2 := [(2, .int 0), (0, .ref (oz_b G + 62)), (1, .int a0)]) rfl ?_
      refine oz_lv [1, 0] rfl ?_
      refine oz_seq (p2 := 55) (lv2 := fun (y10 : Int32 × oz_M) => [(0, .ref (oz_b G + 62))]) (st2 := fun y10 => []) (M2 := fun y10 => y10.2) ?_ (fun y10 => ?_)
      · refine oz_loop (Y := Int32 × oz_M) 35 (fun (s6 : Int32 × oz_M) => [(0, .ref (oz_b G + 62)), (2, .int s6.1)]) (fun (s6 : Int32 × oz_M) => s6.2) (0, M5) (fun s6 => ?_)
        refine oz_iload_n (q := 36) cx d_Model_begin_35 rfl rfl 1 rfl ?_
        refine oz_sipush (q := 39) cx d_Model_begin_36 rfl (v := 196) rfl ?_
        refine oz_icmp_ge (q := 42) cx d_Model_begin_39 rfl rfl (fun h9 => ?_) (fun h9 => ?_)
        · exact oz_lv [0] rfl (oz_leaf (fun h => h))
        · refine oz_aload_n (q := 43) cx d_Model_begin_42 rfl rfl 0 rfl ?_
          refine oz_get (q := 46) cx 62 3 (by decide) (ci := 8) rfl rfl tin_Model (by decide) rfl rfl tw_789 d_Model_begin_43 rfl ?_
          refine oz_iload_n (q := 47) cx d_Model_begin_46 rfl rfl 1 rfl ?_
          refine oz_iconst (q := 48) cx d_Model_begin_47 rfl (v := 0) rfl ?_
          refine oz_zast (q := 49) cx 63 196 (by decide) (fun _ => rfl) d_Model_begin_48 rfl (fun j7 hj7 => ?_)
          refine oz_nm (fun M8 hM8 => ?_)
          refine oz_iinc (q := 52) cx (s6.1 + 1) d_Model_begin_49 rfl 1 rfl rfl (by rw [hnL]; decide) (lv2 := [(2, .int (s6.1 + 1)), (0, .ref (oz_b G + 62))]) rfl ?_
          refine oz_goto cx d_Model_begin_52 rfl ?_
          exact oz_lv [1, 0] rfl (oz_leaf (fun h => h))
      · refine oz_aload_n (q := 56) cx d_Model_begin_55 rfl rfl 0 rfl ?_
        refine oz_cVv (q := 59) cx 62 [] 0 8 hRm (by decide) (by decide) (fun _ _ h => c_Model_change h) ⟨tw_847, tw_849, ts_30, tw_9⟩ tw_850 (by decide +kernel) rfl (by decide) rfl rfl (st := []) rfl (Nat.le_of_ble_eq_true rfl) d_Model_begin_56 rfl (fun v11 M12 hv11 => ?_)
        exact oz_vret cx hR d_Model_begin_59
    · exact oz_vret cx hR d_Model_begin_27
def y_Model_compare : MethodName := ⟨"OrderHallModel", "compare", "(II)I"⟩
theorem d_Model_compare_0 : decode prog_10_method_17_code 0 = .ok (.aload_n 0, 1) := by decide +kernel
theorem d_Model_compare_1 : decode prog_10_method_17_code 1 = .ok (.aload_n 0, 1) := by decide +kernel
theorem d_Model_compare_2 : decode prog_10_method_17_code 2 = .ok (.getfield 53, 3) := by decide +kernel
theorem d_Model_compare_5 : decode prog_10_method_17_code 5 = .ok (.ifCond .ne 7, 3) := by decide +kernel
theorem d_Model_compare_8 : decode prog_10_method_17_code 8 = .ok (.iconst 1, 1) := by decide +kernel
theorem d_Model_compare_9 : decode prog_10_method_17_code 9 = .ok (.goto 24, 3) := by decide +kernel
theorem d_Model_compare_12 : decode prog_10_method_17_code 12 = .ok (.aload_n 0, 1) := by decide +kernel
theorem d_Model_compare_13 : decode prog_10_method_17_code 13 = .ok (.iload_n 1, 1) := by decide +kernel
theorem d_Model_compare_14 : decode prog_10_method_17_code 14 = .ok (.invokevirtual 69, 3) := by decide +kernel
theorem d_Model_compare_17 : decode prog_10_method_17_code 17 = .ok (.ifCond .eq 11, 3) := by decide +kernel
theorem d_Model_compare_20 : decode prog_10_method_17_code 20 = .ok (.aload_n 0, 1) := by decide +kernel
theorem d_Model_compare_21 : decode prog_10_method_17_code 21 = .ok (.iload_n 2, 1) := by decide +kernel
theorem d_Model_compare_22 : decode prog_10_method_17_code 22 = .ok (.invokevirtual 69, 3) := by decide +kernel
theorem d_Model_compare_25 : decode prog_10_method_17_code 25 = .ok (.ifCond .ne 7, 3) := by decide +kernel
theorem d_Model_compare_28 : decode prog_10_method_17_code 28 = .ok (.iconst 2, 1) := by decide +kernel
theorem d_Model_compare_29 : decode prog_10_method_17_code 29 = .ok (.goto 4, 3) := by decide +kernel
theorem d_Model_compare_32 : decode prog_10_method_17_code 32 = .ok (.iconst 0, 1) := by decide +kernel
theorem d_Model_compare_33 : decode prog_10_method_17_code 33 = .ok (.putfield 50, 3) := by decide +kernel
theorem d_Model_compare_36 : decode prog_10_method_17_code 36 = .ok (.aload_n 0, 1) := by decide +kernel
theorem d_Model_compare_37 : decode prog_10_method_17_code 37 = .ok (.getfield 50, 3) := by decide +kernel
theorem d_Model_compare_40 : decode prog_10_method_17_code 40 = .ok (.ifCond .gt 8, 3) := by decide +kernel
theorem d_Model_compare_43 : decode prog_10_method_17_code 43 = .ok (.iload_n 1, 1) := by decide +kernel
theorem d_Model_compare_44 : decode prog_10_method_17_code 44 = .ok (.iload_n 2, 1) := by decide +kernel
theorem d_Model_compare_45 : decode prog_10_method_17_code 45 = .ok (.if_icmp .ne 7, 3) := by decide +kernel
theorem d_Model_compare_48 : decode prog_10_method_17_code 48 = .ok (.iconst 0, 1) := by decide +kernel
theorem d_Model_compare_49 : decode prog_10_method_17_code 49 = .ok (.goto 30, 3) := by decide +kernel
theorem d_Model_compare_52 : decode prog_10_method_17_code 52 = .ok (.aload_n 0, 1) := by decide +kernel
theorem d_Model_compare_53 : decode prog_10_method_17_code 53 = .ok (.iload_n 1, 1) := by decide +kernel
theorem d_Model_compare_54 : decode prog_10_method_17_code 54 = .ok (.iload_n 2, 1) := by decide +kernel
theorem d_Model_compare_55 : decode prog_10_method_17_code 55 = .ok (.invokevirtual 77, 3) := by decide +kernel
theorem d_Model_compare_58 : decode prog_10_method_17_code 58 = .ok (.ifCond .eq 7, 3) := by decide +kernel
theorem d_Model_compare_61 : decode prog_10_method_17_code 61 = .ok (.iconst (-1), 1) := by decide +kernel
theorem d_Model_compare_62 : decode prog_10_method_17_code 62 = .ok (.goto 17, 3) := by decide +kernel
theorem d_Model_compare_65 : decode prog_10_method_17_code 65 = .ok (.aload_n 0, 1) := by decide +kernel
theorem d_Model_compare_66 : decode prog_10_method_17_code 66 = .ok (.iload_n 2, 1) := by decide +kernel
theorem d_Model_compare_67 : decode prog_10_method_17_code 67 = .ok (.iload_n 1, 1) := by decide +kernel
theorem d_Model_compare_68 : decode prog_10_method_17_code 68 = .ok (.invokevirtual 77, 3) := by decide +kernel
theorem d_Model_compare_71 : decode prog_10_method_17_code 71 = .ok (.ifCond .eq 7, 3) := by decide +kernel
theorem d_Model_compare_74 : decode prog_10_method_17_code 74 = .ok (.iconst 1, 1) := by decide +kernel
theorem d_Model_compare_75 : decode prog_10_method_17_code 75 = .ok (.goto 4, 3) := by decide +kernel
theorem d_Model_compare_78 : decode prog_10_method_17_code 78 = .ok (.iconst 2, 1) := by decide +kernel
theorem d_Model_compare_79 : decode prog_10_method_17_code 79 = .ok (.ireturn, 1) := by decide +kernel
def f_Model_compare (a0 : Int32) (a1 : Int32) (M : oz_M) : Option (Int32 × oz_M) := (if (M.1 62 2) = 0 then (some 1) else ((f_Model_isElement a0 M).bind fun v2 => if v2 = 0 then (some 2) else ((f_Model_isElement a1 M).bind fun v3 => if v3 = 0 then (some 2) else (some 0)))).bind fun (z1 : Int32) => (some (oz_s M 62 0 z1)).bind fun M7 => if 0 < (M7.1 62 0) then (some (0, M7)) else (if a0 = a1 then (some (0, M7)) else ((f_Model_isLess a0 a1 M7).bind fun v8 => if v8 = 0 then ((f_Model_isLess a1 a0 M7).bind fun v9 => if v9 = 0 then (some (2, M7)) else (some (1, M7))) else (some ((-1), M7))))
set_option maxRecDepth 20000 in
set_option maxHeartbeats 4000000 in
theorem c_Model_compare {l : Launch} {D : va_G} {cs : Nat → ClassId} {b : Nat} {a0 : Int32} {a1 : Int32} {M : oz_M} {vz : Int32} {Mz : oz_M} (hF : f_Model_compare a0 a1 M = some (vz, Mz)) : oz_Met l D cs b y_Model_compare prog_10_method_17_code 3 (some .int) (oz_rm 1) [.ref (b + 62), .int a0, .int a1] M (some (.int vz)) Mz := by
  refine oz_enter (by decide) (Nat.le_of_ble_eq_true rfl) (fun G cx hR e1 hRm e2 e3 e4 hnL => ?_)
  subst e1; subst e2; subst e3; subst e4
  refine (?_ : oz_R G 0 [(0, .ref (oz_b G + 62)), (1, .int a0), (2, .int a1)] [] M (f_Model_compare a0 a1 M) (fun x => x = (vz, Mz))) _ hF rfl
  unfold f_Model_compare
  refine oz_aload_n (q := 1) cx d_Model_compare_0 rfl rfl 0 rfl ?_
  refine oz_aload_n (q := 2) cx d_Model_compare_1 rfl rfl 0 rfl ?_
  refine oz_get (q := 5) cx 62 2 (by decide) (ci := 8) rfl rfl tin_Model (by decide) rfl rfl tw_788 d_Model_compare_2 rfl ?_
  refine oz_seq (p2 := 33) (lv2 := fun (z1 : Int32) => [(0, .ref (oz_b G + 62)), (1, .int a0), (2, .int a1)]) (st2 := fun z1 => [.int z1, .ref (oz_b G + 62)]) (M2 := fun z1 => M) ?_ (fun z1 => ?_)
  · refine oz_if_ne (q := 8) cx d_Model_compare_5 rfl rfl (fun h6 => ?_) (fun h6 => ?_)
    · refine oz_aload_n (q := 13) cx d_Model_compare_12 rfl rfl 0 rfl ?_
      refine oz_iload_n (q := 14) cx d_Model_compare_13 rfl rfl 1 rfl ?_
      refine oz_cVip (q := 17) cx 62 [.int a0] 1 8 hRm (by decide) (by decide) (fun _ h => c_Model_isElement h) ⟨tw_859, tw_861, ts_32, tw_9⟩ tw_862 (by decide +kernel) rfl (by decide) rfl rfl (st := [.ref (oz_b G + 62)]) rfl (Nat.le_of_ble_eq_true rfl) d_Model_compare_14 rfl (fun v2 hv2 => ?_)
      refine oz_if_eq (q := 20) cx d_Model_compare_17 rfl rfl (fun h5 => ?_) (fun h5 => ?_)
      · refine oz_iconst (q := 29) cx d_Model_compare_28 rfl (v := 2) rfl ?_
        refine oz_goto cx d_Model_compare_29 rfl ?_
        exact oz_lv [0, 1, 2] rfl (oz_leaf (fun h => h))
      · refine oz_aload_n (q := 21) cx d_Model_compare_20 rfl rfl 0 rfl ?_
        refine oz_iload_n (q := 22) cx d_Model_compare_21 rfl rfl 2 rfl ?_
        refine oz_cVip (q := 25) cx 62 [.int a1] 1 8 hRm (by decide) (by decide) (fun _ h => c_Model_isElement h) ⟨tw_859, tw_861, ts_32, tw_9⟩ tw_862 (by decide +kernel) rfl (by decide) rfl rfl (st := [.ref (oz_b G + 62)]) rfl (Nat.le_of_ble_eq_true rfl) d_Model_compare_22 rfl (fun v3 hv3 => ?_)
        refine oz_if_ne (q := 28) cx d_Model_compare_25 rfl rfl (fun h4 => ?_) (fun h4 => ?_)
        · refine oz_iconst (q := 33) cx d_Model_compare_32 rfl (v := 0) rfl ?_
          exact oz_lv [0, 1, 2] rfl (oz_leaf (fun h => h))
        · refine oz_iconst (q := 29) cx d_Model_compare_28 rfl (v := 2) rfl ?_
          refine oz_goto cx d_Model_compare_29 rfl ?_
          exact oz_lv [0, 1, 2] rfl (oz_leaf (fun h => h))
    · refine oz_iconst (q := 9) cx d_Model_compare_8 rfl (v := 1) rfl ?_
      refine oz_goto cx d_Model_compare_9 rfl ?_
      exact oz_lv [0, 1, 2] rfl (oz_leaf (fun h => h))
  · refine oz_put (q := 36) cx 62 0 (by decide) (ci := 8) rfl rfl rfl tin_Model t_Model t_Model_ok n_Model (by decide) (Nat.le_of_ble_eq_true rfl) rfl tw_786 rfl rfl rfl d_Model_compare_33 rfl ?_
    refine oz_nm (fun M7 hM7 => ?_)
    refine oz_aload_n (q := 37) cx d_Model_compare_36 rfl rfl 0 rfl ?_
    refine oz_get (q := 40) cx 62 0 (by decide) (ci := 8) rfl rfl tin_Model (by decide) rfl rfl tw_786 d_Model_compare_37 rfl ?_
    refine oz_if_gt (q := 43) cx d_Model_compare_40 rfl rfl (fun h13 => ?_) (fun h13 => ?_)
    · refine oz_iconst (q := 49) cx d_Model_compare_48 rfl (v := 0) rfl ?_
      refine oz_goto cx d_Model_compare_49 rfl ?_
      exact oz_iret cx hR d_Model_compare_79
    · refine oz_iload_n (q := 44) cx d_Model_compare_43 rfl rfl 1 rfl ?_
      refine oz_iload_n (q := 45) cx d_Model_compare_44 rfl rfl 2 rfl ?_
      refine oz_icmp_ne (q := 48) cx d_Model_compare_45 rfl rfl (fun h12 => ?_) (fun h12 => ?_)
      · refine oz_aload_n (q := 53) cx d_Model_compare_52 rfl rfl 0 rfl ?_
        refine oz_iload_n (q := 54) cx d_Model_compare_53 rfl rfl 1 rfl ?_
        refine oz_iload_n (q := 55) cx d_Model_compare_54 rfl rfl 2 rfl ?_
        refine oz_cVip (q := 58) cx 62 [.int a0, .int a1] 2 8 hRm (by decide) (by decide) (fun _ h => c_Model_isLess h) ⟨tw_871, tw_873, ts_33, tw_9⟩ tw_874 (by decide +kernel) rfl (by decide) rfl rfl (st := []) rfl (Nat.le_of_ble_eq_true rfl) d_Model_compare_55 rfl (fun v8 hv8 => ?_)
        refine oz_if_eq (q := 61) cx d_Model_compare_58 rfl rfl (fun h11 => ?_) (fun h11 => ?_)
        · refine oz_aload_n (q := 66) cx d_Model_compare_65 rfl rfl 0 rfl ?_
          refine oz_iload_n (q := 67) cx d_Model_compare_66 rfl rfl 2 rfl ?_
          refine oz_iload_n (q := 68) cx d_Model_compare_67 rfl rfl 1 rfl ?_
          refine oz_cVip (q := 71) cx 62 [.int a1, .int a0] 2 8 hRm (by decide) (by decide) (fun _ h => c_Model_isLess h) ⟨tw_871, tw_873, ts_33, tw_9⟩ tw_874 (by decide +kernel) rfl (by decide) rfl rfl (st := []) rfl (Nat.le_of_ble_eq_true rfl) d_Model_compare_68 rfl (fun v9 hv9 => ?_)
          refine oz_if_eq (q := 74) cx d_Model_compare_71 rfl rfl (fun h10 => ?_) (fun h10 => ?_)
          · refine oz_iconst (q := 79) cx d_Model_compare_78 rfl (v := 2) rfl ?_
            exact oz_iret cx hR d_Model_compare_79
          · refine oz_iconst (q := 75) cx d_Model_compare_74 rfl (v := 1) rfl ?_
            refine oz_goto cx d_Model_compare_75 rfl ?_
            exact oz_iret cx hR d_Model_compare_79
        · refine oz_iconst (q := 62) cx d_Model_compare_61 rfl (v := (-1)) rfl ?_
          refine oz_goto cx d_Model_compare_62 rfl ?_
          exact oz_iret cx hR d_Model_compare_79
      · refine oz_iconst (q := 49) cx d_Model_compare_48 rfl (v := 0) rfl ?_
        refine oz_goto cx d_Model_compare_49 rfl ?_
        exact oz_iret cx hR d_Model_compare_79
def y_Model_covers : MethodName := ⟨"OrderHallModel", "covers", "(II)Z"⟩
theorem d_Model_covers_0 : decode prog_10_method_18_code 0 = .ok (.aload_n 0, 1) := by decide +kernel
theorem d_Model_covers_1 : decode prog_10_method_18_code 1 = .ok (.iload_n 2, 1) := by decide +kernel
theorem d_Model_covers_2 : decode prog_10_method_18_code 2 = .ok (.iload_n 1, 1) := by decide +kernel
theorem d_Model_covers_3 : decode prog_10_method_18_code 3 = .ok (.invokevirtual 77, 3) := by decide +kernel
theorem d_Model_covers_6 : decode prog_10_method_18_code 6 = .ok (.istore_n 3, 1) := by decide +kernel
theorem d_Model_covers_7 : decode prog_10_method_18_code 7 = .ok (.iconst 0, 1) := by decide +kernel
theorem d_Model_covers_8 : decode prog_10_method_18_code 8 = .ok (.istore 4, 2) := by decide +kernel
theorem d_Model_covers_10 : decode prog_10_method_18_code 10 = .ok (.iload 4, 2) := by decide +kernel
theorem d_Model_covers_12 : decode prog_10_method_18_code 12 = .ok (.aload_n 0, 1) := by decide +kernel
theorem d_Model_covers_13 : decode prog_10_method_18_code 13 = .ok (.getfield 7, 3) := by decide +kernel
theorem d_Model_covers_16 : decode prog_10_method_18_code 16 = .ok (.if_icmp .ge 39, 3) := by decide +kernel
theorem d_Model_covers_19 : decode prog_10_method_18_code 19 = .ok (.iload_n 3, 1) := by decide +kernel
theorem d_Model_covers_20 : decode prog_10_method_18_code 20 = .ok (.ifCond .eq 27, 3) := by decide +kernel
theorem d_Model_covers_23 : decode prog_10_method_18_code 23 = .ok (.aload_n 0, 1) := by decide +kernel
theorem d_Model_covers_24 : decode prog_10_method_18_code 24 = .ok (.iload_n 2, 1) := by decide +kernel
theorem d_Model_covers_25 : decode prog_10_method_18_code 25 = .ok (.iload 4, 2) := by decide +kernel
theorem d_Model_covers_27 : decode prog_10_method_18_code 27 = .ok (.invokevirtual 77, 3) := by decide +kernel
theorem d_Model_covers_30 : decode prog_10_method_18_code 30 = .ok (.ifCond .eq 13, 3) := by decide +kernel
theorem d_Model_covers_33 : decode prog_10_method_18_code 33 = .ok (.aload_n 0, 1) := by decide +kernel
theorem d_Model_covers_34 : decode prog_10_method_18_code 34 = .ok (.iload 4, 2) := by decide +kernel
theorem d_Model_covers_36 : decode prog_10_method_18_code 36 = .ok (.iload_n 1, 1) := by decide +kernel
theorem d_Model_covers_37 : decode prog_10_method_18_code 37 = .ok (.invokevirtual 77, 3) := by decide +kernel
theorem d_Model_covers_40 : decode prog_10_method_18_code 40 = .ok (.ifCond .ne 7, 3) := by decide +kernel
theorem d_Model_covers_43 : decode prog_10_method_18_code 43 = .ok (.iconst 1, 1) := by decide +kernel
theorem d_Model_covers_44 : decode prog_10_method_18_code 44 = .ok (.goto 4, 3) := by decide +kernel
theorem d_Model_covers_47 : decode prog_10_method_18_code 47 = .ok (.iconst 0, 1) := by decide +kernel
theorem d_Model_covers_48 : decode prog_10_method_18_code 48 = .ok (.istore_n 3, 1) := by decide +kernel
theorem d_Model_covers_49 : decode prog_10_method_18_code 49 = .ok (.iinc 4 1, 3) := by decide +kernel
theorem d_Model_covers_52 : decode prog_10_method_18_code 52 = .ok (.goto (-42), 3) := by decide +kernel
theorem d_Model_covers_55 : decode prog_10_method_18_code 55 = .ok (.iload_n 3, 1) := by decide +kernel
theorem d_Model_covers_56 : decode prog_10_method_18_code 56 = .ok (.ireturn, 1) := by decide +kernel
noncomputable def f_Model_covers (a0 : Int32) (a1 : Int32) (M : oz_M) : Option (Int32) := (f_Model_isLess a1 a0 M).bind fun v1 => (oz_lp (fun (s2 : Int32 × Int32) => (if s2.2 < (M.1 62 1) then (if s2.1 = 0 then (some (.inl (0, s2.2 + 1))) else ((f_Model_isLess a1 s2.2 M).bind fun v3 => if v3 = 0 then (some (.inl (1, s2.2 + 1))) else ((f_Model_isLess s2.2 a0 M).bind fun v4 => if v4 = 0 then (some (.inl (1, s2.2 + 1))) else (some (.inl (0, s2.2 + 1)))))) else (some (.inr (s2.1, s2.2))) : Option ((Int32 × Int32) ⊕ (Int32 × Int32)))) (v1, 0)).bind fun (y9 : Int32 × Int32) => oz_z y9.1
set_option maxRecDepth 20000 in
set_option maxHeartbeats 4000000 in
theorem c_Model_covers {l : Launch} {D : va_G} {cs : Nat → ClassId} {b : Nat} {a0 : Int32} {a1 : Int32} {M : oz_M} {vz : Int32} (hF : f_Model_covers a0 a1 M = some vz) : oz_Met l D cs b y_Model_covers prog_10_method_18_code 5 (some .boolean) (oz_rm 1) [.ref (b + 62), .int a0, .int a1] M (some (.int vz)) M := by
  refine oz_enter (by decide) (Nat.le_of_ble_eq_true rfl) (fun G cx hR e1 hRm e2 e3 e4 hnL => ?_)
  subst e1; subst e2; subst e3; subst e4
  refine (?_ : oz_R G 0 [(0, .ref (oz_b G + 62)), (1, .int a0), (2, .int a1)] [] M (f_Model_covers a0 a1 M) (fun x => x = vz)) _ hF rfl
  unfold f_Model_covers
  refine oz_aload_n (q := 1) cx d_Model_covers_0 rfl rfl 0 rfl ?_
  refine oz_iload_n (q := 2) cx d_Model_covers_1 rfl rfl 2 rfl ?_
  refine oz_iload_n (q := 3) cx d_Model_covers_2 rfl rfl 1 rfl ?_
  refine oz_cVip (q := 6) cx 62 [.int a1, .int a0] 2 8 hRm (by decide) (by decide) (fun _ h => c_Model_isLess h) ⟨tw_871, tw_873, ts_33, tw_9⟩ tw_874 (by decide +kernel) rfl (by decide) rfl rfl (st := []) rfl (Nat.le_of_ble_eq_true rfl) d_Model_covers_3 rfl (fun v1 hv1 => ?_)
  refine oz_istore_n (q := 7) cx d_Model_covers_6 rfl rfl (by rw [hnL]; decide) (lv2 := [(3, .int v1), (0, .ref (oz_b G + 62)), (1, .int a0), (2, .int a1)]) rfl ?_
  refine oz_iconst (q := 8) cx d_Model_covers_7 rfl (v := 0) rfl ?_
  refine oz_istore (q := 10) cx d_Model_covers_8 rfl (by rw [hnL]; decide) (lv2 := [(4, .int 0), (3, .int v1), (0, .ref (oz_b G + 62)), (1, .int a0), (2, .int a1)]) rfl ?_
  refine oz_lv [2, 3, 4, 1, 0] rfl ?_
  refine oz_seq (p2 := 55) (lv2 := fun (y9 : Int32 × Int32) => [(3, .int y9.1)]) (st2 := fun y9 => []) (M2 := fun y9 => M) ?_ (fun y9 => ?_)
  · refine oz_loop (Y := Int32 × Int32) 10 (fun (s2 : Int32 × Int32) => [(0, .ref (oz_b G + 62)), (1, .int a0), (2, .int a1), (3, .int s2.1), (4, .int s2.2)]) (fun (s2 : Int32 × Int32) => M) (v1, 0) (fun s2 => ?_)
    refine oz_iload (q := 12) cx d_Model_covers_10 rfl 4 rfl ?_
    refine oz_aload_n (q := 13) cx d_Model_covers_12 rfl rfl 0 rfl ?_
    refine oz_get (q := 16) cx 62 1 (by decide) (ci := 8) rfl rfl tin_Model (by decide) rfl rfl tw_787 d_Model_covers_13 rfl ?_
    refine oz_icmp_ge (q := 19) cx d_Model_covers_16 rfl rfl (fun h8 => ?_) (fun h8 => ?_)
    · exact oz_lv [3] rfl (oz_leaf (fun h => h))
    · refine oz_iload_n (q := 20) cx d_Model_covers_19 rfl rfl 3 rfl ?_
      refine oz_if_eq (q := 23) cx d_Model_covers_20 rfl rfl (fun h7 => ?_) (fun h7 => ?_)
      · refine oz_iconst (q := 48) cx d_Model_covers_47 rfl (v := 0) rfl ?_
        refine oz_istore_n (q := 49) cx d_Model_covers_48 rfl rfl (by rw [hnL]; decide) (lv2 := [(3, .int 0), (0, .ref (oz_b G + 62)), (1, .int a0), (2, .int a1), (4, .int s2.2)]) rfl ?_
        refine oz_iinc (q := 52) cx (s2.2 + 1) d_Model_covers_49 rfl 4 rfl rfl (by rw [hnL]; decide) (lv2 := [(4, .int (s2.2 + 1)), (3, .int 0), (0, .ref (oz_b G + 62)), (1, .int a0), (2, .int a1)]) rfl ?_
        refine oz_goto cx d_Model_covers_52 rfl ?_
        exact oz_lv [2, 3, 4, 1, 0] rfl (oz_leaf (fun h => h))
      · refine oz_aload_n (q := 24) cx d_Model_covers_23 rfl rfl 0 rfl ?_
        refine oz_iload_n (q := 25) cx d_Model_covers_24 rfl rfl 2 rfl ?_
        refine oz_iload (q := 27) cx d_Model_covers_25 rfl 4 rfl ?_
        refine oz_cVip (q := 30) cx 62 [.int a1, .int s2.2] 2 8 hRm (by decide) (by decide) (fun _ h => c_Model_isLess h) ⟨tw_871, tw_873, ts_33, tw_9⟩ tw_874 (by decide +kernel) rfl (by decide) rfl rfl (st := []) rfl (Nat.le_of_ble_eq_true rfl) d_Model_covers_27 rfl (fun v3 hv3 => ?_)
        refine oz_if_eq (q := 33) cx d_Model_covers_30 rfl rfl (fun h6 => ?_) (fun h6 => ?_)
        · refine oz_iconst (q := 44) cx d_Model_covers_43 rfl (v := 1) rfl ?_
          refine oz_goto cx d_Model_covers_44 rfl ?_
          refine oz_istore_n (q := 49) cx d_Model_covers_48 rfl rfl (by rw [hnL]; decide) (lv2 := [(3, .int 1), (0, .ref (oz_b G + 62)), (1, .int a0), (2, .int a1), (4, .int s2.2)]) rfl ?_
          refine oz_iinc (q := 52) cx (s2.2 + 1) d_Model_covers_49 rfl 4 rfl rfl (by rw [hnL]; decide) (lv2 := [(4, .int (s2.2 + 1)), (3, .int 1), (0, .ref (oz_b G + 62)), (1, .int a0), (2, .int a1)]) rfl ?_
          refine oz_goto cx d_Model_covers_52 rfl ?_
          exact oz_lv [2, 3, 4, 1, 0] rfl (oz_leaf (fun h => h))
        · refine oz_aload_n (q := 34) cx d_Model_covers_33 rfl rfl 0 rfl ?_
          refine oz_iload (q := 36) cx d_Model_covers_34 rfl 4 rfl ?_
          refine oz_iload_n (q := 37) cx d_Model_covers_36 rfl rfl 1 rfl ?_
          refine oz_cVip (q := 40) cx 62 [.int s2.2, .int a0] 2 8 hRm (by decide) (by decide) (fun _ h => c_Model_isLess h) ⟨tw_871, tw_873, ts_33, tw_9⟩ tw_874 (by decide +kernel) rfl (by decide) rfl rfl (st := []) rfl (Nat.le_of_ble_eq_true rfl) d_Model_covers_37 rfl (fun v4 hv4 => ?_)
          refine oz_if_ne (q := 43) cx d_Model_covers_40 rfl rfl (fun h5 => ?_) (fun h5 => ?_)
          · refine oz_iconst (q := 48) cx d_Model_covers_47 rfl (v := 0) rfl ?_
            refine oz_istore_n (q := 49) cx d_Model_covers_48 rfl rfl (by rw [hnL]; decide) (lv2 := [(3, .int 0), (0, .ref (oz_b G + 62)), (1, .int a0), (2, .int a1), (4, .int s2.2)]) rfl ?_
            refine oz_iinc (q := 52) cx (s2.2 + 1) d_Model_covers_49 rfl 4 rfl rfl (by rw [hnL]; decide) (lv2 := [(4, .int (s2.2 + 1)), (3, .int 0), (0, .ref (oz_b G + 62)), (1, .int a0), (2, .int a1)]) rfl ?_
            refine oz_goto cx d_Model_covers_52 rfl ?_
            exact oz_lv [2, 3, 4, 1, 0] rfl (oz_leaf (fun h => h))
          · refine oz_iconst (q := 44) cx d_Model_covers_43 rfl (v := 1) rfl ?_
            refine oz_goto cx d_Model_covers_44 rfl ?_
            refine oz_istore_n (q := 49) cx d_Model_covers_48 rfl rfl (by rw [hnL]; decide) (lv2 := [(3, .int 1), (0, .ref (oz_b G + 62)), (1, .int a0), (2, .int a1), (4, .int s2.2)]) rfl ?_
            refine oz_iinc (q := 52) cx (s2.2 + 1) d_Model_covers_49 rfl 4 rfl rfl (by rw [hnL]; decide) (lv2 := [(4, .int (s2.2 + 1)), (3, .int 1), (0, .ref (oz_b G + 62)), (1, .int a0), (2, .int a1)]) rfl ?_
            refine oz_goto cx d_Model_covers_52 rfl ?_
            exact oz_lv [2, 3, 4, 1, 0] rfl (oz_leaf (fun h => h))
  · refine oz_iload_n (q := 56) cx d_Model_covers_55 rfl rfl 0 rfl ?_
    exact oz_zretp cx hR d_Model_covers_56
def y_Model_firstAt : MethodName := ⟨"OrderHallModel", "firstAt", "(I)I"⟩
theorem d_Model_firstAt_0 : decode prog_10_method_12_code 0 = .ok (.aload_n 0, 1) := by decide +kernel
theorem d_Model_firstAt_1 : decode prog_10_method_12_code 1 = .ok (.getfield 38, 3) := by decide +kernel
theorem d_Model_firstAt_4 : decode prog_10_method_12_code 4 = .ok (.iload_n 1, 1) := by decide +kernel
theorem d_Model_firstAt_5 : decode prog_10_method_12_code 5 = .ok (.iaload, 1) := by decide +kernel
theorem d_Model_firstAt_6 : decode prog_10_method_12_code 6 = .ok (.istore_n 2, 1) := by decide +kernel
theorem d_Model_firstAt_7 : decode prog_10_method_12_code 7 = .ok (.iconst 0, 1) := by decide +kernel
theorem d_Model_firstAt_8 : decode prog_10_method_12_code 8 = .ok (.istore_n 3, 1) := by decide +kernel
theorem d_Model_firstAt_9 : decode prog_10_method_12_code 9 = .ok (.iload_n 2, 1) := by decide +kernel
theorem d_Model_firstAt_10 : decode prog_10_method_12_code 10 = .ok (.aload_n 0, 1) := by decide +kernel
theorem d_Model_firstAt_11 : decode prog_10_method_12_code 11 = .ok (.getfield 7, 3) := by decide +kernel
theorem d_Model_firstAt_14 : decode prog_10_method_12_code 14 = .ok (.if_icmp .ge 90, 3) := by decide +kernel
theorem d_Model_firstAt_17 : decode prog_10_method_12_code 17 = .ok (.iload_n 3, 1) := by decide +kernel
theorem d_Model_firstAt_18 : decode prog_10_method_12_code 18 = .ok (.ifCond .ne 86, 3) := by decide +kernel
theorem d_Model_firstAt_21 : decode prog_10_method_12_code 21 = .ok (.iload_n 2, 1) := by decide +kernel
theorem d_Model_firstAt_22 : decode prog_10_method_12_code 22 = .ok (.aload_n 0, 1) := by decide +kernel
theorem d_Model_firstAt_23 : decode prog_10_method_12_code 23 = .ok (.getfield 20, 3) := by decide +kernel
theorem d_Model_firstAt_26 : decode prog_10_method_12_code 26 = .ok (.iconst 0, 1) := by decide +kernel
theorem d_Model_firstAt_27 : decode prog_10_method_12_code 27 = .ok (.iaload, 1) := by decide +kernel
theorem d_Model_firstAt_28 : decode prog_10_method_12_code 28 = .ok (.if_icmp .le 23, 3) := by decide +kernel
theorem d_Model_firstAt_31 : decode prog_10_method_12_code 31 = .ok (.aload_n 0, 1) := by decide +kernel
theorem d_Model_firstAt_32 : decode prog_10_method_12_code 32 = .ok (.aload_n 0, 1) := by decide +kernel
theorem d_Model_firstAt_33 : decode prog_10_method_12_code 33 = .ok (.getfield 20, 3) := by decide +kernel
theorem d_Model_firstAt_36 : decode prog_10_method_12_code 36 = .ok (.iload_n 1, 1) := by decide +kernel
theorem d_Model_firstAt_37 : decode prog_10_method_12_code 37 = .ok (.iconst 1, 1) := by decide +kernel
theorem d_Model_firstAt_38 : decode prog_10_method_12_code 38 = .ok (.isub, 1) := by decide +kernel
theorem d_Model_firstAt_39 : decode prog_10_method_12_code 39 = .ok (.iaload, 1) := by decide +kernel
theorem d_Model_firstAt_40 : decode prog_10_method_12_code 40 = .ok (.iload_n 2, 1) := by decide +kernel
theorem d_Model_firstAt_41 : decode prog_10_method_12_code 41 = .ok (.invokevirtual 81, 3) := by decide +kernel
theorem d_Model_firstAt_44 : decode prog_10_method_12_code 44 = .ok (.ifCond .eq 7, 3) := by decide +kernel
theorem d_Model_firstAt_47 : decode prog_10_method_12_code 47 = .ok (.iconst 1, 1) := by decide +kernel
theorem d_Model_firstAt_48 : decode prog_10_method_12_code 48 = .ok (.goto 4, 3) := by decide +kernel
theorem d_Model_firstAt_51 : decode prog_10_method_12_code 51 = .ok (.iconst 0, 1) := by decide +kernel
theorem d_Model_firstAt_52 : decode prog_10_method_12_code 52 = .ok (.istore_n 3, 1) := by decide +kernel
theorem d_Model_firstAt_53 : decode prog_10_method_12_code 53 = .ok (.iconst 0, 1) := by decide +kernel
theorem d_Model_firstAt_54 : decode prog_10_method_12_code 54 = .ok (.istore 4, 2) := by decide +kernel
theorem d_Model_firstAt_56 : decode prog_10_method_12_code 56 = .ok (.iload 4, 2) := by decide +kernel
theorem d_Model_firstAt_58 : decode prog_10_method_12_code 58 = .ok (.iload_n 1, 1) := by decide +kernel
theorem d_Model_firstAt_59 : decode prog_10_method_12_code 59 = .ok (.if_icmp .ge 30, 3) := by decide +kernel
theorem d_Model_firstAt_62 : decode prog_10_method_12_code 62 = .ok (.iload_n 3, 1) := by decide +kernel
theorem d_Model_firstAt_63 : decode prog_10_method_12_code 63 = .ok (.ifCond .eq 18, 3) := by decide +kernel
theorem d_Model_firstAt_66 : decode prog_10_method_12_code 66 = .ok (.aload_n 0, 1) := by decide +kernel
theorem d_Model_firstAt_67 : decode prog_10_method_12_code 67 = .ok (.getfield 20, 3) := by decide +kernel
theorem d_Model_firstAt_70 : decode prog_10_method_12_code 70 = .ok (.iload 4, 2) := by decide +kernel
theorem d_Model_firstAt_72 : decode prog_10_method_12_code 72 = .ok (.iaload, 1) := by decide +kernel
theorem d_Model_firstAt_73 : decode prog_10_method_12_code 73 = .ok (.iload_n 2, 1) := by decide +kernel
theorem d_Model_firstAt_74 : decode prog_10_method_12_code 74 = .ok (.if_icmp .eq 7, 3) := by decide +kernel
theorem d_Model_firstAt_77 : decode prog_10_method_12_code 77 = .ok (.iconst 1, 1) := by decide +kernel
theorem d_Model_firstAt_78 : decode prog_10_method_12_code 78 = .ok (.goto 4, 3) := by decide +kernel
theorem d_Model_firstAt_81 : decode prog_10_method_12_code 81 = .ok (.iconst 0, 1) := by decide +kernel
theorem d_Model_firstAt_82 : decode prog_10_method_12_code 82 = .ok (.istore_n 3, 1) := by decide +kernel
theorem d_Model_firstAt_83 : decode prog_10_method_12_code 83 = .ok (.iinc 4 1, 3) := by decide +kernel
theorem d_Model_firstAt_86 : decode prog_10_method_12_code 86 = .ok (.goto (-30), 3) := by decide +kernel
theorem d_Model_firstAt_89 : decode prog_10_method_12_code 89 = .ok (.iload_n 3, 1) := by decide +kernel
theorem d_Model_firstAt_90 : decode prog_10_method_12_code 90 = .ok (.ifCond .eq 7, 3) := by decide +kernel
theorem d_Model_firstAt_93 : decode prog_10_method_12_code 93 = .ok (.iload_n 2, 1) := by decide +kernel
theorem d_Model_firstAt_94 : decode prog_10_method_12_code 94 = .ok (.goto 6, 3) := by decide +kernel
theorem d_Model_firstAt_97 : decode prog_10_method_12_code 97 = .ok (.iload_n 2, 1) := by decide +kernel
theorem d_Model_firstAt_98 : decode prog_10_method_12_code 98 = .ok (.iconst 1, 1) := by decide +kernel
theorem d_Model_firstAt_99 : decode prog_10_method_12_code 99 = .ok (.iadd, 1) := by decide +kernel
theorem d_Model_firstAt_100 : decode prog_10_method_12_code 100 = .ok (.istore_n 2, 1) := by decide +kernel
theorem d_Model_firstAt_101 : decode prog_10_method_12_code 101 = .ok (.goto (-92), 3) := by decide +kernel
theorem d_Model_firstAt_104 : decode prog_10_method_12_code 104 = .ok (.iload_n 2, 1) := by decide +kernel
theorem d_Model_firstAt_105 : decode prog_10_method_12_code 105 = .ok (.ireturn, 1) := by decide +kernel
noncomputable def f_Model_firstAt (a0 : Int32) (M : oz_M) : Option (Int32) := (oz_in a0 15).bind fun j1 => (oz_lp (fun (s2 : Int32 × Int32) => (if s2.1 < (M.1 62 1) then (if s2.2 = 0 then ((oz_in 0 14).bind fun j3 => (if (M.1 65 j3) < s2.1 then ((oz_in (a0 - 1) 14).bind fun j5 => (f_Model_isArc (M.1 65 j5) s2.1 M).bind fun v6 => if v6 = 0 then (some 0) else (some 1)) else (some 0)).bind fun (z4 : Int32) => (oz_lp (fun (s9 : Int32 × Int32) => (if s9.2 < a0 then (if s9.1 = 0 then (some (.inl (0, s9.2 + 1))) else ((oz_in s9.2 14).bind fun j10 => if (M.1 65 j10) = s2.1 then (some (.inl (0, s9.2 + 1))) else (some (.inl (1, s9.2 + 1))))) else (some (.inr (s9.1, s9.2))) : Option ((Int32 × Int32) ⊕ (Int32 × Int32)))) (z4, 0)).bind fun (y14 : Int32 × Int32) => if y14.1 = 0 then (some (.inl (s2.1 + 1, y14.1))) else (some (.inl (s2.1, y14.1)))) else (some (.inr (s2.1, s2.2)))) else (some (.inr (s2.1, s2.2))) : Option ((Int32 × Int32) ⊕ (Int32 × Int32)))) (M.1 70 j1, 0)).bind fun (y18 : Int32 × Int32) => some y18.1
set_option maxRecDepth 20000 in
set_option maxHeartbeats 4000000 in
theorem c_Model_firstAt {l : Launch} {D : va_G} {cs : Nat → ClassId} {b : Nat} {a0 : Int32} {M : oz_M} {vz : Int32} (hF : f_Model_firstAt a0 M = some vz) : oz_Met l D cs b y_Model_firstAt prog_10_method_12_code 5 (some .int) (oz_rm 1) [.ref (b + 62), .int a0] M (some (.int vz)) M := by
  refine oz_enter (by decide) (Nat.le_of_ble_eq_true rfl) (fun G cx hR e1 hRm e2 e3 e4 hnL => ?_)
  subst e1; subst e2; subst e3; subst e4
  refine (?_ : oz_R G 0 [(0, .ref (oz_b G + 62)), (1, .int a0)] [] M (f_Model_firstAt a0 M) (fun x => x = vz)) _ hF rfl
  unfold f_Model_firstAt
  refine oz_aload_n (q := 1) cx d_Model_firstAt_0 rfl rfl 0 rfl ?_
  refine oz_get (q := 4) cx 62 13 (by decide) (ci := 8) rfl rfl tin_Model (by decide) rfl rfl tw_799 d_Model_firstAt_1 rfl ?_
  refine oz_iload_n (q := 5) cx d_Model_firstAt_4 rfl rfl 1 rfl ?_
  refine oz_iald (q := 6) cx 70 15 (by decide) rfl d_Model_firstAt_5 rfl (fun j1 hj1 => ?_)
  refine oz_istore_n (q := 7) cx d_Model_firstAt_6 rfl rfl (by rw [hnL]; decide) (lv2 := [(2, .int (M.1 70 j1)), (0, .ref (oz_b G + 62)), (1, .int a0)]) rfl ?_
  refine oz_iconst (q := 8) cx d_Model_firstAt_7 rfl (v := 0) rfl ?_
  refine oz_istore_n (q := 9) cx d_Model_firstAt_8 rfl rfl (by rw [hnL]; decide) (lv2 := [(3, .int 0), (2, .int (M.1 70 j1)), (0, .ref (oz_b G + 62)), (1, .int a0)]) rfl ?_
  refine oz_lv [2, 3, 1, 0] rfl ?_
  refine oz_seq (p2 := 104) (lv2 := fun (y18 : Int32 × Int32) => [(2, .int y18.1)]) (st2 := fun y18 => []) (M2 := fun y18 => M) ?_ (fun y18 => ?_)
  · refine oz_loop (Y := Int32 × Int32) 9 (fun (s2 : Int32 × Int32) => [(0, .ref (oz_b G + 62)), (1, .int a0), (2, .int s2.1), (3, .int s2.2)]) (fun (s2 : Int32 × Int32) => M) (M.1 70 j1, 0) (fun s2 => ?_)
    refine oz_iload_n (q := 10) cx d_Model_firstAt_9 rfl rfl 2 rfl ?_
    refine oz_aload_n (q := 11) cx d_Model_firstAt_10 rfl rfl 0 rfl ?_
    refine oz_get (q := 14) cx 62 1 (by decide) (ci := 8) rfl rfl tin_Model (by decide) rfl rfl tw_787 d_Model_firstAt_11 rfl ?_
    refine oz_icmp_ge (q := 17) cx d_Model_firstAt_14 rfl rfl (fun h17 => ?_) (fun h17 => ?_)
    · exact oz_lv [2] rfl (oz_leaf (fun h => h))
    · refine oz_iload_n (q := 18) cx d_Model_firstAt_17 rfl rfl 3 rfl ?_
      refine oz_if_ne (q := 21) cx d_Model_firstAt_18 rfl rfl (fun h16 => ?_) (fun h16 => ?_)
      · exact oz_lv [2] rfl (oz_leaf (fun h => h))
      · refine oz_iload_n (q := 22) cx d_Model_firstAt_21 rfl rfl 2 rfl ?_
        refine oz_aload_n (q := 23) cx d_Model_firstAt_22 rfl rfl 0 rfl ?_
        refine oz_get (q := 26) cx 62 5 (by decide) (ci := 8) rfl rfl tin_Model (by decide) rfl rfl tw_791 d_Model_firstAt_23 rfl ?_
        refine oz_iconst (q := 27) cx d_Model_firstAt_26 rfl (v := 0) rfl ?_
        refine oz_iald (q := 28) cx 65 14 (by decide) rfl d_Model_firstAt_27 rfl (fun j3 hj3 => ?_)
        refine oz_seq (p2 := 52) (lv2 := fun (z4 : Int32) => [(0, .ref (oz_b G + 62)), (1, .int a0), (2, .int s2.1)]) (st2 := fun z4 => [.int z4]) (M2 := fun z4 => M) ?_ (fun z4 => ?_)
        · refine oz_icmp_le (q := 31) cx d_Model_firstAt_28 rfl rfl (fun h8 => ?_) (fun h8 => ?_)
          · refine oz_iconst (q := 52) cx d_Model_firstAt_51 rfl (v := 0) rfl ?_
            exact oz_lv [0, 1, 2] rfl (oz_leaf (fun h => h))
          · refine oz_aload_n (q := 32) cx d_Model_firstAt_31 rfl rfl 0 rfl ?_
            refine oz_aload_n (q := 33) cx d_Model_firstAt_32 rfl rfl 0 rfl ?_
            refine oz_get (q := 36) cx 62 5 (by decide) (ci := 8) rfl rfl tin_Model (by decide) rfl rfl tw_791 d_Model_firstAt_33 rfl ?_
            refine oz_iload_n (q := 37) cx d_Model_firstAt_36 rfl rfl 1 rfl ?_
            refine oz_iconst (q := 38) cx d_Model_firstAt_37 rfl (v := 1) rfl ?_
            refine oz_isub (q := 39) cx d_Model_firstAt_38 rfl ?_
            refine oz_iald (q := 40) cx 65 14 (by decide) rfl d_Model_firstAt_39 rfl (fun j5 hj5 => ?_)
            refine oz_iload_n (q := 41) cx d_Model_firstAt_40 rfl rfl 2 rfl ?_
            refine oz_cVip (q := 44) cx 62 [.int (M.1 65 j5), .int s2.1] 2 8 hRm (by decide) (by decide) (fun _ h => c_Model_isArc h) ⟨tw_883, tw_885, ts_36, tw_9⟩ tw_886 (by decide +kernel) rfl (by decide) rfl rfl (st := []) rfl (Nat.le_of_ble_eq_true rfl) d_Model_firstAt_41 rfl (fun v6 hv6 => ?_)
            refine oz_if_eq (q := 47) cx d_Model_firstAt_44 rfl rfl (fun h7 => ?_) (fun h7 => ?_)
            · refine oz_iconst (q := 52) cx d_Model_firstAt_51 rfl (v := 0) rfl ?_
              exact oz_lv [0, 1, 2] rfl (oz_leaf (fun h => h))
            · refine oz_iconst (q := 48) cx d_Model_firstAt_47 rfl (v := 1) rfl ?_
              refine oz_goto cx d_Model_firstAt_48 rfl ?_
              exact oz_lv [0, 1, 2] rfl (oz_leaf (fun h => h))
        · refine oz_istore_n (q := 53) cx d_Model_firstAt_52 rfl rfl (by rw [hnL]; decide) (lv2 := [(3, .int z4), (0, .ref (oz_b G + 62)), (1, .int a0), (2, .int s2.1)]) rfl ?_
          refine oz_iconst (q := 54) cx d_Model_firstAt_53 rfl (v := 0) rfl ?_
          refine oz_istore (q := 56) cx d_Model_firstAt_54 rfl (by rw [hnL]; decide) (lv2 := [(4, .int 0), (3, .int z4), (0, .ref (oz_b G + 62)), (1, .int a0), (2, .int s2.1)]) rfl ?_
          refine oz_lv [2, 3, 4, 1, 0] rfl ?_
          refine oz_seq (p2 := 89) (lv2 := fun (y14 : Int32 × Int32) => [(0, .ref (oz_b G + 62)), (1, .int a0), (2, .int s2.1), (3, .int y14.1)]) (st2 := fun y14 => []) (M2 := fun y14 => M) ?_ (fun y14 => ?_)
          · refine oz_loop (Y := Int32 × Int32) 56 (fun (s9 : Int32 × Int32) => [(0, .ref (oz_b G + 62)), (1, .int a0), (2, .int s2.1), (3, .int s9.1), (4, .int s9.2)]) (fun (s9 : Int32 × Int32) => M) (z4, 0) (fun s9 => ?_)
            refine oz_iload (q := 58) cx d_Model_firstAt_56 rfl 4 rfl ?_
            refine oz_iload_n (q := 59) cx d_Model_firstAt_58 rfl rfl 1 rfl ?_
            refine oz_icmp_ge (q := 62) cx d_Model_firstAt_59 rfl rfl (fun h13 => ?_) (fun h13 => ?_)
            · exact oz_lv [0, 1, 2, 3] rfl (oz_leaf (fun h => h))
            · refine oz_iload_n (q := 63) cx d_Model_firstAt_62 rfl rfl 3 rfl ?_
              refine oz_if_eq (q := 66) cx d_Model_firstAt_63 rfl rfl (fun h12 => ?_) (fun h12 => ?_)
              · refine oz_iconst (q := 82) cx d_Model_firstAt_81 rfl (v := 0) rfl ?_
                refine oz_istore_n (q := 83) cx d_Model_firstAt_82 rfl rfl (by rw [hnL]; decide) (lv2 := [(3, .int 0), (0, .ref (oz_b G + 62)), (1, .int a0), (2, .int s2.1), (4, .int s9.2)]) rfl ?_
                refine oz_iinc (q := 86) cx (s9.2 + 1) d_Model_firstAt_83 rfl 4 rfl rfl (by rw [hnL]; decide) (lv2 := [(4, .int (s9.2 + 1)), (3, .int 0), (0, .ref (oz_b G + 62)), (1, .int a0), (2, .int s2.1)]) rfl ?_
                refine oz_goto cx d_Model_firstAt_86 rfl ?_
                exact oz_lv [2, 3, 4, 1, 0] rfl (oz_leaf (fun h => h))
              · refine oz_aload_n (q := 67) cx d_Model_firstAt_66 rfl rfl 0 rfl ?_
                refine oz_get (q := 70) cx 62 5 (by decide) (ci := 8) rfl rfl tin_Model (by decide) rfl rfl tw_791 d_Model_firstAt_67 rfl ?_
                refine oz_iload (q := 72) cx d_Model_firstAt_70 rfl 4 rfl ?_
                refine oz_iald (q := 73) cx 65 14 (by decide) rfl d_Model_firstAt_72 rfl (fun j10 hj10 => ?_)
                refine oz_iload_n (q := 74) cx d_Model_firstAt_73 rfl rfl 2 rfl ?_
                refine oz_icmp_eq (q := 77) cx d_Model_firstAt_74 rfl rfl (fun h11 => ?_) (fun h11 => ?_)
                · refine oz_iconst (q := 82) cx d_Model_firstAt_81 rfl (v := 0) rfl ?_
                  refine oz_istore_n (q := 83) cx d_Model_firstAt_82 rfl rfl (by rw [hnL]; decide) (lv2 := [(3, .int 0), (0, .ref (oz_b G + 62)), (1, .int a0), (2, .int s2.1), (4, .int s9.2)]) rfl ?_
                  refine oz_iinc (q := 86) cx (s9.2 + 1) d_Model_firstAt_83 rfl 4 rfl rfl (by rw [hnL]; decide) (lv2 := [(4, .int (s9.2 + 1)), (3, .int 0), (0, .ref (oz_b G + 62)), (1, .int a0), (2, .int s2.1)]) rfl ?_
                  refine oz_goto cx d_Model_firstAt_86 rfl ?_
                  exact oz_lv [2, 3, 4, 1, 0] rfl (oz_leaf (fun h => h))
                · refine oz_iconst (q := 78) cx d_Model_firstAt_77 rfl (v := 1) rfl ?_
                  refine oz_goto cx d_Model_firstAt_78 rfl ?_
                  refine oz_istore_n (q := 83) cx d_Model_firstAt_82 rfl rfl (by rw [hnL]; decide) (lv2 := [(3, .int 1), (0, .ref (oz_b G + 62)), (1, .int a0), (2, .int s2.1), (4, .int s9.2)]) rfl ?_
                  refine oz_iinc (q := 86) cx (s9.2 + 1) d_Model_firstAt_83 rfl 4 rfl rfl (by rw [hnL]; decide) (lv2 := [(4, .int (s9.2 + 1)), (3, .int 1), (0, .ref (oz_b G + 62)), (1, .int a0), (2, .int s2.1)]) rfl ?_
                  refine oz_goto cx d_Model_firstAt_86 rfl ?_
                  exact oz_lv [2, 3, 4, 1, 0] rfl (oz_leaf (fun h => h))
          · refine oz_iload_n (q := 90) cx d_Model_firstAt_89 rfl rfl 3 rfl ?_
            refine oz_if_eq (q := 93) cx d_Model_firstAt_90 rfl rfl (fun h15 => ?_) (fun h15 => ?_)
            · refine oz_iload_n (q := 98) cx d_Model_firstAt_97 rfl rfl 2 rfl ?_
              refine oz_iconst (q := 99) cx d_Model_firstAt_98 rfl (v := 1) rfl ?_
              refine oz_iadd (q := 100) cx d_Model_firstAt_99 rfl ?_
              refine oz_istore_n (q := 101) cx d_Model_firstAt_100 rfl rfl (by rw [hnL]; decide) (lv2 := [(2, .int (s2.1 + 1)), (0, .ref (oz_b G + 62)), (1, .int a0), (3, .int y14.1)]) rfl ?_
              refine oz_goto cx d_Model_firstAt_101 rfl ?_
              exact oz_lv [1, 2, 0, 3] rfl (oz_leaf (fun h => h))
            · refine oz_iload_n (q := 94) cx d_Model_firstAt_93 rfl rfl 2 rfl ?_
              refine oz_goto cx d_Model_firstAt_94 rfl ?_
              refine oz_istore_n (q := 101) cx d_Model_firstAt_100 rfl rfl (by rw [hnL]; decide) (lv2 := [(2, .int s2.1), (0, .ref (oz_b G + 62)), (1, .int a0), (3, .int y14.1)]) rfl ?_
              refine oz_goto cx d_Model_firstAt_101 rfl ?_
              exact oz_lv [1, 2, 0, 3] rfl (oz_leaf (fun h => h))
  · refine oz_iload_n (q := 105) cx d_Model_firstAt_104 rfl rfl 0 rfl ?_
    exact oz_iretp cx hR d_Model_firstAt_105
def y_Model_isApart : MethodName := ⟨"OrderHallModel", "isApart", "(II)Z"⟩
theorem d_Model_isApart_0 : decode prog_10_method_11_code 0 = .ok (.iload_n 1, 1) := by decide +kernel
theorem d_Model_isApart_1 : decode prog_10_method_11_code 1 = .ok (.iload_n 2, 1) := by decide +kernel
theorem d_Model_isApart_2 : decode prog_10_method_11_code 2 = .ok (.if_icmp .eq 25, 3) := by decide +kernel
theorem d_Model_isApart_5 : decode prog_10_method_11_code 5 = .ok (.aload_n 0, 1) := by decide +kernel
theorem d_Model_isApart_6 : decode prog_10_method_11_code 6 = .ok (.iload_n 1, 1) := by decide +kernel
theorem d_Model_isApart_7 : decode prog_10_method_11_code 7 = .ok (.iload_n 2, 1) := by decide +kernel
theorem d_Model_isApart_8 : decode prog_10_method_11_code 8 = .ok (.invokevirtual 77, 3) := by decide +kernel
theorem d_Model_isApart_11 : decode prog_10_method_11_code 11 = .ok (.ifCond .ne 16, 3) := by decide +kernel
theorem d_Model_isApart_14 : decode prog_10_method_11_code 14 = .ok (.aload_n 0, 1) := by decide +kernel
theorem d_Model_isApart_15 : decode prog_10_method_11_code 15 = .ok (.iload_n 2, 1) := by decide +kernel
theorem d_Model_isApart_16 : decode prog_10_method_11_code 16 = .ok (.iload_n 1, 1) := by decide +kernel
theorem d_Model_isApart_17 : decode prog_10_method_11_code 17 = .ok (.invokevirtual 77, 3) := by decide +kernel
theorem d_Model_isApart_20 : decode prog_10_method_11_code 20 = .ok (.ifCond .ne 7, 3) := by decide +kernel
theorem d_Model_isApart_23 : decode prog_10_method_11_code 23 = .ok (.iconst 1, 1) := by decide +kernel
theorem d_Model_isApart_24 : decode prog_10_method_11_code 24 = .ok (.goto 4, 3) := by decide +kernel
theorem d_Model_isApart_27 : decode prog_10_method_11_code 27 = .ok (.iconst 0, 1) := by decide +kernel
theorem d_Model_isApart_28 : decode prog_10_method_11_code 28 = .ok (.ireturn, 1) := by decide +kernel
def f_Model_isApart (a0 : Int32) (a1 : Int32) (M : oz_M) : Option (Int32) := if a0 = a1 then (oz_z 0) else ((f_Model_isLess a0 a1 M).bind fun v1 => if v1 = 0 then ((f_Model_isLess a1 a0 M).bind fun v2 => if v2 = 0 then (oz_z 1) else (oz_z 0)) else (oz_z 0))
set_option maxRecDepth 20000 in
set_option maxHeartbeats 4000000 in
theorem c_Model_isApart {l : Launch} {D : va_G} {cs : Nat → ClassId} {b : Nat} {a0 : Int32} {a1 : Int32} {M : oz_M} {vz : Int32} (hF : f_Model_isApart a0 a1 M = some vz) : oz_Met l D cs b y_Model_isApart prog_10_method_11_code 3 (some .boolean) (oz_rm 1) [.ref (b + 62), .int a0, .int a1] M (some (.int vz)) M := by
  refine oz_enter (by decide) (Nat.le_of_ble_eq_true rfl) (fun G cx hR e1 hRm e2 e3 e4 hnL => ?_)
  subst e1; subst e2; subst e3; subst e4
  refine (?_ : oz_R G 0 [(0, .ref (oz_b G + 62)), (1, .int a0), (2, .int a1)] [] M (f_Model_isApart a0 a1 M) (fun x => x = vz)) _ hF rfl
  unfold f_Model_isApart
  refine oz_iload_n (q := 1) cx d_Model_isApart_0 rfl rfl 1 rfl ?_
  refine oz_iload_n (q := 2) cx d_Model_isApart_1 rfl rfl 2 rfl ?_
  refine oz_icmp_eq (q := 5) cx d_Model_isApart_2 rfl rfl (fun h5 => ?_) (fun h5 => ?_)
  · refine oz_iconst (q := 28) cx d_Model_isApart_27 rfl (v := 0) rfl ?_
    exact oz_zretp cx hR d_Model_isApart_28
  · refine oz_aload_n (q := 6) cx d_Model_isApart_5 rfl rfl 0 rfl ?_
    refine oz_iload_n (q := 7) cx d_Model_isApart_6 rfl rfl 1 rfl ?_
    refine oz_iload_n (q := 8) cx d_Model_isApart_7 rfl rfl 2 rfl ?_
    refine oz_cVip (q := 11) cx 62 [.int a0, .int a1] 2 8 hRm (by decide) (by decide) (fun _ h => c_Model_isLess h) ⟨tw_871, tw_873, ts_33, tw_9⟩ tw_874 (by decide +kernel) rfl (by decide) rfl rfl (st := []) rfl (Nat.le_of_ble_eq_true rfl) d_Model_isApart_8 rfl (fun v1 hv1 => ?_)
    refine oz_if_ne (q := 14) cx d_Model_isApart_11 rfl rfl (fun h4 => ?_) (fun h4 => ?_)
    · refine oz_iconst (q := 28) cx d_Model_isApart_27 rfl (v := 0) rfl ?_
      exact oz_zretp cx hR d_Model_isApart_28
    · refine oz_aload_n (q := 15) cx d_Model_isApart_14 rfl rfl 0 rfl ?_
      refine oz_iload_n (q := 16) cx d_Model_isApart_15 rfl rfl 2 rfl ?_
      refine oz_iload_n (q := 17) cx d_Model_isApart_16 rfl rfl 1 rfl ?_
      refine oz_cVip (q := 20) cx 62 [.int a1, .int a0] 2 8 hRm (by decide) (by decide) (fun _ h => c_Model_isLess h) ⟨tw_871, tw_873, ts_33, tw_9⟩ tw_874 (by decide +kernel) rfl (by decide) rfl rfl (st := []) rfl (Nat.le_of_ble_eq_true rfl) d_Model_isApart_17 rfl (fun v2 hv2 => ?_)
      refine oz_if_ne (q := 23) cx d_Model_isApart_20 rfl rfl (fun h3 => ?_) (fun h3 => ?_)
      · refine oz_iconst (q := 28) cx d_Model_isApart_27 rfl (v := 0) rfl ?_
        exact oz_zretp cx hR d_Model_isApart_28
      · refine oz_iconst (q := 24) cx d_Model_isApart_23 rfl (v := 1) rfl ?_
        refine oz_goto cx d_Model_isApart_24 rfl ?_
        exact oz_zretp cx hR d_Model_isApart_28
def y_Model_isAtMost : MethodName := ⟨"OrderHallModel", "isAtMost", "(II)Z"⟩
theorem d_Model_isAtMost_0 : decode prog_10_method_42_code 0 = .ok (.iload_n 1, 1) := by decide +kernel
theorem d_Model_isAtMost_1 : decode prog_10_method_42_code 1 = .ok (.iload_n 2, 1) := by decide +kernel
theorem d_Model_isAtMost_2 : decode prog_10_method_42_code 2 = .ok (.if_icmp .eq 12, 3) := by decide +kernel
theorem d_Model_isAtMost_5 : decode prog_10_method_42_code 5 = .ok (.aload_n 0, 1) := by decide +kernel
theorem d_Model_isAtMost_6 : decode prog_10_method_42_code 6 = .ok (.iload_n 1, 1) := by decide +kernel
theorem d_Model_isAtMost_7 : decode prog_10_method_42_code 7 = .ok (.iload_n 2, 1) := by decide +kernel
theorem d_Model_isAtMost_8 : decode prog_10_method_42_code 8 = .ok (.invokevirtual 77, 3) := by decide +kernel
theorem d_Model_isAtMost_11 : decode prog_10_method_42_code 11 = .ok (.ifCond .eq 7, 3) := by decide +kernel
theorem d_Model_isAtMost_14 : decode prog_10_method_42_code 14 = .ok (.iconst 1, 1) := by decide +kernel
theorem d_Model_isAtMost_15 : decode prog_10_method_42_code 15 = .ok (.goto 4, 3) := by decide +kernel
theorem d_Model_isAtMost_18 : decode prog_10_method_42_code 18 = .ok (.iconst 0, 1) := by decide +kernel
theorem d_Model_isAtMost_19 : decode prog_10_method_42_code 19 = .ok (.ireturn, 1) := by decide +kernel
def f_Model_isAtMost (a0 : Int32) (a1 : Int32) (M : oz_M) : Option (Int32) := if a0 = a1 then (oz_z 1) else ((f_Model_isLess a0 a1 M).bind fun v1 => if v1 = 0 then (oz_z 0) else (oz_z 1))
set_option maxRecDepth 20000 in
set_option maxHeartbeats 4000000 in
theorem c_Model_isAtMost {l : Launch} {D : va_G} {cs : Nat → ClassId} {b : Nat} {a0 : Int32} {a1 : Int32} {M : oz_M} {vz : Int32} (hF : f_Model_isAtMost a0 a1 M = some vz) : oz_Met l D cs b y_Model_isAtMost prog_10_method_42_code 3 (some .boolean) (oz_rm 1) [.ref (b + 62), .int a0, .int a1] M (some (.int vz)) M := by
  refine oz_enter (by decide) (Nat.le_of_ble_eq_true rfl) (fun G cx hR e1 hRm e2 e3 e4 hnL => ?_)
  subst e1; subst e2; subst e3; subst e4
  refine (?_ : oz_R G 0 [(0, .ref (oz_b G + 62)), (1, .int a0), (2, .int a1)] [] M (f_Model_isAtMost a0 a1 M) (fun x => x = vz)) _ hF rfl
  unfold f_Model_isAtMost
  refine oz_iload_n (q := 1) cx d_Model_isAtMost_0 rfl rfl 1 rfl ?_
  refine oz_iload_n (q := 2) cx d_Model_isAtMost_1 rfl rfl 2 rfl ?_
  refine oz_icmp_eq (q := 5) cx d_Model_isAtMost_2 rfl rfl (fun h3 => ?_) (fun h3 => ?_)
  · refine oz_iconst (q := 15) cx d_Model_isAtMost_14 rfl (v := 1) rfl ?_
    refine oz_goto cx d_Model_isAtMost_15 rfl ?_
    exact oz_zretp cx hR d_Model_isAtMost_19
  · refine oz_aload_n (q := 6) cx d_Model_isAtMost_5 rfl rfl 0 rfl ?_
    refine oz_iload_n (q := 7) cx d_Model_isAtMost_6 rfl rfl 1 rfl ?_
    refine oz_iload_n (q := 8) cx d_Model_isAtMost_7 rfl rfl 2 rfl ?_
    refine oz_cVip (q := 11) cx 62 [.int a0, .int a1] 2 8 hRm (by decide) (by decide) (fun _ h => c_Model_isLess h) ⟨tw_871, tw_873, ts_33, tw_9⟩ tw_874 (by decide +kernel) rfl (by decide) rfl rfl (st := []) rfl (Nat.le_of_ble_eq_true rfl) d_Model_isAtMost_8 rfl (fun v1 hv1 => ?_)
    refine oz_if_eq (q := 14) cx d_Model_isAtMost_11 rfl rfl (fun h2 => ?_) (fun h2 => ?_)
    · refine oz_iconst (q := 19) cx d_Model_isAtMost_18 rfl (v := 0) rfl ?_
      exact oz_zretp cx hR d_Model_isAtMost_19
    · refine oz_iconst (q := 15) cx d_Model_isAtMost_14 rfl (v := 1) rfl ?_
      refine oz_goto cx d_Model_isAtMost_15 rfl ?_
      exact oz_zretp cx hR d_Model_isAtMost_19
def y_Model_isClosed : MethodName := ⟨"OrderHallModel", "isClosed", "(I)Z"⟩
theorem d_Model_isClosed_0 : decode prog_10_method_27_code 0 = .ok (.iconst 1, 1) := by decide +kernel
theorem d_Model_isClosed_1 : decode prog_10_method_27_code 1 = .ok (.istore_n 2, 1) := by decide +kernel
theorem d_Model_isClosed_2 : decode prog_10_method_27_code 2 = .ok (.iconst 0, 1) := by decide +kernel
theorem d_Model_isClosed_3 : decode prog_10_method_27_code 3 = .ok (.istore_n 3, 1) := by decide +kernel
theorem d_Model_isClosed_4 : decode prog_10_method_27_code 4 = .ok (.iload_n 3, 1) := by decide +kernel
theorem d_Model_isClosed_5 : decode prog_10_method_27_code 5 = .ok (.aload_n 0, 1) := by decide +kernel
theorem d_Model_isClosed_6 : decode prog_10_method_27_code 6 = .ok (.getfield 7, 3) := by decide +kernel
theorem d_Model_isClosed_9 : decode prog_10_method_27_code 9 = .ok (.if_icmp .ge 64, 3) := by decide +kernel
theorem d_Model_isClosed_12 : decode prog_10_method_27_code 12 = .ok (.iconst 0, 1) := by decide +kernel
theorem d_Model_isClosed_13 : decode prog_10_method_27_code 13 = .ok (.istore 4, 2) := by decide +kernel
theorem d_Model_isClosed_15 : decode prog_10_method_27_code 15 = .ok (.iload 4, 2) := by decide +kernel
theorem d_Model_isClosed_17 : decode prog_10_method_27_code 17 = .ok (.aload_n 0, 1) := by decide +kernel
theorem d_Model_isClosed_18 : decode prog_10_method_27_code 18 = .ok (.getfield 7, 3) := by decide +kernel
theorem d_Model_isClosed_21 : decode prog_10_method_27_code 21 = .ok (.if_icmp .ge 46, 3) := by decide +kernel
theorem d_Model_isClosed_24 : decode prog_10_method_27_code 24 = .ok (.iload_n 2, 1) := by decide +kernel
theorem d_Model_isClosed_25 : decode prog_10_method_27_code 25 = .ok (.ifCond .eq 34, 3) := by decide +kernel
theorem d_Model_isClosed_28 : decode prog_10_method_27_code 28 = .ok (.iload_n 1, 1) := by decide +kernel
theorem d_Model_isClosed_29 : decode prog_10_method_27_code 29 = .ok (.iload 4, 2) := by decide +kernel
theorem d_Model_isClosed_31 : decode prog_10_method_27_code 31 = .ok (.invokestatic 100, 3) := by decide +kernel
theorem d_Model_isClosed_34 : decode prog_10_method_27_code 34 = .ok (.ifCond .eq 21, 3) := by decide +kernel
theorem d_Model_isClosed_37 : decode prog_10_method_27_code 37 = .ok (.aload_n 0, 1) := by decide +kernel
theorem d_Model_isClosed_38 : decode prog_10_method_27_code 38 = .ok (.iload_n 3, 1) := by decide +kernel
theorem d_Model_isClosed_39 : decode prog_10_method_27_code 39 = .ok (.iload 4, 2) := by decide +kernel
theorem d_Model_isClosed_41 : decode prog_10_method_27_code 41 = .ok (.invokevirtual 77, 3) := by decide +kernel
theorem d_Model_isClosed_44 : decode prog_10_method_27_code 44 = .ok (.ifCond .eq 11, 3) := by decide +kernel
theorem d_Model_isClosed_47 : decode prog_10_method_27_code 47 = .ok (.iload_n 1, 1) := by decide +kernel
theorem d_Model_isClosed_48 : decode prog_10_method_27_code 48 = .ok (.iload_n 3, 1) := by decide +kernel
theorem d_Model_isClosed_49 : decode prog_10_method_27_code 49 = .ok (.invokestatic 100, 3) := by decide +kernel
theorem d_Model_isClosed_52 : decode prog_10_method_27_code 52 = .ok (.ifCond .eq 7, 3) := by decide +kernel
theorem d_Model_isClosed_55 : decode prog_10_method_27_code 55 = .ok (.iconst 1, 1) := by decide +kernel
theorem d_Model_isClosed_56 : decode prog_10_method_27_code 56 = .ok (.goto 4, 3) := by decide +kernel
theorem d_Model_isClosed_59 : decode prog_10_method_27_code 59 = .ok (.iconst 0, 1) := by decide +kernel
theorem d_Model_isClosed_60 : decode prog_10_method_27_code 60 = .ok (.istore_n 2, 1) := by decide +kernel
theorem d_Model_isClosed_61 : decode prog_10_method_27_code 61 = .ok (.iinc 4 1, 3) := by decide +kernel
theorem d_Model_isClosed_64 : decode prog_10_method_27_code 64 = .ok (.goto (-49), 3) := by decide +kernel
theorem d_Model_isClosed_67 : decode prog_10_method_27_code 67 = .ok (.iinc 3 1, 3) := by decide +kernel
theorem d_Model_isClosed_70 : decode prog_10_method_27_code 70 = .ok (.goto (-66), 3) := by decide +kernel
theorem d_Model_isClosed_73 : decode prog_10_method_27_code 73 = .ok (.iload_n 2, 1) := by decide +kernel
theorem d_Model_isClosed_74 : decode prog_10_method_27_code 74 = .ok (.ireturn, 1) := by decide +kernel
noncomputable def f_Model_isClosed (a0 : Int32) (M : oz_M) : Option (Int32) := (oz_lp (fun (s1 : Int32 × Int32) => (if s1.2 < (M.1 62 1) then ((oz_lp (fun (s2 : Int32 × Int32) => (if s2.2 < (M.1 62 1) then (if s2.1 = 0 then (some (.inl (0, s2.2 + 1))) else ((f_Model_has a0 s2.2 M).bind fun v3 => if v3 = 0 then (some (.inl (1, s2.2 + 1))) else ((f_Model_isLess s1.2 s2.2 M).bind fun v4 => if v4 = 0 then (some (.inl (1, s2.2 + 1))) else ((f_Model_has a0 s1.2 M).bind fun v5 => if v5 = 0 then (some (.inl (0, s2.2 + 1))) else (some (.inl (1, s2.2 + 1))))))) else (some (.inr (s2.1, s2.2))) : Option ((Int32 × Int32) ⊕ (Int32 × Int32)))) (s1.1, 0)).bind fun (y11 : Int32 × Int32) => some (.inl (y11.1, s1.2 + 1))) else (some (.inr (s1.1, s1.2))) : Option ((Int32 × Int32) ⊕ (Int32 × Int32)))) (1, 0)).bind fun (y13 : Int32 × Int32) => oz_z y13.1
set_option maxRecDepth 20000 in
set_option maxHeartbeats 4000000 in
theorem c_Model_isClosed {l : Launch} {D : va_G} {cs : Nat → ClassId} {b : Nat} {a0 : Int32} {M : oz_M} {vz : Int32} (hF : f_Model_isClosed a0 M = some vz) : oz_Met l D cs b y_Model_isClosed prog_10_method_27_code 5 (some .boolean) (oz_rm 1) [.ref (b + 62), .int a0] M (some (.int vz)) M := by
  refine oz_enter (by decide) (Nat.le_of_ble_eq_true rfl) (fun G cx hR e1 hRm e2 e3 e4 hnL => ?_)
  subst e1; subst e2; subst e3; subst e4
  refine (?_ : oz_R G 0 [(0, .ref (oz_b G + 62)), (1, .int a0)] [] M (f_Model_isClosed a0 M) (fun x => x = vz)) _ hF rfl
  unfold f_Model_isClosed
  refine oz_iconst (q := 1) cx d_Model_isClosed_0 rfl (v := 1) rfl ?_
  refine oz_istore_n (q := 2) cx d_Model_isClosed_1 rfl rfl (by rw [hnL]; decide) (lv2 := [(2, .int 1), (0, .ref (oz_b G + 62)), (1, .int a0)]) rfl ?_
  refine oz_iconst (q := 3) cx d_Model_isClosed_2 rfl (v := 0) rfl ?_
  refine oz_istore_n (q := 4) cx d_Model_isClosed_3 rfl rfl (by rw [hnL]; decide) (lv2 := [(3, .int 0), (2, .int 1), (0, .ref (oz_b G + 62)), (1, .int a0)]) rfl ?_
  refine oz_lv [2, 3, 1, 0] rfl ?_
  refine oz_seq (p2 := 73) (lv2 := fun (y13 : Int32 × Int32) => [(2, .int y13.1)]) (st2 := fun y13 => []) (M2 := fun y13 => M) ?_ (fun y13 => ?_)
  · refine oz_loop (Y := Int32 × Int32) 4 (fun (s1 : Int32 × Int32) => [(0, .ref (oz_b G + 62)), (1, .int a0), (2, .int s1.1), (3, .int s1.2)]) (fun (s1 : Int32 × Int32) => M) (1, 0) (fun s1 => ?_)
    refine oz_iload_n (q := 5) cx d_Model_isClosed_4 rfl rfl 3 rfl ?_
    refine oz_aload_n (q := 6) cx d_Model_isClosed_5 rfl rfl 0 rfl ?_
    refine oz_get (q := 9) cx 62 1 (by decide) (ci := 8) rfl rfl tin_Model (by decide) rfl rfl tw_787 d_Model_isClosed_6 rfl ?_
    refine oz_icmp_ge (q := 12) cx d_Model_isClosed_9 rfl rfl (fun h12 => ?_) (fun h12 => ?_)
    · exact oz_lv [2] rfl (oz_leaf (fun h => h))
    · refine oz_iconst (q := 13) cx d_Model_isClosed_12 rfl (v := 0) rfl ?_
      refine oz_istore (q := 15) cx d_Model_isClosed_13 rfl (by rw [hnL]; decide) (lv2 := [(4, .int 0), (0, .ref (oz_b G + 62)), (1, .int a0), (2, .int s1.1), (3, .int s1.2)]) rfl ?_
      refine oz_lv [1, 2, 3, 4, 0] rfl ?_
      refine oz_seq (p2 := 67) (lv2 := fun (y11 : Int32 × Int32) => [(0, .ref (oz_b G + 62)), (1, .int a0), (2, .int y11.1), (3, .int s1.2)]) (st2 := fun y11 => []) (M2 := fun y11 => M) ?_ (fun y11 => ?_)
      · refine oz_loop (Y := Int32 × Int32) 15 (fun (s2 : Int32 × Int32) => [(0, .ref (oz_b G + 62)), (1, .int a0), (2, .int s2.1), (3, .int s1.2), (4, .int s2.2)]) (fun (s2 : Int32 × Int32) => M) (s1.1, 0) (fun s2 => ?_)
        refine oz_iload (q := 17) cx d_Model_isClosed_15 rfl 4 rfl ?_
        refine oz_aload_n (q := 18) cx d_Model_isClosed_17 rfl rfl 0 rfl ?_
        refine oz_get (q := 21) cx 62 1 (by decide) (ci := 8) rfl rfl tin_Model (by decide) rfl rfl tw_787 d_Model_isClosed_18 rfl ?_
        refine oz_icmp_ge (q := 24) cx d_Model_isClosed_21 rfl rfl (fun h10 => ?_) (fun h10 => ?_)
        · exact oz_lv [0, 1, 2, 3] rfl (oz_leaf (fun h => h))
        · refine oz_iload_n (q := 25) cx d_Model_isClosed_24 rfl rfl 2 rfl ?_
          refine oz_if_eq (q := 28) cx d_Model_isClosed_25 rfl rfl (fun h9 => ?_) (fun h9 => ?_)
          · refine oz_iconst (q := 60) cx d_Model_isClosed_59 rfl (v := 0) rfl ?_
            refine oz_istore_n (q := 61) cx d_Model_isClosed_60 rfl rfl (by rw [hnL]; decide) (lv2 := [(2, .int 0), (0, .ref (oz_b G + 62)), (1, .int a0), (3, .int s1.2), (4, .int s2.2)]) rfl ?_
            refine oz_iinc (q := 64) cx (s2.2 + 1) d_Model_isClosed_61 rfl 4 rfl rfl (by rw [hnL]; decide) (lv2 := [(4, .int (s2.2 + 1)), (2, .int 0), (0, .ref (oz_b G + 62)), (1, .int a0), (3, .int s1.2)]) rfl ?_
            refine oz_goto cx d_Model_isClosed_64 rfl ?_
            exact oz_lv [2, 3, 1, 4, 0] rfl (oz_leaf (fun h => h))
          · refine oz_iload_n (q := 29) cx d_Model_isClosed_28 rfl rfl 1 rfl ?_
            refine oz_iload (q := 31) cx d_Model_isClosed_29 rfl 4 rfl ?_
            refine oz_cSip (q := 34) cx [.int a0, .int s2.2] 2 hRm (by decide) (by decide) (fun _ h => c_Model_has h) ⟨tw_922, tw_923, tw_9⟩ tw_924 (by decide +kernel) rfl (st := []) rfl (Nat.le_of_ble_eq_true rfl) d_Model_isClosed_31 rfl (fun v3 hv3 => ?_)
            refine oz_if_eq (q := 37) cx d_Model_isClosed_34 rfl rfl (fun h8 => ?_) (fun h8 => ?_)
            · refine oz_iconst (q := 56) cx d_Model_isClosed_55 rfl (v := 1) rfl ?_
              refine oz_goto cx d_Model_isClosed_56 rfl ?_
              refine oz_istore_n (q := 61) cx d_Model_isClosed_60 rfl rfl (by rw [hnL]; decide) (lv2 := [(2, .int 1), (0, .ref (oz_b G + 62)), (1, .int a0), (3, .int s1.2), (4, .int s2.2)]) rfl ?_
              refine oz_iinc (q := 64) cx (s2.2 + 1) d_Model_isClosed_61 rfl 4 rfl rfl (by rw [hnL]; decide) (lv2 := [(4, .int (s2.2 + 1)), (2, .int 1), (0, .ref (oz_b G + 62)), (1, .int a0), (3, .int s1.2)]) rfl ?_
              refine oz_goto cx d_Model_isClosed_64 rfl ?_
              exact oz_lv [2, 3, 1, 4, 0] rfl (oz_leaf (fun h => h))
            · refine oz_aload_n (q := 38) cx d_Model_isClosed_37 rfl rfl 0 rfl ?_
              refine oz_iload_n (q := 39) cx d_Model_isClosed_38 rfl rfl 3 rfl ?_
              refine oz_iload (q := 41) cx d_Model_isClosed_39 rfl 4 rfl ?_
              refine oz_cVip (q := 44) cx 62 [.int s1.2, .int s2.2] 2 8 hRm (by decide) (by decide) (fun _ h => c_Model_isLess h) ⟨tw_871, tw_873, ts_33, tw_9⟩ tw_874 (by decide +kernel) rfl (by decide) rfl rfl (st := []) rfl (Nat.le_of_ble_eq_true rfl) d_Model_isClosed_41 rfl (fun v4 hv4 => ?_)
              refine oz_if_eq (q := 47) cx d_Model_isClosed_44 rfl rfl (fun h7 => ?_) (fun h7 => ?_)
              · refine oz_iconst (q := 56) cx d_Model_isClosed_55 rfl (v := 1) rfl ?_
                refine oz_goto cx d_Model_isClosed_56 rfl ?_
                refine oz_istore_n (q := 61) cx d_Model_isClosed_60 rfl rfl (by rw [hnL]; decide) (lv2 := [(2, .int 1), (0, .ref (oz_b G + 62)), (1, .int a0), (3, .int s1.2), (4, .int s2.2)]) rfl ?_
                refine oz_iinc (q := 64) cx (s2.2 + 1) d_Model_isClosed_61 rfl 4 rfl rfl (by rw [hnL]; decide) (lv2 := [(4, .int (s2.2 + 1)), (2, .int 1), (0, .ref (oz_b G + 62)), (1, .int a0), (3, .int s1.2)]) rfl ?_
                refine oz_goto cx d_Model_isClosed_64 rfl ?_
                exact oz_lv [2, 3, 1, 4, 0] rfl (oz_leaf (fun h => h))
              · refine oz_iload_n (q := 48) cx d_Model_isClosed_47 rfl rfl 1 rfl ?_
                refine oz_iload_n (q := 49) cx d_Model_isClosed_48 rfl rfl 3 rfl ?_
                refine oz_cSip (q := 52) cx [.int a0, .int s1.2] 2 hRm (by decide) (by decide) (fun _ h => c_Model_has h) ⟨tw_922, tw_923, tw_9⟩ tw_924 (by decide +kernel) rfl (st := []) rfl (Nat.le_of_ble_eq_true rfl) d_Model_isClosed_49 rfl (fun v5 hv5 => ?_)
                refine oz_if_eq (q := 55) cx d_Model_isClosed_52 rfl rfl (fun h6 => ?_) (fun h6 => ?_)
                · refine oz_iconst (q := 60) cx d_Model_isClosed_59 rfl (v := 0) rfl ?_
                  refine oz_istore_n (q := 61) cx d_Model_isClosed_60 rfl rfl (by rw [hnL]; decide) (lv2 := [(2, .int 0), (0, .ref (oz_b G + 62)), (1, .int a0), (3, .int s1.2), (4, .int s2.2)]) rfl ?_
                  refine oz_iinc (q := 64) cx (s2.2 + 1) d_Model_isClosed_61 rfl 4 rfl rfl (by rw [hnL]; decide) (lv2 := [(4, .int (s2.2 + 1)), (2, .int 0), (0, .ref (oz_b G + 62)), (1, .int a0), (3, .int s1.2)]) rfl ?_
                  refine oz_goto cx d_Model_isClosed_64 rfl ?_
                  exact oz_lv [2, 3, 1, 4, 0] rfl (oz_leaf (fun h => h))
                · refine oz_iconst (q := 56) cx d_Model_isClosed_55 rfl (v := 1) rfl ?_
                  refine oz_goto cx d_Model_isClosed_56 rfl ?_
                  refine oz_istore_n (q := 61) cx d_Model_isClosed_60 rfl rfl (by rw [hnL]; decide) (lv2 := [(2, .int 1), (0, .ref (oz_b G + 62)), (1, .int a0), (3, .int s1.2), (4, .int s2.2)]) rfl ?_
                  refine oz_iinc (q := 64) cx (s2.2 + 1) d_Model_isClosed_61 rfl 4 rfl rfl (by rw [hnL]; decide) (lv2 := [(4, .int (s2.2 + 1)), (2, .int 1), (0, .ref (oz_b G + 62)), (1, .int a0), (3, .int s1.2)]) rfl ?_
                  refine oz_goto cx d_Model_isClosed_64 rfl ?_
                  exact oz_lv [2, 3, 1, 4, 0] rfl (oz_leaf (fun h => h))
      · refine oz_iinc (q := 70) cx (s1.2 + 1) d_Model_isClosed_67 rfl 3 rfl rfl (by rw [hnL]; decide) (lv2 := [(3, .int (s1.2 + 1)), (0, .ref (oz_b G + 62)), (1, .int a0), (2, .int y11.1)]) rfl ?_
        refine oz_goto cx d_Model_isClosed_70 rfl ?_
        exact oz_lv [1, 2, 3, 0] rfl (oz_leaf (fun h => h))
  · refine oz_iload_n (q := 74) cx d_Model_isClosed_73 rfl rfl 0 rfl ?_
    exact oz_zretp cx hR d_Model_isClosed_74
