def y_Model_arc : MethodName := ⟨"OrderHallModel", "arc", "(II)I"⟩
theorem d_Model_arc_0 : decode prog_10_method_7_code 0 = .ok (.aload_n 0, 1) := by decide +kernel
theorem d_Model_arc_1 : decode prog_10_method_7_code 1 = .ok (.iload_n 1, 1) := by decide +kernel
theorem d_Model_arc_2 : decode prog_10_method_7_code 2 = .ok (.iload_n 2, 1) := by decide +kernel
theorem d_Model_arc_3 : decode prog_10_method_7_code 3 = .ok (.iconst 1, 1) := by decide +kernel
theorem d_Model_arc_4 : decode prog_10_method_7_code 4 = .ok (.invokevirtual 73, 3) := by decide +kernel
theorem d_Model_arc_7 : decode prog_10_method_7_code 7 = .ok (.ireturn, 1) := by decide +kernel
def f_Model_arc (a0 : Int32) (a1 : Int32) (M : oz_M) : Option (Int32 × oz_M) := oz_b2 (f_Model_setArc a0 a1 1 M) fun v1 M2 => some (v1, M2)
set_option maxRecDepth 20000 in
set_option maxHeartbeats 4000000 in
theorem c_Model_arc {l : Launch} {D : va_G} {cs : Nat → ClassId} {b : Nat} {a0 : Int32} {a1 : Int32} {M : oz_M} {vz : Int32} {Mz : oz_M} (hF : f_Model_arc a0 a1 M = some (vz, Mz)) : oz_Met l D cs b y_Model_arc prog_10_method_7_code 3 (some .int) (oz_rm 2) [.ref (b + 62), .int a0, .int a1] M (some (.int vz)) Mz := by
  refine oz_enter (by decide) (Nat.le_of_ble_eq_true rfl) (fun G cx hR e1 hRm e2 e3 e4 hnL => ?_)
  subst e1; subst e2; subst e3; subst e4
  refine (?_ : oz_R G 0 [(0, .ref (oz_b G + 62)), (1, .int a0), (2, .int a1)] [] M (f_Model_arc a0 a1 M) (fun x => x = (vz, Mz))) _ hF rfl
  unfold f_Model_arc
  refine oz_aload_n (q := 1) cx d_Model_arc_0 rfl rfl 0 rfl ?_
  refine oz_iload_n (q := 2) cx d_Model_arc_1 rfl rfl 1 rfl ?_
  refine oz_iload_n (q := 3) cx d_Model_arc_2 rfl rfl 2 rfl ?_
  refine oz_iconst (q := 4) cx d_Model_arc_3 rfl (v := 1) rfl ?_
  refine oz_cVi (q := 7) cx 62 [.int a0, .int a1, .int 1] 3 8 hRm (by decide) (by decide) (fun _ _ h => c_Model_setArc h) ⟨tw_855, tw_857, ts_31, tw_9⟩ tw_858 (by decide +kernel) rfl (by decide) rfl rfl (st := []) rfl (Nat.le_of_ble_eq_true rfl) d_Model_arc_4 rfl (fun v1 M2 hv1 => ?_)
  exact oz_iret cx hR d_Model_arc_7
def y_Model_closes : MethodName := ⟨"OrderHallModel", "closes", "(II)Z"⟩
theorem d_Model_closes_0 : decode prog_10_method_13_code 0 = .ok (.aload_n 0, 1) := by decide +kernel
theorem d_Model_closes_1 : decode prog_10_method_13_code 1 = .ok (.getfield 20, 3) := by decide +kernel
theorem d_Model_closes_4 : decode prog_10_method_13_code 4 = .ok (.iconst 0, 1) := by decide +kernel
theorem d_Model_closes_5 : decode prog_10_method_13_code 5 = .ok (.iload_n 1, 1) := by decide +kernel
theorem d_Model_closes_6 : decode prog_10_method_13_code 6 = .ok (.iastore, 1) := by decide +kernel
theorem d_Model_closes_7 : decode prog_10_method_13_code 7 = .ok (.iload_n 2, 1) := by decide +kernel
theorem d_Model_closes_8 : decode prog_10_method_13_code 8 = .ok (.iconst 1, 1) := by decide +kernel
theorem d_Model_closes_9 : decode prog_10_method_13_code 9 = .ok (.if_icmp .ne 10, 3) := by decide +kernel
theorem d_Model_closes_12 : decode prog_10_method_13_code 12 = .ok (.aload_n 0, 1) := by decide +kernel
theorem d_Model_closes_13 : decode prog_10_method_13_code 13 = .ok (.iload_n 1, 1) := by decide +kernel
theorem d_Model_closes_14 : decode prog_10_method_13_code 14 = .ok (.iload_n 1, 1) := by decide +kernel
theorem d_Model_closes_15 : decode prog_10_method_13_code 15 = .ok (.invokevirtual 81, 3) := by decide +kernel
theorem d_Model_closes_18 : decode prog_10_method_13_code 18 = .ok (.ireturn, 1) := by decide +kernel
theorem d_Model_closes_19 : decode prog_10_method_13_code 19 = .ok (.iconst 1, 1) := by decide +kernel
theorem d_Model_closes_20 : decode prog_10_method_13_code 20 = .ok (.istore_n 3, 1) := by decide +kernel
theorem d_Model_closes_21 : decode prog_10_method_13_code 21 = .ok (.aload_n 0, 1) := by decide +kernel
theorem d_Model_closes_22 : decode prog_10_method_13_code 22 = .ok (.getfield 38, 3) := by decide +kernel
theorem d_Model_closes_25 : decode prog_10_method_13_code 25 = .ok (.iconst 1, 1) := by decide +kernel
theorem d_Model_closes_26 : decode prog_10_method_13_code 26 = .ok (.iconst 0, 1) := by decide +kernel
theorem d_Model_closes_27 : decode prog_10_method_13_code 27 = .ok (.iastore, 1) := by decide +kernel
theorem d_Model_closes_28 : decode prog_10_method_13_code 28 = .ok (.iload_n 3, 1) := by decide +kernel
theorem d_Model_closes_29 : decode prog_10_method_13_code 29 = .ok (.ifCond .le 107, 3) := by decide +kernel
theorem d_Model_closes_32 : decode prog_10_method_13_code 32 = .ok (.aload_n 0, 1) := by decide +kernel
theorem d_Model_closes_33 : decode prog_10_method_13_code 33 = .ok (.iload_n 3, 1) := by decide +kernel
theorem d_Model_closes_34 : decode prog_10_method_13_code 34 = .ok (.invokevirtual 84, 3) := by decide +kernel
theorem d_Model_closes_37 : decode prog_10_method_13_code 37 = .ok (.istore 4, 2) := by decide +kernel
theorem d_Model_closes_39 : decode prog_10_method_13_code 39 = .ok (.iload 4, 2) := by decide +kernel
theorem d_Model_closes_41 : decode prog_10_method_13_code 41 = .ok (.aload_n 0, 1) := by decide +kernel
theorem d_Model_closes_42 : decode prog_10_method_13_code 42 = .ok (.getfield 7, 3) := by decide +kernel
theorem d_Model_closes_45 : decode prog_10_method_13_code 45 = .ok (.if_icmp .ne 31, 3) := by decide +kernel
theorem d_Model_closes_48 : decode prog_10_method_13_code 48 = .ok (.iinc 3 (-1), 3) := by decide +kernel
theorem d_Model_closes_51 : decode prog_10_method_13_code 51 = .ok (.aload_n 0, 1) := by decide +kernel
theorem d_Model_closes_52 : decode prog_10_method_13_code 52 = .ok (.getfield 38, 3) := by decide +kernel
theorem d_Model_closes_55 : decode prog_10_method_13_code 55 = .ok (.iload_n 3, 1) := by decide +kernel
theorem d_Model_closes_56 : decode prog_10_method_13_code 56 = .ok (.iload_n 3, 1) := by decide +kernel
theorem d_Model_closes_57 : decode prog_10_method_13_code 57 = .ok (.ifCond .le 14, 3) := by decide +kernel
theorem d_Model_closes_60 : decode prog_10_method_13_code 60 = .ok (.aload_n 0, 1) := by decide +kernel
theorem d_Model_closes_61 : decode prog_10_method_13_code 61 = .ok (.getfield 20, 3) := by decide +kernel
theorem d_Model_closes_64 : decode prog_10_method_13_code 64 = .ok (.iload_n 3, 1) := by decide +kernel
theorem d_Model_closes_65 : decode prog_10_method_13_code 65 = .ok (.iaload, 1) := by decide +kernel
theorem d_Model_closes_66 : decode prog_10_method_13_code 66 = .ok (.iconst 1, 1) := by decide +kernel
theorem d_Model_closes_67 : decode prog_10_method_13_code 67 = .ok (.iadd, 1) := by decide +kernel
theorem d_Model_closes_68 : decode prog_10_method_13_code 68 = .ok (.goto 4, 3) := by decide +kernel
theorem d_Model_closes_71 : decode prog_10_method_13_code 71 = .ok (.iconst 0, 1) := by decide +kernel
theorem d_Model_closes_72 : decode prog_10_method_13_code 72 = .ok (.iastore, 1) := by decide +kernel
theorem d_Model_closes_73 : decode prog_10_method_13_code 73 = .ok (.goto 60, 3) := by decide +kernel
theorem d_Model_closes_76 : decode prog_10_method_13_code 76 = .ok (.iload_n 3, 1) := by decide +kernel
theorem d_Model_closes_77 : decode prog_10_method_13_code 77 = .ok (.iload_n 2, 1) := by decide +kernel
theorem d_Model_closes_78 : decode prog_10_method_13_code 78 = .ok (.iconst 1, 1) := by decide +kernel
theorem d_Model_closes_79 : decode prog_10_method_13_code 79 = .ok (.isub, 1) := by decide +kernel
theorem d_Model_closes_80 : decode prog_10_method_13_code 80 = .ok (.if_icmp .ne 26, 3) := by decide +kernel
theorem d_Model_closes_83 : decode prog_10_method_13_code 83 = .ok (.aload_n 0, 1) := by decide +kernel
theorem d_Model_closes_84 : decode prog_10_method_13_code 84 = .ok (.iload 4, 2) := by decide +kernel
theorem d_Model_closes_86 : decode prog_10_method_13_code 86 = .ok (.iload_n 1, 1) := by decide +kernel
theorem d_Model_closes_87 : decode prog_10_method_13_code 87 = .ok (.invokevirtual 81, 3) := by decide +kernel
theorem d_Model_closes_90 : decode prog_10_method_13_code 90 = .ok (.ifCond .ne 16, 3) := by decide +kernel
theorem d_Model_closes_93 : decode prog_10_method_13_code 93 = .ok (.aload_n 0, 1) := by decide +kernel
theorem d_Model_closes_94 : decode prog_10_method_13_code 94 = .ok (.getfield 38, 3) := by decide +kernel
theorem d_Model_closes_97 : decode prog_10_method_13_code 97 = .ok (.iload_n 3, 1) := by decide +kernel
theorem d_Model_closes_98 : decode prog_10_method_13_code 98 = .ok (.iload 4, 2) := by decide +kernel
theorem d_Model_closes_100 : decode prog_10_method_13_code 100 = .ok (.iconst 1, 1) := by decide +kernel
theorem d_Model_closes_101 : decode prog_10_method_13_code 101 = .ok (.iadd, 1) := by decide +kernel
theorem d_Model_closes_102 : decode prog_10_method_13_code 102 = .ok (.iastore, 1) := by decide +kernel
theorem d_Model_closes_103 : decode prog_10_method_13_code 103 = .ok (.goto 30, 3) := by decide +kernel
theorem d_Model_closes_106 : decode prog_10_method_13_code 106 = .ok (.aload_n 0, 1) := by decide +kernel
theorem d_Model_closes_107 : decode prog_10_method_13_code 107 = .ok (.getfield 20, 3) := by decide +kernel
theorem d_Model_closes_110 : decode prog_10_method_13_code 110 = .ok (.iload_n 3, 1) := by decide +kernel
theorem d_Model_closes_111 : decode prog_10_method_13_code 111 = .ok (.iload 4, 2) := by decide +kernel
theorem d_Model_closes_113 : decode prog_10_method_13_code 113 = .ok (.iastore, 1) := by decide +kernel
theorem d_Model_closes_114 : decode prog_10_method_13_code 114 = .ok (.iload_n 3, 1) := by decide +kernel
theorem d_Model_closes_115 : decode prog_10_method_13_code 115 = .ok (.iload_n 2, 1) := by decide +kernel
theorem d_Model_closes_116 : decode prog_10_method_13_code 116 = .ok (.iconst 1, 1) := by decide +kernel
theorem d_Model_closes_117 : decode prog_10_method_13_code 117 = .ok (.isub, 1) := by decide +kernel
theorem d_Model_closes_118 : decode prog_10_method_13_code 118 = .ok (.if_icmp .ne 5, 3) := by decide +kernel
theorem d_Model_closes_121 : decode prog_10_method_13_code 121 = .ok (.iconst 1, 1) := by decide +kernel
theorem d_Model_closes_122 : decode prog_10_method_13_code 122 = .ok (.ireturn, 1) := by decide +kernel
theorem d_Model_closes_123 : decode prog_10_method_13_code 123 = .ok (.iinc 3 1, 3) := by decide +kernel
theorem d_Model_closes_126 : decode prog_10_method_13_code 126 = .ok (.aload_n 0, 1) := by decide +kernel
theorem d_Model_closes_127 : decode prog_10_method_13_code 127 = .ok (.getfield 38, 3) := by decide +kernel
theorem d_Model_closes_130 : decode prog_10_method_13_code 130 = .ok (.iload_n 3, 1) := by decide +kernel
theorem d_Model_closes_131 : decode prog_10_method_13_code 131 = .ok (.iconst 0, 1) := by decide +kernel
theorem d_Model_closes_132 : decode prog_10_method_13_code 132 = .ok (.iastore, 1) := by decide +kernel
theorem d_Model_closes_133 : decode prog_10_method_13_code 133 = .ok (.goto (-105), 3) := by decide +kernel
theorem d_Model_closes_136 : decode prog_10_method_13_code 136 = .ok (.iconst 0, 1) := by decide +kernel
theorem d_Model_closes_137 : decode prog_10_method_13_code 137 = .ok (.ireturn, 1) := by decide +kernel
noncomputable def f_Model_closes (a0 : Int32) (a1 : Int32) (M : oz_M) : Option (Int32 × oz_M) := (oz_in 0 14).bind fun j1 => (some (oz_s M 65 j1 a0)).bind fun M2 => if a1 = 1 then ((f_Model_isArc a0 a0 M2).bind fun v32 => (oz_z v32).bind fun z => some (z, M2)) else ((oz_in 1 15).bind fun j3 => (some (oz_s M2 70 j3 0)).bind fun M4 => (oz_lp (fun (s5 : Int32 × oz_M) => (if 0 < s5.1 then ((f_Model_firstAt s5.1 s5.2).bind fun v6 => if v6 = (s5.2.1 62 1) then (if 0 < (s5.1 + (-1)) then ((oz_in (s5.1 + (-1)) 14).bind fun j24 => (oz_in (s5.1 + (-1)) 15).bind fun j25 => (some (oz_s s5.2 70 j25 ((s5.2.1 65 j24) + 1))).bind fun M26 => some (.inl (s5.1 + (-1), M26))) else ((oz_in (s5.1 + (-1)) 15).bind fun j22 => (some (oz_s s5.2 70 j22 0)).bind fun M23 => some (.inl (s5.1 + (-1), M23)))) else (if s5.1 = (a1 - 1) then ((f_Model_isArc v6 a0 s5.2).bind fun v12 => if v12 = 0 then ((oz_in s5.1 15).bind fun j18 => (some (oz_s s5.2 70 j18 (v6 + 1))).bind fun M19 => some (.inl (s5.1, M19))) else ((oz_in s5.1 14).bind fun j13 => (some (oz_s s5.2 65 j13 v6)).bind fun M14 => if s5.1 = (a1 - 1) then (((oz_z 1).bind fun z => some (z, M14)).bind fun z => some (.inr (.inr z))) else ((oz_in (s5.1 + 1) 15).bind fun j15 => (some (oz_s M14 70 j15 0)).bind fun M16 => some (.inl (s5.1 + 1, M16))))) else ((oz_in s5.1 14).bind fun j7 => (some (oz_s s5.2 65 j7 v6)).bind fun M8 => if s5.1 = (a1 - 1) then (((oz_z 1).bind fun z => some (z, M8)).bind fun z => some (.inr (.inr z))) else ((oz_in (s5.1 + 1) 15).bind fun j9 => (some (oz_s M8 70 j9 0)).bind fun M10 => some (.inl (s5.1 + 1, M10)))))) else (some (.inr (.inl (s5.1, s5.2)))) : Option ((Int32 × oz_M) ⊕ ((Int32 × oz_M) ⊕ (Int32 × oz_M))))) (1, M4)).bind (oz_el (fun (y30 : Int32 × oz_M) => (oz_z 0).bind fun z => some (z, y30.2)) (fun r31 => some (r31))))
set_option maxRecDepth 20000 in
set_option maxHeartbeats 4000000 in
theorem c_Model_closes {l : Launch} {D : va_G} {cs : Nat → ClassId} {b : Nat} {a0 : Int32} {a1 : Int32} {M : oz_M} {vz : Int32} {Mz : oz_M} (hF : f_Model_closes a0 a1 M = some (vz, Mz)) : oz_Met l D cs b y_Model_closes prog_10_method_13_code 5 (some .boolean) (oz_rm 2) [.ref (b + 62), .int a0, .int a1] M (some (.int vz)) Mz := by
  refine oz_enter (by decide) (Nat.le_of_ble_eq_true rfl) (fun G cx hR e1 hRm e2 e3 e4 hnL => ?_)
  subst e1; subst e2; subst e3; subst e4
  refine (?_ : oz_R G 0 [(0, .ref (oz_b G + 62)), (1, .int a0), (2, .int a1)] [] M (f_Model_closes a0 a1 M) (fun x => x = (vz, Mz))) _ hF rfl
  unfold f_Model_closes
  refine oz_aload_n (q := 1) cx d_Model_closes_0 rfl rfl 0 rfl ?_
  refine oz_get (q := 4) cx 62 5 (by decide) (ci := 8) rfl rfl tin_Model (by decide) rfl rfl tw_791 d_Model_closes_1 rfl ?_
  refine oz_iconst (q := 5) cx d_Model_closes_4 rfl (v := 0) rfl ?_
  refine oz_iload_n (q := 6) cx d_Model_closes_5 rfl rfl 1 rfl ?_
  refine oz_iast (q := 7) cx 65 14 (by decide) (fun _ => rfl) d_Model_closes_6 rfl (fun j1 hj1 => ?_)
  refine oz_nm (fun M2 hM2 => ?_)
  refine oz_iload_n (q := 8) cx d_Model_closes_7 rfl rfl 2 rfl ?_
  refine oz_iconst (q := 9) cx d_Model_closes_8 rfl (v := 1) rfl ?_
  refine oz_icmp_ne (q := 12) cx d_Model_closes_9 rfl rfl (fun h33 => ?_) (fun h33 => ?_)
  · refine oz_iconst (q := 20) cx d_Model_closes_19 rfl (v := 1) rfl ?_
    refine oz_istore_n (q := 21) cx d_Model_closes_20 rfl rfl (by rw [hnL]; decide) (lv2 := [(3, .int 1), (0, .ref (oz_b G + 62)), (1, .int a0), (2, .int a1)]) rfl ?_
    refine oz_aload_n (q := 22) cx d_Model_closes_21 rfl rfl 1 rfl ?_
    refine oz_get (q := 25) cx 62 13 (by decide) (ci := 8) rfl rfl tin_Model (by decide) rfl rfl tw_799 d_Model_closes_22 rfl ?_
    refine oz_iconst (q := 26) cx d_Model_closes_25 rfl (v := 1) rfl ?_
    refine oz_iconst (q := 27) cx d_Model_closes_26 rfl (v := 0) rfl ?_
    refine oz_iast (q := 28) cx 70 15 (by decide) (fun _ => rfl) d_Model_closes_27 rfl (fun j3 hj3 => ?_)
    refine oz_nm (fun M4 hM4 => ?_)
    refine oz_lv [1, 2, 3, 0] rfl ?_
    refine oz_seqE (p2 := 136) (lv2 := fun (y30 : Int32 × oz_M) => []) (M2 := fun y30 => y30.2) (fun x => x = (vz, Mz)) ?_ (fun y30 => ?_) (fun _ _ hx hK => by cases hx; exact hK)
    · refine oz_loop (Y := (Int32 × oz_M) ⊕ (Int32 × oz_M)) 28 (fun (s5 : Int32 × oz_M) => [(0, .ref (oz_b G + 62)), (1, .int a0), (2, .int a1), (3, .int s5.1)]) (fun (s5 : Int32 × oz_M) => s5.2) (1, M4) (fun s5 => ?_)
      refine oz_iload_n (q := 29) cx d_Model_closes_28 rfl rfl 3 rfl ?_
      refine oz_if_le (q := 32) cx d_Model_closes_29 rfl rfl (fun h29 => ?_) (fun h29 => ?_)
      · exact oz_lv [] rfl (oz_leaf (fun h => h))
      · refine oz_aload_n (q := 33) cx d_Model_closes_32 rfl rfl 0 rfl ?_
        refine oz_iload_n (q := 34) cx d_Model_closes_33 rfl rfl 3 rfl ?_
        refine oz_cVip (q := 37) cx 62 [.int s5.1] 1 8 hRm (by decide) (by decide) (fun _ h => c_Model_firstAt h) ⟨tw_887, tw_889, ts_37, tw_9⟩ tw_890 (by decide +kernel) rfl (by decide) rfl rfl (st := []) rfl (Nat.le_of_ble_eq_true rfl) d_Model_closes_34 rfl (fun v6 hv6 => ?_)
        refine oz_istore (q := 39) cx d_Model_closes_37 rfl (by rw [hnL]; decide) (lv2 := [(4, .int v6), (0, .ref (oz_b G + 62)), (1, .int a0), (2, .int a1), (3, .int s5.1)]) rfl ?_
        refine oz_iload (q := 41) cx d_Model_closes_39 rfl 0 rfl ?_
        refine oz_aload_n (q := 42) cx d_Model_closes_41 rfl rfl 1 rfl ?_
        refine oz_get (q := 45) cx 62 1 (by decide) (ci := 8) rfl rfl tin_Model (by decide) rfl rfl tw_787 d_Model_closes_42 rfl ?_
        refine oz_icmp_ne (q := 48) cx d_Model_closes_45 rfl rfl (fun h28 => ?_) (fun h28 => ?_)
        · refine oz_iload_n (q := 77) cx d_Model_closes_76 rfl rfl 4 rfl ?_
          refine oz_iload_n (q := 78) cx d_Model_closes_77 rfl rfl 3 rfl ?_
          refine oz_iconst (q := 79) cx d_Model_closes_78 rfl (v := 1) rfl ?_
          refine oz_isub (q := 80) cx d_Model_closes_79 rfl ?_
          refine oz_icmp_ne (q := 83) cx d_Model_closes_80 rfl rfl (fun h21 => ?_) (fun h21 => ?_)
          · refine oz_aload_n (q := 107) cx d_Model_closes_106 rfl rfl 1 rfl ?_
            refine oz_get (q := 110) cx 62 5 (by decide) (ci := 8) rfl rfl tin_Model (by decide) rfl rfl tw_791 d_Model_closes_107 rfl ?_
            refine oz_iload_n (q := 111) cx d_Model_closes_110 rfl rfl 4 rfl ?_
            refine oz_iload (q := 113) cx d_Model_closes_111 rfl 0 rfl ?_
            refine oz_iast (q := 114) cx 65 14 (by decide) (fun _ => rfl) d_Model_closes_113 rfl (fun j7 hj7 => ?_)
            refine oz_nm (fun M8 hM8 => ?_)
            refine oz_iload_n (q := 115) cx d_Model_closes_114 rfl rfl 4 rfl ?_
            refine oz_iload_n (q := 116) cx d_Model_closes_115 rfl rfl 3 rfl ?_
            refine oz_iconst (q := 117) cx d_Model_closes_116 rfl (v := 1) rfl ?_
            refine oz_isub (q := 118) cx d_Model_closes_117 rfl ?_
            refine oz_icmp_ne (q := 121) cx d_Model_closes_118 rfl rfl (fun h11 => ?_) (fun h11 => ?_)
            · refine oz_iinc (q := 126) cx (s5.1 + 1) d_Model_closes_123 rfl 4 rfl rfl (by rw [hnL]; decide) (lv2 := [(3, .int (s5.1 + 1)), (4, .int v6), (0, .ref (oz_b G + 62)), (1, .int a0), (2, .int a1)]) rfl ?_
              refine oz_aload_n (q := 127) cx d_Model_closes_126 rfl rfl 2 rfl ?_
              refine oz_get (q := 130) cx 62 13 (by decide) (ci := 8) rfl rfl tin_Model (by decide) rfl rfl tw_799 d_Model_closes_127 rfl ?_
              refine oz_iload_n (q := 131) cx d_Model_closes_130 rfl rfl 0 rfl ?_
              refine oz_iconst (q := 132) cx d_Model_closes_131 rfl (v := 0) rfl ?_
              refine oz_iast (q := 133) cx 70 15 (by decide) (fun _ => rfl) d_Model_closes_132 rfl (fun j9 hj9 => ?_)
              refine oz_nm (fun M10 hM10 => ?_)
              refine oz_goto cx d_Model_closes_133 rfl ?_
              exact oz_lv [2, 3, 4, 0] rfl (oz_leaf (fun h => h))
            · refine oz_iconst (q := 122) cx d_Model_closes_121 rfl (v := 1) rfl ?_
              exact oz_wrapz (oz_zret cx hR d_Model_closes_122) (fun _ h => h)
          · refine oz_aload_n (q := 84) cx d_Model_closes_83 rfl rfl 1 rfl ?_
            refine oz_iload (q := 86) cx d_Model_closes_84 rfl 0 rfl ?_
            refine oz_iload_n (q := 87) cx d_Model_closes_86 rfl rfl 2 rfl ?_
            refine oz_cVip (q := 90) cx 62 [.int v6, .int a0] 2 8 hRm (by decide) (by decide) (fun _ h => c_Model_isArc h) ⟨tw_883, tw_885, ts_36, tw_9⟩ tw_886 (by decide +kernel) rfl (by decide) rfl rfl (st := []) rfl (Nat.le_of_ble_eq_true rfl) d_Model_closes_87 rfl (fun v12 hv12 => ?_)
            refine oz_if_ne (q := 93) cx d_Model_closes_90 rfl rfl (fun h20 => ?_) (fun h20 => ?_)
            · refine oz_aload_n (q := 107) cx d_Model_closes_106 rfl rfl 1 rfl ?_
              refine oz_get (q := 110) cx 62 5 (by decide) (ci := 8) rfl rfl tin_Model (by decide) rfl rfl tw_791 d_Model_closes_107 rfl ?_
              refine oz_iload_n (q := 111) cx d_Model_closes_110 rfl rfl 4 rfl ?_
              refine oz_iload (q := 113) cx d_Model_closes_111 rfl 0 rfl ?_
              refine oz_iast (q := 114) cx 65 14 (by decide) (fun _ => rfl) d_Model_closes_113 rfl (fun j13 hj13 => ?_)
              refine oz_nm (fun M14 hM14 => ?_)
              refine oz_iload_n (q := 115) cx d_Model_closes_114 rfl rfl 4 rfl ?_
              refine oz_iload_n (q := 116) cx d_Model_closes_115 rfl rfl 3 rfl ?_
              refine oz_iconst (q := 117) cx d_Model_closes_116 rfl (v := 1) rfl ?_
              refine oz_isub (q := 118) cx d_Model_closes_117 rfl ?_
              refine oz_icmp_ne (q := 121) cx d_Model_closes_118 rfl rfl (fun h17 => ?_) (fun h17 => ?_)
              · refine oz_iinc (q := 126) cx (s5.1 + 1) d_Model_closes_123 rfl 4 rfl rfl (by rw [hnL]; decide) (lv2 := [(3, .int (s5.1 + 1)), (4, .int v6), (0, .ref (oz_b G + 62)), (1, .int a0), (2, .int a1)]) rfl ?_
                refine oz_aload_n (q := 127) cx d_Model_closes_126 rfl rfl 2 rfl ?_
                refine oz_get (q := 130) cx 62 13 (by decide) (ci := 8) rfl rfl tin_Model (by decide) rfl rfl tw_799 d_Model_closes_127 rfl ?_
                refine oz_iload_n (q := 131) cx d_Model_closes_130 rfl rfl 0 rfl ?_
                refine oz_iconst (q := 132) cx d_Model_closes_131 rfl (v := 0) rfl ?_
                refine oz_iast (q := 133) cx 70 15 (by decide) (fun _ => rfl) d_Model_closes_132 rfl (fun j15 hj15 => ?_)
                refine oz_nm (fun M16 hM16 => ?_)
                refine oz_goto cx d_Model_closes_133 rfl ?_
                exact oz_lv [2, 3, 4, 0] rfl (oz_leaf (fun h => h))
              · refine oz_iconst (q := 122) cx d_Model_closes_121 rfl (v := 1) rfl ?_
                exact oz_wrapz (oz_zret cx hR d_Model_closes_122) (fun _ h => h)
            · refine oz_aload_n (q := 94) cx d_Model_closes_93 rfl rfl 1 rfl ?_
              refine oz_get (q := 97) cx 62 13 (by decide) (ci := 8) rfl rfl tin_Model (by decide) rfl rfl tw_799 d_Model_closes_94 rfl ?_
              refine oz_iload_n (q := 98) cx d_Model_closes_97 rfl rfl 4 rfl ?_
              refine oz_iload (q := 100) cx d_Model_closes_98 rfl 0 rfl ?_
              refine oz_iconst (q := 101) cx d_Model_closes_100 rfl (v := 1) rfl ?_
              refine oz_iadd (q := 102) cx d_Model_closes_101 rfl ?_
              refine oz_iast (q := 103) cx 70 15 (by decide) (fun _ => rfl) d_Model_closes_102 rfl (fun j18 hj18 => ?_)
              refine oz_nm (fun M19 hM19 => ?_)
              refine oz_goto cx d_Model_closes_103 rfl ?_
              refine oz_goto cx d_Model_closes_133 rfl ?_
              exact oz_lv [1, 2, 3, 4] rfl (oz_leaf (fun h => h))
        · refine oz_iinc (q := 51) cx (s5.1 + (-1)) d_Model_closes_48 rfl 4 rfl rfl (by rw [hnL]; decide) (lv2 := [(3, .int (s5.1 + (-1))), (4, .int v6), (0, .ref (oz_b G + 62)), (1, .int a0), (2, .int a1)]) rfl ?_
          refine oz_aload_n (q := 52) cx d_Model_closes_51 rfl rfl 2 rfl ?_
          refine oz_get (q := 55) cx 62 13 (by decide) (ci := 8) rfl rfl tin_Model (by decide) rfl rfl tw_799 d_Model_closes_52 rfl ?_
          refine oz_iload_n (q := 56) cx d_Model_closes_55 rfl rfl 0 rfl ?_
          refine oz_iload_n (q := 57) cx d_Model_closes_56 rfl rfl 0 rfl ?_
          refine oz_if_le (q := 60) cx d_Model_closes_57 rfl rfl (fun h27 => ?_) (fun h27 => ?_)
          · refine oz_iconst (q := 72) cx d_Model_closes_71 rfl (v := 0) rfl ?_
            refine oz_iast (q := 73) cx 70 15 (by decide) (fun _ => rfl) d_Model_closes_72 rfl (fun j22 hj22 => ?_)
            refine oz_nm (fun M23 hM23 => ?_)
            refine oz_goto cx d_Model_closes_73 rfl ?_
            refine oz_goto cx d_Model_closes_133 rfl ?_
            exact oz_lv [2, 3, 4, 0] rfl (oz_leaf (fun h => h))
          · refine oz_aload_n (q := 61) cx d_Model_closes_60 rfl rfl 2 rfl ?_
            refine oz_get (q := 64) cx 62 5 (by decide) (ci := 8) rfl rfl tin_Model (by decide) rfl rfl tw_791 d_Model_closes_61 rfl ?_
            refine oz_iload_n (q := 65) cx d_Model_closes_64 rfl rfl 0 rfl ?_
            refine oz_iald (q := 66) cx 65 14 (by decide) rfl d_Model_closes_65 rfl (fun j24 hj24 => ?_)
            refine oz_iconst (q := 67) cx d_Model_closes_66 rfl (v := 1) rfl ?_
            refine oz_iadd (q := 68) cx d_Model_closes_67 rfl ?_
            refine oz_goto cx d_Model_closes_68 rfl ?_
            refine oz_iast (q := 73) cx 70 15 (by decide) (fun _ => rfl) d_Model_closes_72 rfl (fun j25 hj25 => ?_)
            refine oz_nm (fun M26 hM26 => ?_)
            refine oz_goto cx d_Model_closes_73 rfl ?_
            refine oz_goto cx d_Model_closes_133 rfl ?_
            exact oz_lv [2, 3, 4, 0] rfl (oz_leaf (fun h => h))
    · refine oz_iconst (q := 137) cx d_Model_closes_136 rfl (v := 0) rfl ?_
      exact oz_zret cx hR d_Model_closes_137
  · refine oz_aload_n (q := 13) cx d_Model_closes_12 rfl rfl 0 rfl ?_
    refine oz_iload_n (q := 14) cx d_Model_closes_13 rfl rfl 1 rfl ?_
    refine oz_iload_n (q := 15) cx d_Model_closes_14 rfl rfl 1 rfl ?_
    refine oz_cVip (q := 18) cx 62 [.int a0, .int a0] 2 8 hRm (by decide) (by decide) (fun _ h => c_Model_isArc h) ⟨tw_883, tw_885, ts_36, tw_9⟩ tw_886 (by decide +kernel) rfl (by decide) rfl rfl (st := []) rfl (Nat.le_of_ble_eq_true rfl) d_Model_closes_15 rfl (fun v32 hv32 => ?_)
    exact oz_zret cx hR d_Model_closes_18
def y_Model_drop : MethodName := ⟨"OrderHallModel", "drop", "(II)I"⟩
theorem d_Model_drop_0 : decode prog_10_method_8_code 0 = .ok (.aload_n 0, 1) := by decide +kernel
theorem d_Model_drop_1 : decode prog_10_method_8_code 1 = .ok (.iload_n 1, 1) := by decide +kernel
theorem d_Model_drop_2 : decode prog_10_method_8_code 2 = .ok (.iload_n 2, 1) := by decide +kernel
theorem d_Model_drop_3 : decode prog_10_method_8_code 3 = .ok (.iconst 0, 1) := by decide +kernel
theorem d_Model_drop_4 : decode prog_10_method_8_code 4 = .ok (.invokevirtual 73, 3) := by decide +kernel
theorem d_Model_drop_7 : decode prog_10_method_8_code 7 = .ok (.ireturn, 1) := by decide +kernel
def f_Model_drop (a0 : Int32) (a1 : Int32) (M : oz_M) : Option (Int32 × oz_M) := oz_b2 (f_Model_setArc a0 a1 0 M) fun v1 M2 => some (v1, M2)
set_option maxRecDepth 20000 in
set_option maxHeartbeats 4000000 in
theorem c_Model_drop {l : Launch} {D : va_G} {cs : Nat → ClassId} {b : Nat} {a0 : Int32} {a1 : Int32} {M : oz_M} {vz : Int32} {Mz : oz_M} (hF : f_Model_drop a0 a1 M = some (vz, Mz)) : oz_Met l D cs b y_Model_drop prog_10_method_8_code 3 (some .int) (oz_rm 2) [.ref (b + 62), .int a0, .int a1] M (some (.int vz)) Mz := by
  refine oz_enter (by decide) (Nat.le_of_ble_eq_true rfl) (fun G cx hR e1 hRm e2 e3 e4 hnL => ?_)
  subst e1; subst e2; subst e3; subst e4
  refine (?_ : oz_R G 0 [(0, .ref (oz_b G + 62)), (1, .int a0), (2, .int a1)] [] M (f_Model_drop a0 a1 M) (fun x => x = (vz, Mz))) _ hF rfl
  unfold f_Model_drop
  refine oz_aload_n (q := 1) cx d_Model_drop_0 rfl rfl 0 rfl ?_
  refine oz_iload_n (q := 2) cx d_Model_drop_1 rfl rfl 1 rfl ?_
  refine oz_iload_n (q := 3) cx d_Model_drop_2 rfl rfl 2 rfl ?_
  refine oz_iconst (q := 4) cx d_Model_drop_3 rfl (v := 0) rfl ?_
  refine oz_cVi (q := 7) cx 62 [.int a0, .int a1, .int 0] 3 8 hRm (by decide) (by decide) (fun _ _ h => c_Model_setArc h) ⟨tw_855, tw_857, ts_31, tw_9⟩ tw_858 (by decide +kernel) rfl (by decide) rfl rfl (st := []) rfl (Nat.le_of_ble_eq_true rfl) d_Model_drop_4 rfl (fun v1 M2 hv1 => ?_)
  exact oz_iret cx hR d_Model_drop_7
def y_Model_exchange : MethodName := ⟨"OrderHallModel", "exchange", "(I)I"⟩
theorem d_Model_exchange_0 : decode prog_10_method_40_code 0 = .ok (.aload_n 0, 1) := by decide +kernel
theorem d_Model_exchange_1 : decode prog_10_method_40_code 1 = .ok (.iconst 0, 1) := by decide +kernel
theorem d_Model_exchange_2 : decode prog_10_method_40_code 2 = .ok (.putfield 50, 3) := by decide +kernel
theorem d_Model_exchange_5 : decode prog_10_method_40_code 5 = .ok (.aload_n 0, 1) := by decide +kernel
theorem d_Model_exchange_6 : decode prog_10_method_40_code 6 = .ok (.getfield 57, 3) := by decide +kernel
theorem d_Model_exchange_9 : decode prog_10_method_40_code 9 = .ok (.ifCond .eq 38, 3) := by decide +kernel
theorem d_Model_exchange_12 : decode prog_10_method_40_code 12 = .ok (.iload_n 1, 1) := by decide +kernel
theorem d_Model_exchange_13 : decode prog_10_method_40_code 13 = .ok (.ifCond .lt 34, 3) := by decide +kernel
theorem d_Model_exchange_16 : decode prog_10_method_40_code 16 = .ok (.iload_n 1, 1) := by decide +kernel
theorem d_Model_exchange_17 : decode prog_10_method_40_code 17 = .ok (.aload_n 0, 1) := by decide +kernel
theorem d_Model_exchange_18 : decode prog_10_method_40_code 18 = .ok (.getfield 7, 3) := by decide +kernel
theorem d_Model_exchange_21 : decode prog_10_method_40_code 21 = .ok (.iconst 1, 1) := by decide +kernel
theorem d_Model_exchange_22 : decode prog_10_method_40_code 22 = .ok (.isub, 1) := by decide +kernel
theorem d_Model_exchange_23 : decode prog_10_method_40_code 23 = .ok (.if_icmp .ge 24, 3) := by decide +kernel
theorem d_Model_exchange_26 : decode prog_10_method_40_code 26 = .ok (.aload_n 0, 1) := by decide +kernel
theorem d_Model_exchange_27 : decode prog_10_method_40_code 27 = .ok (.aload_n 0, 1) := by decide +kernel
theorem d_Model_exchange_28 : decode prog_10_method_40_code 28 = .ok (.getfield 35, 3) := by decide +kernel
theorem d_Model_exchange_31 : decode prog_10_method_40_code 31 = .ok (.iload_n 1, 1) := by decide +kernel
theorem d_Model_exchange_32 : decode prog_10_method_40_code 32 = .ok (.iaload, 1) := by decide +kernel
theorem d_Model_exchange_33 : decode prog_10_method_40_code 33 = .ok (.aload_n 0, 1) := by decide +kernel
theorem d_Model_exchange_34 : decode prog_10_method_40_code 34 = .ok (.getfield 35, 3) := by decide +kernel
theorem d_Model_exchange_37 : decode prog_10_method_40_code 37 = .ok (.iload_n 1, 1) := by decide +kernel
theorem d_Model_exchange_38 : decode prog_10_method_40_code 38 = .ok (.iconst 1, 1) := by decide +kernel
theorem d_Model_exchange_39 : decode prog_10_method_40_code 39 = .ok (.iadd, 1) := by decide +kernel
theorem d_Model_exchange_40 : decode prog_10_method_40_code 40 = .ok (.iaload, 1) := by decide +kernel
theorem d_Model_exchange_41 : decode prog_10_method_40_code 41 = .ok (.invokevirtual 97, 3) := by decide +kernel
theorem d_Model_exchange_44 : decode prog_10_method_40_code 44 = .ok (.ifCond .ne 5, 3) := by decide +kernel
theorem d_Model_exchange_47 : decode prog_10_method_40_code 47 = .ok (.iconst 0, 1) := by decide +kernel
theorem d_Model_exchange_48 : decode prog_10_method_40_code 48 = .ok (.ireturn, 1) := by decide +kernel
theorem d_Model_exchange_49 : decode prog_10_method_40_code 49 = .ok (.aload_n 0, 1) := by decide +kernel
theorem d_Model_exchange_50 : decode prog_10_method_40_code 50 = .ok (.getfield 35, 3) := by decide +kernel
theorem d_Model_exchange_53 : decode prog_10_method_40_code 53 = .ok (.iload_n 1, 1) := by decide +kernel
theorem d_Model_exchange_54 : decode prog_10_method_40_code 54 = .ok (.iaload, 1) := by decide +kernel
theorem d_Model_exchange_55 : decode prog_10_method_40_code 55 = .ok (.istore_n 2, 1) := by decide +kernel
theorem d_Model_exchange_56 : decode prog_10_method_40_code 56 = .ok (.aload_n 0, 1) := by decide +kernel
theorem d_Model_exchange_57 : decode prog_10_method_40_code 57 = .ok (.getfield 35, 3) := by decide +kernel
theorem d_Model_exchange_60 : decode prog_10_method_40_code 60 = .ok (.iload_n 1, 1) := by decide +kernel
theorem d_Model_exchange_61 : decode prog_10_method_40_code 61 = .ok (.aload_n 0, 1) := by decide +kernel
theorem d_Model_exchange_62 : decode prog_10_method_40_code 62 = .ok (.getfield 35, 3) := by decide +kernel
theorem d_Model_exchange_65 : decode prog_10_method_40_code 65 = .ok (.iload_n 1, 1) := by decide +kernel
theorem d_Model_exchange_66 : decode prog_10_method_40_code 66 = .ok (.iconst 1, 1) := by decide +kernel
theorem d_Model_exchange_67 : decode prog_10_method_40_code 67 = .ok (.iadd, 1) := by decide +kernel
theorem d_Model_exchange_68 : decode prog_10_method_40_code 68 = .ok (.iaload, 1) := by decide +kernel
theorem d_Model_exchange_69 : decode prog_10_method_40_code 69 = .ok (.iastore, 1) := by decide +kernel
theorem d_Model_exchange_70 : decode prog_10_method_40_code 70 = .ok (.aload_n 0, 1) := by decide +kernel
theorem d_Model_exchange_71 : decode prog_10_method_40_code 71 = .ok (.getfield 35, 3) := by decide +kernel
theorem d_Model_exchange_74 : decode prog_10_method_40_code 74 = .ok (.iload_n 1, 1) := by decide +kernel
theorem d_Model_exchange_75 : decode prog_10_method_40_code 75 = .ok (.iconst 1, 1) := by decide +kernel
theorem d_Model_exchange_76 : decode prog_10_method_40_code 76 = .ok (.iadd, 1) := by decide +kernel
theorem d_Model_exchange_77 : decode prog_10_method_40_code 77 = .ok (.iload_n 2, 1) := by decide +kernel
theorem d_Model_exchange_78 : decode prog_10_method_40_code 78 = .ok (.iastore, 1) := by decide +kernel
theorem d_Model_exchange_79 : decode prog_10_method_40_code 79 = .ok (.iconst 1, 1) := by decide +kernel
theorem d_Model_exchange_80 : decode prog_10_method_40_code 80 = .ok (.ireturn, 1) := by decide +kernel
def f_Model_exchange (a0 : Int32) (M : oz_M) : Option (Int32 × oz_M) := (some (oz_s M 62 0 0)).bind fun M1 => if (M1.1 62 12) = 0 then (some (0, M1)) else (if a0 < 0 then (some (0, M1)) else (if a0 < ((M1.1 62 1) - 1) then ((oz_in a0 14).bind fun j2 => (oz_in (a0 + 1) 14).bind fun j3 => (f_Model_isApart (M1.1 69 j2) (M1.1 69 j3) M1).bind fun v4 => if v4 = 0 then (some (0, M1)) else ((oz_in a0 14).bind fun j5 => (oz_in (a0 + 1) 14).bind fun j6 => (oz_in a0 14).bind fun j7 => (some (oz_s M1 69 j7 (M1.1 69 j6))).bind fun M8 => (oz_in (a0 + 1) 14).bind fun j9 => (some (oz_s M8 69 j9 (M1.1 69 j5))).bind fun M10 => some (1, M10))) else (some (0, M1))))
set_option maxRecDepth 20000 in
set_option maxHeartbeats 4000000 in
theorem c_Model_exchange {l : Launch} {D : va_G} {cs : Nat → ClassId} {b : Nat} {a0 : Int32} {M : oz_M} {vz : Int32} {Mz : oz_M} (hF : f_Model_exchange a0 M = some (vz, Mz)) : oz_Met l D cs b y_Model_exchange prog_10_method_40_code 3 (some .int) (oz_rm 2) [.ref (b + 62), .int a0] M (some (.int vz)) Mz := by
  refine oz_enter (by decide) (Nat.le_of_ble_eq_true rfl) (fun G cx hR e1 hRm e2 e3 e4 hnL => ?_)
  subst e1; subst e2; subst e3; subst e4
  refine (?_ : oz_R G 0 [(0, .ref (oz_b G + 62)), (1, .int a0)] [] M (f_Model_exchange a0 M) (fun x => x = (vz, Mz))) _ hF rfl
  unfold f_Model_exchange
  refine oz_aload_n (q := 1) cx d_Model_exchange_0 rfl rfl 0 rfl ?_
  refine oz_iconst (q := 2) cx d_Model_exchange_1 rfl (v := 0) rfl ?_
  refine oz_put (q := 5) cx 62 0 (by decide) (ci := 8) rfl rfl rfl tin_Model t_Model t_Model_ok n_Model (by decide) (Nat.le_of_ble_eq_true rfl) rfl tw_786 rfl rfl rfl d_Model_exchange_2 rfl ?_
  refine oz_nm (fun M1 hM1 => ?_)
  refine oz_aload_n (q := 6) cx d_Model_exchange_5 rfl rfl 0 rfl ?_
  refine oz_get (q := 9) cx 62 12 (by decide) (ci := 8) rfl rfl tin_Model (by decide) rfl rfl tw_798 d_Model_exchange_6 rfl ?_
  refine oz_if_eq (q := 12) cx d_Model_exchange_9 rfl rfl (fun h14 => ?_) (fun h14 => ?_)
  · refine oz_iconst (q := 48) cx d_Model_exchange_47 rfl (v := 0) rfl ?_
    exact oz_iret cx hR d_Model_exchange_48
  · refine oz_iload_n (q := 13) cx d_Model_exchange_12 rfl rfl 1 rfl ?_
    refine oz_if_lt (q := 16) cx d_Model_exchange_13 rfl rfl (fun h13 => ?_) (fun h13 => ?_)
    · refine oz_iconst (q := 48) cx d_Model_exchange_47 rfl (v := 0) rfl ?_
      exact oz_iret cx hR d_Model_exchange_48
    · refine oz_iload_n (q := 17) cx d_Model_exchange_16 rfl rfl 1 rfl ?_
      refine oz_aload_n (q := 18) cx d_Model_exchange_17 rfl rfl 0 rfl ?_
      refine oz_get (q := 21) cx 62 1 (by decide) (ci := 8) rfl rfl tin_Model (by decide) rfl rfl tw_787 d_Model_exchange_18 rfl ?_
      refine oz_iconst (q := 22) cx d_Model_exchange_21 rfl (v := 1) rfl ?_
      refine oz_isub (q := 23) cx d_Model_exchange_22 rfl ?_
      refine oz_icmp_ge (q := 26) cx d_Model_exchange_23 rfl rfl (fun h12 => ?_) (fun h12 => ?_)
      · refine oz_iconst (q := 48) cx d_Model_exchange_47 rfl (v := 0) rfl ?_
        exact oz_iret cx hR d_Model_exchange_48
      · refine oz_aload_n (q := 27) cx d_Model_exchange_26 rfl rfl 0 rfl ?_
        refine oz_aload_n (q := 28) cx d_Model_exchange_27 rfl rfl 0 rfl ?_
        refine oz_get (q := 31) cx 62 11 (by decide) (ci := 8) rfl rfl tin_Model (by decide) rfl rfl tw_797 d_Model_exchange_28 rfl ?_
        refine oz_iload_n (q := 32) cx d_Model_exchange_31 rfl rfl 1 rfl ?_
        refine oz_iald (q := 33) cx 69 14 (by decide) rfl d_Model_exchange_32 rfl (fun j2 hj2 => ?_)
        refine oz_aload_n (q := 34) cx d_Model_exchange_33 rfl rfl 0 rfl ?_
        refine oz_get (q := 37) cx 62 11 (by decide) (ci := 8) rfl rfl tin_Model (by decide) rfl rfl tw_797 d_Model_exchange_34 rfl ?_
        refine oz_iload_n (q := 38) cx d_Model_exchange_37 rfl rfl 1 rfl ?_
        refine oz_iconst (q := 39) cx d_Model_exchange_38 rfl (v := 1) rfl ?_
        refine oz_iadd (q := 40) cx d_Model_exchange_39 rfl ?_
        refine oz_iald (q := 41) cx 69 14 (by decide) rfl d_Model_exchange_40 rfl (fun j3 hj3 => ?_)
        refine oz_cVip (q := 44) cx 62 [.int (M1.1 69 j2), .int (M1.1 69 j3)] 2 8 hRm (by decide) (by decide) (fun _ h => c_Model_isApart h) ⟨tw_907, tw_909, ts_39, tw_9⟩ tw_910 (by decide +kernel) rfl (by decide) rfl rfl (st := []) rfl (Nat.le_of_ble_eq_true rfl) d_Model_exchange_41 rfl (fun v4 hv4 => ?_)
        refine oz_if_ne (q := 47) cx d_Model_exchange_44 rfl rfl (fun h11 => ?_) (fun h11 => ?_)
        · refine oz_aload_n (q := 50) cx d_Model_exchange_49 rfl rfl 0 rfl ?_
          refine oz_get (q := 53) cx 62 11 (by decide) (ci := 8) rfl rfl tin_Model (by decide) rfl rfl tw_797 d_Model_exchange_50 rfl ?_
          refine oz_iload_n (q := 54) cx d_Model_exchange_53 rfl rfl 1 rfl ?_
          refine oz_iald (q := 55) cx 69 14 (by decide) rfl d_Model_exchange_54 rfl (fun j5 hj5 => ?_)
          refine oz_istore_n (q := 56) cx d_Model_exchange_55 rfl rfl (by rw [hnL]; decide) (lv2 := [(2, .int (M1.1 69 j5)), (0, .ref (oz_b G + 62)), (1, .int a0)]) rfl ?_
          refine oz_aload_n (q := 57) cx d_Model_exchange_56 rfl rfl 1 rfl ?_
          refine oz_get (q := 60) cx 62 11 (by decide) (ci := 8) rfl rfl tin_Model (by decide) rfl rfl tw_797 d_Model_exchange_57 rfl ?_
          refine oz_iload_n (q := 61) cx d_Model_exchange_60 rfl rfl 2 rfl ?_
          refine oz_aload_n (q := 62) cx d_Model_exchange_61 rfl rfl 1 rfl ?_
          refine oz_get (q := 65) cx 62 11 (by decide) (ci := 8) rfl rfl tin_Model (by decide) rfl rfl tw_797 d_Model_exchange_62 rfl ?_
          refine oz_iload_n (q := 66) cx d_Model_exchange_65 rfl rfl 2 rfl ?_
          refine oz_iconst (q := 67) cx d_Model_exchange_66 rfl (v := 1) rfl ?_
          refine oz_iadd (q := 68) cx d_Model_exchange_67 rfl ?_
          refine oz_iald (q := 69) cx 69 14 (by decide) rfl d_Model_exchange_68 rfl (fun j6 hj6 => ?_)
          refine oz_iast (q := 70) cx 69 14 (by decide) (fun _ => rfl) d_Model_exchange_69 rfl (fun j7 hj7 => ?_)
          refine oz_nm (fun M8 hM8 => ?_)
          refine oz_aload_n (q := 71) cx d_Model_exchange_70 rfl rfl 1 rfl ?_
          refine oz_get (q := 74) cx 62 11 (by decide) (ci := 8) rfl rfl tin_Model (by decide) rfl rfl tw_797 d_Model_exchange_71 rfl ?_
          refine oz_iload_n (q := 75) cx d_Model_exchange_74 rfl rfl 2 rfl ?_
          refine oz_iconst (q := 76) cx d_Model_exchange_75 rfl (v := 1) rfl ?_
          refine oz_iadd (q := 77) cx d_Model_exchange_76 rfl ?_
          refine oz_iload_n (q := 78) cx d_Model_exchange_77 rfl rfl 0 rfl ?_
          refine oz_iast (q := 79) cx 69 14 (by decide) (fun _ => rfl) d_Model_exchange_78 rfl (fun j9 hj9 => ?_)
          refine oz_nm (fun M10 hM10 => ?_)
          refine oz_iconst (q := 80) cx d_Model_exchange_79 rfl (v := 1) rfl ?_
          exact oz_iret cx hR d_Model_exchange_80
        · refine oz_iconst (q := 48) cx d_Model_exchange_47 rfl (v := 0) rfl ?_
          exact oz_iret cx hR d_Model_exchange_48
def y_Model_isAntichain : MethodName := ⟨"OrderHallModel", "isAntichain", "(I)Z"⟩
theorem d_Model_isAntichain_0 : decode prog_10_method_23_code 0 = .ok (.iconst 1, 1) := by decide +kernel
theorem d_Model_isAntichain_1 : decode prog_10_method_23_code 1 = .ok (.istore_n 2, 1) := by decide +kernel
theorem d_Model_isAntichain_2 : decode prog_10_method_23_code 2 = .ok (.iconst 0, 1) := by decide +kernel
theorem d_Model_isAntichain_3 : decode prog_10_method_23_code 3 = .ok (.istore_n 3, 1) := by decide +kernel
theorem d_Model_isAntichain_4 : decode prog_10_method_23_code 4 = .ok (.iload_n 3, 1) := by decide +kernel
theorem d_Model_isAntichain_5 : decode prog_10_method_23_code 5 = .ok (.aload_n 0, 1) := by decide +kernel
theorem d_Model_isAntichain_6 : decode prog_10_method_23_code 6 = .ok (.getfield 7, 3) := by decide +kernel
theorem d_Model_isAntichain_9 : decode prog_10_method_23_code 9 = .ok (.if_icmp .ge 61, 3) := by decide +kernel
theorem d_Model_isAntichain_12 : decode prog_10_method_23_code 12 = .ok (.iconst 0, 1) := by decide +kernel
theorem d_Model_isAntichain_13 : decode prog_10_method_23_code 13 = .ok (.istore 4, 2) := by decide +kernel
theorem d_Model_isAntichain_15 : decode prog_10_method_23_code 15 = .ok (.iload 4, 2) := by decide +kernel
theorem d_Model_isAntichain_17 : decode prog_10_method_23_code 17 = .ok (.iload_n 3, 1) := by decide +kernel
theorem d_Model_isAntichain_18 : decode prog_10_method_23_code 18 = .ok (.if_icmp .ge 46, 3) := by decide +kernel
theorem d_Model_isAntichain_21 : decode prog_10_method_23_code 21 = .ok (.iload_n 2, 1) := by decide +kernel
theorem d_Model_isAntichain_22 : decode prog_10_method_23_code 22 = .ok (.ifCond .eq 34, 3) := by decide +kernel
theorem d_Model_isAntichain_25 : decode prog_10_method_23_code 25 = .ok (.iload_n 1, 1) := by decide +kernel
theorem d_Model_isAntichain_26 : decode prog_10_method_23_code 26 = .ok (.iload_n 3, 1) := by decide +kernel
theorem d_Model_isAntichain_27 : decode prog_10_method_23_code 27 = .ok (.invokestatic 100, 3) := by decide +kernel
theorem d_Model_isAntichain_30 : decode prog_10_method_23_code 30 = .ok (.ifCond .eq 22, 3) := by decide +kernel
theorem d_Model_isAntichain_33 : decode prog_10_method_23_code 33 = .ok (.iload_n 1, 1) := by decide +kernel
theorem d_Model_isAntichain_34 : decode prog_10_method_23_code 34 = .ok (.iload 4, 2) := by decide +kernel
theorem d_Model_isAntichain_36 : decode prog_10_method_23_code 36 = .ok (.invokestatic 100, 3) := by decide +kernel
theorem d_Model_isAntichain_39 : decode prog_10_method_23_code 39 = .ok (.ifCond .eq 13, 3) := by decide +kernel
theorem d_Model_isAntichain_42 : decode prog_10_method_23_code 42 = .ok (.aload_n 0, 1) := by decide +kernel
theorem d_Model_isAntichain_43 : decode prog_10_method_23_code 43 = .ok (.iload_n 3, 1) := by decide +kernel
theorem d_Model_isAntichain_44 : decode prog_10_method_23_code 44 = .ok (.iload 4, 2) := by decide +kernel
theorem d_Model_isAntichain_46 : decode prog_10_method_23_code 46 = .ok (.invokevirtual 97, 3) := by decide +kernel
theorem d_Model_isAntichain_49 : decode prog_10_method_23_code 49 = .ok (.ifCond .eq 7, 3) := by decide +kernel
theorem d_Model_isAntichain_52 : decode prog_10_method_23_code 52 = .ok (.iconst 1, 1) := by decide +kernel
theorem d_Model_isAntichain_53 : decode prog_10_method_23_code 53 = .ok (.goto 4, 3) := by decide +kernel
theorem d_Model_isAntichain_56 : decode prog_10_method_23_code 56 = .ok (.iconst 0, 1) := by decide +kernel
theorem d_Model_isAntichain_57 : decode prog_10_method_23_code 57 = .ok (.istore_n 2, 1) := by decide +kernel
theorem d_Model_isAntichain_58 : decode prog_10_method_23_code 58 = .ok (.iinc 4 1, 3) := by decide +kernel
theorem d_Model_isAntichain_61 : decode prog_10_method_23_code 61 = .ok (.goto (-46), 3) := by decide +kernel
theorem d_Model_isAntichain_64 : decode prog_10_method_23_code 64 = .ok (.iinc 3 1, 3) := by decide +kernel
theorem d_Model_isAntichain_67 : decode prog_10_method_23_code 67 = .ok (.goto (-63), 3) := by decide +kernel
theorem d_Model_isAntichain_70 : decode prog_10_method_23_code 70 = .ok (.iload_n 2, 1) := by decide +kernel
theorem d_Model_isAntichain_71 : decode prog_10_method_23_code 71 = .ok (.ireturn, 1) := by decide +kernel
noncomputable def f_Model_isAntichain (a0 : Int32) (M : oz_M) : Option (Int32) := (oz_lp (fun (s1 : Int32 × Int32) => (if s1.2 < (M.1 62 1) then ((oz_lp (fun (s2 : Int32 × Int32) => (if s2.2 < s1.2 then (if s2.1 = 0 then (some (.inl (0, s2.2 + 1))) else ((f_Model_has a0 s1.2 M).bind fun v3 => if v3 = 0 then (some (.inl (1, s2.2 + 1))) else ((f_Model_has a0 s2.2 M).bind fun v4 => if v4 = 0 then (some (.inl (1, s2.2 + 1))) else ((f_Model_isApart s1.2 s2.2 M).bind fun v5 => if v5 = 0 then (some (.inl (0, s2.2 + 1))) else (some (.inl (1, s2.2 + 1))))))) else (some (.inr (s2.1, s2.2))) : Option ((Int32 × Int32) ⊕ (Int32 × Int32)))) (s1.1, 0)).bind fun (y11 : Int32 × Int32) => some (.inl (y11.1, s1.2 + 1))) else (some (.inr (s1.1, s1.2))) : Option ((Int32 × Int32) ⊕ (Int32 × Int32)))) (1, 0)).bind fun (y13 : Int32 × Int32) => oz_z y13.1
set_option maxRecDepth 20000 in
set_option maxHeartbeats 4000000 in
theorem c_Model_isAntichain {l : Launch} {D : va_G} {cs : Nat → ClassId} {b : Nat} {a0 : Int32} {M : oz_M} {vz : Int32} (hF : f_Model_isAntichain a0 M = some vz) : oz_Met l D cs b y_Model_isAntichain prog_10_method_23_code 5 (some .boolean) (oz_rm 2) [.ref (b + 62), .int a0] M (some (.int vz)) M := by
  refine oz_enter (by decide) (Nat.le_of_ble_eq_true rfl) (fun G cx hR e1 hRm e2 e3 e4 hnL => ?_)
  subst e1; subst e2; subst e3; subst e4
  refine (?_ : oz_R G 0 [(0, .ref (oz_b G + 62)), (1, .int a0)] [] M (f_Model_isAntichain a0 M) (fun x => x = vz)) _ hF rfl
  unfold f_Model_isAntichain
  refine oz_iconst (q := 1) cx d_Model_isAntichain_0 rfl (v := 1) rfl ?_
  refine oz_istore_n (q := 2) cx d_Model_isAntichain_1 rfl rfl (by rw [hnL]; decide) (lv2 := [(2, .int 1), (0, .ref (oz_b G + 62)), (1, .int a0)]) rfl ?_
  refine oz_iconst (q := 3) cx d_Model_isAntichain_2 rfl (v := 0) rfl ?_
  refine oz_istore_n (q := 4) cx d_Model_isAntichain_3 rfl rfl (by rw [hnL]; decide) (lv2 := [(3, .int 0), (2, .int 1), (0, .ref (oz_b G + 62)), (1, .int a0)]) rfl ?_
  refine oz_lv [2, 3, 1, 0] rfl ?_
  refine oz_seq (p2 := 70) (lv2 := fun (y13 : Int32 × Int32) => [(2, .int y13.1)]) (st2 := fun y13 => []) (M2 := fun y13 => M) ?_ (fun y13 => ?_)
  · refine oz_loop (Y := Int32 × Int32) 4 (fun (s1 : Int32 × Int32) => [(0, .ref (oz_b G + 62)), (1, .int a0), (2, .int s1.1), (3, .int s1.2)]) (fun (s1 : Int32 × Int32) => M) (1, 0) (fun s1 => ?_)
    refine oz_iload_n (q := 5) cx d_Model_isAntichain_4 rfl rfl 3 rfl ?_
    refine oz_aload_n (q := 6) cx d_Model_isAntichain_5 rfl rfl 0 rfl ?_
    refine oz_get (q := 9) cx 62 1 (by decide) (ci := 8) rfl rfl tin_Model (by decide) rfl rfl tw_787 d_Model_isAntichain_6 rfl ?_
    refine oz_icmp_ge (q := 12) cx d_Model_isAntichain_9 rfl rfl (fun h12 => ?_) (fun h12 => ?_)
    · exact oz_lv [2] rfl (oz_leaf (fun h => h))
    · refine oz_iconst (q := 13) cx d_Model_isAntichain_12 rfl (v := 0) rfl ?_
      refine oz_istore (q := 15) cx d_Model_isAntichain_13 rfl (by rw [hnL]; decide) (lv2 := [(4, .int 0), (0, .ref (oz_b G + 62)), (1, .int a0), (2, .int s1.1), (3, .int s1.2)]) rfl ?_
      refine oz_lv [1, 2, 3, 4, 0] rfl ?_
      refine oz_seq (p2 := 64) (lv2 := fun (y11 : Int32 × Int32) => [(0, .ref (oz_b G + 62)), (1, .int a0), (2, .int y11.1), (3, .int s1.2)]) (st2 := fun y11 => []) (M2 := fun y11 => M) ?_ (fun y11 => ?_)
      · refine oz_loop (Y := Int32 × Int32) 15 (fun (s2 : Int32 × Int32) => [(0, .ref (oz_b G + 62)), (1, .int a0), (2, .int s2.1), (3, .int s1.2), (4, .int s2.2)]) (fun (s2 : Int32 × Int32) => M) (s1.1, 0) (fun s2 => ?_)
        refine oz_iload (q := 17) cx d_Model_isAntichain_15 rfl 4 rfl ?_
        refine oz_iload_n (q := 18) cx d_Model_isAntichain_17 rfl rfl 3 rfl ?_
        refine oz_icmp_ge (q := 21) cx d_Model_isAntichain_18 rfl rfl (fun h10 => ?_) (fun h10 => ?_)
        · exact oz_lv [0, 1, 2, 3] rfl (oz_leaf (fun h => h))
        · refine oz_iload_n (q := 22) cx d_Model_isAntichain_21 rfl rfl 2 rfl ?_
          refine oz_if_eq (q := 25) cx d_Model_isAntichain_22 rfl rfl (fun h9 => ?_) (fun h9 => ?_)
          · refine oz_iconst (q := 57) cx d_Model_isAntichain_56 rfl (v := 0) rfl ?_
            refine oz_istore_n (q := 58) cx d_Model_isAntichain_57 rfl rfl (by rw [hnL]; decide) (lv2 := [(2, .int 0), (0, .ref (oz_b G + 62)), (1, .int a0), (3, .int s1.2), (4, .int s2.2)]) rfl ?_
            refine oz_iinc (q := 61) cx (s2.2 + 1) d_Model_isAntichain_58 rfl 4 rfl rfl (by rw [hnL]; decide) (lv2 := [(4, .int (s2.2 + 1)), (2, .int 0), (0, .ref (oz_b G + 62)), (1, .int a0), (3, .int s1.2)]) rfl ?_
            refine oz_goto cx d_Model_isAntichain_61 rfl ?_
            exact oz_lv [2, 3, 1, 4, 0] rfl (oz_leaf (fun h => h))
          · refine oz_iload_n (q := 26) cx d_Model_isAntichain_25 rfl rfl 1 rfl ?_
            refine oz_iload_n (q := 27) cx d_Model_isAntichain_26 rfl rfl 3 rfl ?_
            refine oz_cSip (q := 30) cx [.int a0, .int s1.2] 2 hRm (by decide) (by decide) (fun _ h => c_Model_has h) ⟨tw_922, tw_923, tw_9⟩ tw_924 (by decide +kernel) rfl (st := []) rfl (Nat.le_of_ble_eq_true rfl) d_Model_isAntichain_27 rfl (fun v3 hv3 => ?_)
            refine oz_if_eq (q := 33) cx d_Model_isAntichain_30 rfl rfl (fun h8 => ?_) (fun h8 => ?_)
            · refine oz_iconst (q := 53) cx d_Model_isAntichain_52 rfl (v := 1) rfl ?_
              refine oz_goto cx d_Model_isAntichain_53 rfl ?_
              refine oz_istore_n (q := 58) cx d_Model_isAntichain_57 rfl rfl (by rw [hnL]; decide) (lv2 := [(2, .int 1), (0, .ref (oz_b G + 62)), (1, .int a0), (3, .int s1.2), (4, .int s2.2)]) rfl ?_
              refine oz_iinc (q := 61) cx (s2.2 + 1) d_Model_isAntichain_58 rfl 4 rfl rfl (by rw [hnL]; decide) (lv2 := [(4, .int (s2.2 + 1)), (2, .int 1), (0, .ref (oz_b G + 62)), (1, .int a0), (3, .int s1.2)]) rfl ?_
              refine oz_goto cx d_Model_isAntichain_61 rfl ?_
              exact oz_lv [2, 3, 1, 4, 0] rfl (oz_leaf (fun h => h))
            · refine oz_iload_n (q := 34) cx d_Model_isAntichain_33 rfl rfl 1 rfl ?_
              refine oz_iload (q := 36) cx d_Model_isAntichain_34 rfl 4 rfl ?_
              refine oz_cSip (q := 39) cx [.int a0, .int s2.2] 2 hRm (by decide) (by decide) (fun _ h => c_Model_has h) ⟨tw_922, tw_923, tw_9⟩ tw_924 (by decide +kernel) rfl (st := []) rfl (Nat.le_of_ble_eq_true rfl) d_Model_isAntichain_36 rfl (fun v4 hv4 => ?_)
              refine oz_if_eq (q := 42) cx d_Model_isAntichain_39 rfl rfl (fun h7 => ?_) (fun h7 => ?_)
              · refine oz_iconst (q := 53) cx d_Model_isAntichain_52 rfl (v := 1) rfl ?_
                refine oz_goto cx d_Model_isAntichain_53 rfl ?_
                refine oz_istore_n (q := 58) cx d_Model_isAntichain_57 rfl rfl (by rw [hnL]; decide) (lv2 := [(2, .int 1), (0, .ref (oz_b G + 62)), (1, .int a0), (3, .int s1.2), (4, .int s2.2)]) rfl ?_
                refine oz_iinc (q := 61) cx (s2.2 + 1) d_Model_isAntichain_58 rfl 4 rfl rfl (by rw [hnL]; decide) (lv2 := [(4, .int (s2.2 + 1)), (2, .int 1), (0, .ref (oz_b G + 62)), (1, .int a0), (3, .int s1.2)]) rfl ?_
                refine oz_goto cx d_Model_isAntichain_61 rfl ?_
                exact oz_lv [2, 3, 1, 4, 0] rfl (oz_leaf (fun h => h))
              · refine oz_aload_n (q := 43) cx d_Model_isAntichain_42 rfl rfl 0 rfl ?_
                refine oz_iload_n (q := 44) cx d_Model_isAntichain_43 rfl rfl 3 rfl ?_
                refine oz_iload (q := 46) cx d_Model_isAntichain_44 rfl 4 rfl ?_
                refine oz_cVip (q := 49) cx 62 [.int s1.2, .int s2.2] 2 8 hRm (by decide) (by decide) (fun _ h => c_Model_isApart h) ⟨tw_907, tw_909, ts_39, tw_9⟩ tw_910 (by decide +kernel) rfl (by decide) rfl rfl (st := []) rfl (Nat.le_of_ble_eq_true rfl) d_Model_isAntichain_46 rfl (fun v5 hv5 => ?_)
                refine oz_if_eq (q := 52) cx d_Model_isAntichain_49 rfl rfl (fun h6 => ?_) (fun h6 => ?_)
                · refine oz_iconst (q := 57) cx d_Model_isAntichain_56 rfl (v := 0) rfl ?_
                  refine oz_istore_n (q := 58) cx d_Model_isAntichain_57 rfl rfl (by rw [hnL]; decide) (lv2 := [(2, .int 0), (0, .ref (oz_b G + 62)), (1, .int a0), (3, .int s1.2), (4, .int s2.2)]) rfl ?_
                  refine oz_iinc (q := 61) cx (s2.2 + 1) d_Model_isAntichain_58 rfl 4 rfl rfl (by rw [hnL]; decide) (lv2 := [(4, .int (s2.2 + 1)), (2, .int 0), (0, .ref (oz_b G + 62)), (1, .int a0), (3, .int s1.2)]) rfl ?_
                  refine oz_goto cx d_Model_isAntichain_61 rfl ?_
                  exact oz_lv [2, 3, 1, 4, 0] rfl (oz_leaf (fun h => h))
                · refine oz_iconst (q := 53) cx d_Model_isAntichain_52 rfl (v := 1) rfl ?_
                  refine oz_goto cx d_Model_isAntichain_53 rfl ?_
                  refine oz_istore_n (q := 58) cx d_Model_isAntichain_57 rfl rfl (by rw [hnL]; decide) (lv2 := [(2, .int 1), (0, .ref (oz_b G + 62)), (1, .int a0), (3, .int s1.2), (4, .int s2.2)]) rfl ?_
                  refine oz_iinc (q := 61) cx (s2.2 + 1) d_Model_isAntichain_58 rfl 4 rfl rfl (by rw [hnL]; decide) (lv2 := [(4, .int (s2.2 + 1)), (2, .int 1), (0, .ref (oz_b G + 62)), (1, .int a0), (3, .int s1.2)]) rfl ?_
                  refine oz_goto cx d_Model_isAntichain_61 rfl ?_
                  exact oz_lv [2, 3, 1, 4, 0] rfl (oz_leaf (fun h => h))
      · refine oz_iinc (q := 67) cx (s1.2 + 1) d_Model_isAntichain_64 rfl 3 rfl rfl (by rw [hnL]; decide) (lv2 := [(3, .int (s1.2 + 1)), (0, .ref (oz_b G + 62)), (1, .int a0), (2, .int y11.1)]) rfl ?_
        refine oz_goto cx d_Model_isAntichain_67 rfl ?_
        exact oz_lv [1, 2, 3, 0] rfl (oz_leaf (fun h => h))
  · refine oz_iload_n (q := 71) cx d_Model_isAntichain_70 rfl rfl 0 rfl ?_
    exact oz_zretp cx hR d_Model_isAntichain_71
def y_Model_isBound : MethodName := ⟨"OrderHallModel", "isBound", "(IIII)Z"⟩
theorem d_Model_isBound_0 : decode prog_10_method_43_code 0 = .ok (.iload_n 1, 1) := by decide +kernel
theorem d_Model_isBound_1 : decode prog_10_method_43_code 1 = .ok (.ifCond .ne 30, 3) := by decide +kernel
theorem d_Model_isBound_4 : decode prog_10_method_43_code 4 = .ok (.aload_n 0, 1) := by decide +kernel
theorem d_Model_isBound_5 : decode prog_10_method_43_code 5 = .ok (.iload_n 2, 1) := by decide +kernel
theorem d_Model_isBound_6 : decode prog_10_method_43_code 6 = .ok (.iload_n 3, 1) := by decide +kernel
theorem d_Model_isBound_7 : decode prog_10_method_43_code 7 = .ok (.invokevirtual 138, 3) := by decide +kernel
theorem d_Model_isBound_10 : decode prog_10_method_43_code 10 = .ok (.ifCond .eq 17, 3) := by decide +kernel
theorem d_Model_isBound_13 : decode prog_10_method_43_code 13 = .ok (.aload_n 0, 1) := by decide +kernel
theorem d_Model_isBound_14 : decode prog_10_method_43_code 14 = .ok (.iload_n 2, 1) := by decide +kernel
theorem d_Model_isBound_15 : decode prog_10_method_43_code 15 = .ok (.iload 4, 2) := by decide +kernel
theorem d_Model_isBound_17 : decode prog_10_method_43_code 17 = .ok (.invokevirtual 138, 3) := by decide +kernel
theorem d_Model_isBound_20 : decode prog_10_method_43_code 20 = .ok (.ifCond .eq 7, 3) := by decide +kernel
theorem d_Model_isBound_23 : decode prog_10_method_43_code 23 = .ok (.iconst 1, 1) := by decide +kernel
theorem d_Model_isBound_24 : decode prog_10_method_43_code 24 = .ok (.goto 31, 3) := by decide +kernel
theorem d_Model_isBound_27 : decode prog_10_method_43_code 27 = .ok (.iconst 0, 1) := by decide +kernel
theorem d_Model_isBound_28 : decode prog_10_method_43_code 28 = .ok (.goto 27, 3) := by decide +kernel
theorem d_Model_isBound_31 : decode prog_10_method_43_code 31 = .ok (.aload_n 0, 1) := by decide +kernel
theorem d_Model_isBound_32 : decode prog_10_method_43_code 32 = .ok (.iload_n 3, 1) := by decide +kernel
theorem d_Model_isBound_33 : decode prog_10_method_43_code 33 = .ok (.iload_n 2, 1) := by decide +kernel
theorem d_Model_isBound_34 : decode prog_10_method_43_code 34 = .ok (.invokevirtual 138, 3) := by decide +kernel
theorem d_Model_isBound_37 : decode prog_10_method_43_code 37 = .ok (.ifCond .eq 17, 3) := by decide +kernel
theorem d_Model_isBound_40 : decode prog_10_method_43_code 40 = .ok (.aload_n 0, 1) := by decide +kernel
theorem d_Model_isBound_41 : decode prog_10_method_43_code 41 = .ok (.iload 4, 2) := by decide +kernel
theorem d_Model_isBound_43 : decode prog_10_method_43_code 43 = .ok (.iload_n 2, 1) := by decide +kernel
theorem d_Model_isBound_44 : decode prog_10_method_43_code 44 = .ok (.invokevirtual 138, 3) := by decide +kernel
theorem d_Model_isBound_47 : decode prog_10_method_43_code 47 = .ok (.ifCond .eq 7, 3) := by decide +kernel
theorem d_Model_isBound_50 : decode prog_10_method_43_code 50 = .ok (.iconst 1, 1) := by decide +kernel
theorem d_Model_isBound_51 : decode prog_10_method_43_code 51 = .ok (.goto 4, 3) := by decide +kernel
theorem d_Model_isBound_54 : decode prog_10_method_43_code 54 = .ok (.iconst 0, 1) := by decide +kernel
theorem d_Model_isBound_55 : decode prog_10_method_43_code 55 = .ok (.ireturn, 1) := by decide +kernel
def f_Model_isBound (a0 : Int32) (a1 : Int32) (a2 : Int32) (a3 : Int32) (M : oz_M) : Option (Int32) := if a0 = 0 then ((f_Model_isAtMost a1 a2 M).bind fun v5 => if v5 = 0 then (oz_z 0) else ((f_Model_isAtMost a1 a3 M).bind fun v6 => if v6 = 0 then (oz_z 0) else (oz_z 1))) else ((f_Model_isAtMost a2 a1 M).bind fun v1 => if v1 = 0 then (oz_z 0) else ((f_Model_isAtMost a3 a1 M).bind fun v2 => if v2 = 0 then (oz_z 0) else (oz_z 1)))
set_option maxRecDepth 20000 in
set_option maxHeartbeats 4000000 in
theorem c_Model_isBound {l : Launch} {D : va_G} {cs : Nat → ClassId} {b : Nat} {a0 : Int32} {a1 : Int32} {a2 : Int32} {a3 : Int32} {M : oz_M} {vz : Int32} (hF : f_Model_isBound a0 a1 a2 a3 M = some vz) : oz_Met l D cs b y_Model_isBound prog_10_method_43_code 5 (some .boolean) (oz_rm 2) [.ref (b + 62), .int a0, .int a1, .int a2, .int a3] M (some (.int vz)) M := by
  refine oz_enter (by decide) (Nat.le_of_ble_eq_true rfl) (fun G cx hR e1 hRm e2 e3 e4 hnL => ?_)
  subst e1; subst e2; subst e3; subst e4
  refine (?_ : oz_R G 0 [(0, .ref (oz_b G + 62)), (1, .int a0), (2, .int a1), (3, .int a2), (4, .int a3)] [] M (f_Model_isBound a0 a1 a2 a3 M) (fun x => x = vz)) _ hF rfl
  unfold f_Model_isBound
  refine oz_iload_n (q := 1) cx d_Model_isBound_0 rfl rfl 1 rfl ?_
  refine oz_if_ne (q := 4) cx d_Model_isBound_1 rfl rfl (fun h9 => ?_) (fun h9 => ?_)
  · refine oz_aload_n (q := 32) cx d_Model_isBound_31 rfl rfl 0 rfl ?_
    refine oz_iload_n (q := 33) cx d_Model_isBound_32 rfl rfl 3 rfl ?_
    refine oz_iload_n (q := 34) cx d_Model_isBound_33 rfl rfl 2 rfl ?_
    refine oz_cVip (q := 37) cx 62 [.int a2, .int a1] 2 8 hRm (by decide) (by decide) (fun _ h => c_Model_isAtMost h) ⟨tw_1010, tw_1012, ts_51, tw_9⟩ tw_1013 (by decide +kernel) rfl (by decide) rfl rfl (st := []) rfl (Nat.le_of_ble_eq_true rfl) d_Model_isBound_34 rfl (fun v1 hv1 => ?_)
    refine oz_if_eq (q := 40) cx d_Model_isBound_37 rfl rfl (fun h4 => ?_) (fun h4 => ?_)
    · refine oz_iconst (q := 55) cx d_Model_isBound_54 rfl (v := 0) rfl ?_
      exact oz_zretp cx hR d_Model_isBound_55
    · refine oz_aload_n (q := 41) cx d_Model_isBound_40 rfl rfl 0 rfl ?_
      refine oz_iload (q := 43) cx d_Model_isBound_41 rfl 4 rfl ?_
      refine oz_iload_n (q := 44) cx d_Model_isBound_43 rfl rfl 2 rfl ?_
      refine oz_cVip (q := 47) cx 62 [.int a3, .int a1] 2 8 hRm (by decide) (by decide) (fun _ h => c_Model_isAtMost h) ⟨tw_1010, tw_1012, ts_51, tw_9⟩ tw_1013 (by decide +kernel) rfl (by decide) rfl rfl (st := []) rfl (Nat.le_of_ble_eq_true rfl) d_Model_isBound_44 rfl (fun v2 hv2 => ?_)
      refine oz_if_eq (q := 50) cx d_Model_isBound_47 rfl rfl (fun h3 => ?_) (fun h3 => ?_)
      · refine oz_iconst (q := 55) cx d_Model_isBound_54 rfl (v := 0) rfl ?_
        exact oz_zretp cx hR d_Model_isBound_55
      · refine oz_iconst (q := 51) cx d_Model_isBound_50 rfl (v := 1) rfl ?_
        refine oz_goto cx d_Model_isBound_51 rfl ?_
        exact oz_zretp cx hR d_Model_isBound_55
  · refine oz_aload_n (q := 5) cx d_Model_isBound_4 rfl rfl 0 rfl ?_
    refine oz_iload_n (q := 6) cx d_Model_isBound_5 rfl rfl 2 rfl ?_
    refine oz_iload_n (q := 7) cx d_Model_isBound_6 rfl rfl 3 rfl ?_
    refine oz_cVip (q := 10) cx 62 [.int a1, .int a2] 2 8 hRm (by decide) (by decide) (fun _ h => c_Model_isAtMost h) ⟨tw_1010, tw_1012, ts_51, tw_9⟩ tw_1013 (by decide +kernel) rfl (by decide) rfl rfl (st := []) rfl (Nat.le_of_ble_eq_true rfl) d_Model_isBound_7 rfl (fun v5 hv5 => ?_)
    refine oz_if_eq (q := 13) cx d_Model_isBound_10 rfl rfl (fun h8 => ?_) (fun h8 => ?_)
    · refine oz_iconst (q := 28) cx d_Model_isBound_27 rfl (v := 0) rfl ?_
      refine oz_goto cx d_Model_isBound_28 rfl ?_
      exact oz_zretp cx hR d_Model_isBound_55
    · refine oz_aload_n (q := 14) cx d_Model_isBound_13 rfl rfl 0 rfl ?_
      refine oz_iload_n (q := 15) cx d_Model_isBound_14 rfl rfl 2 rfl ?_
      refine oz_iload (q := 17) cx d_Model_isBound_15 rfl 4 rfl ?_
      refine oz_cVip (q := 20) cx 62 [.int a1, .int a3] 2 8 hRm (by decide) (by decide) (fun _ h => c_Model_isAtMost h) ⟨tw_1010, tw_1012, ts_51, tw_9⟩ tw_1013 (by decide +kernel) rfl (by decide) rfl rfl (st := []) rfl (Nat.le_of_ble_eq_true rfl) d_Model_isBound_17 rfl (fun v6 hv6 => ?_)
      refine oz_if_eq (q := 23) cx d_Model_isBound_20 rfl rfl (fun h7 => ?_) (fun h7 => ?_)
      · refine oz_iconst (q := 28) cx d_Model_isBound_27 rfl (v := 0) rfl ?_
        refine oz_goto cx d_Model_isBound_28 rfl ?_
        exact oz_zretp cx hR d_Model_isBound_55
      · refine oz_iconst (q := 24) cx d_Model_isBound_23 rfl (v := 1) rfl ?_
        refine oz_goto cx d_Model_isBound_24 rfl ?_
        exact oz_zretp cx hR d_Model_isBound_55
def y_Model_isChain : MethodName := ⟨"OrderHallModel", "isChain", "(I)Z"⟩
theorem d_Model_isChain_0 : decode prog_10_method_22_code 0 = .ok (.iconst 1, 1) := by decide +kernel
theorem d_Model_isChain_1 : decode prog_10_method_22_code 1 = .ok (.istore_n 2, 1) := by decide +kernel
theorem d_Model_isChain_2 : decode prog_10_method_22_code 2 = .ok (.iconst 0, 1) := by decide +kernel
theorem d_Model_isChain_3 : decode prog_10_method_22_code 3 = .ok (.istore_n 3, 1) := by decide +kernel
theorem d_Model_isChain_4 : decode prog_10_method_22_code 4 = .ok (.iload_n 3, 1) := by decide +kernel
theorem d_Model_isChain_5 : decode prog_10_method_22_code 5 = .ok (.aload_n 0, 1) := by decide +kernel
theorem d_Model_isChain_6 : decode prog_10_method_22_code 6 = .ok (.getfield 7, 3) := by decide +kernel
theorem d_Model_isChain_9 : decode prog_10_method_22_code 9 = .ok (.if_icmp .ge 61, 3) := by decide +kernel
theorem d_Model_isChain_12 : decode prog_10_method_22_code 12 = .ok (.iconst 0, 1) := by decide +kernel
theorem d_Model_isChain_13 : decode prog_10_method_22_code 13 = .ok (.istore 4, 2) := by decide +kernel
theorem d_Model_isChain_15 : decode prog_10_method_22_code 15 = .ok (.iload 4, 2) := by decide +kernel
theorem d_Model_isChain_17 : decode prog_10_method_22_code 17 = .ok (.iload_n 3, 1) := by decide +kernel
theorem d_Model_isChain_18 : decode prog_10_method_22_code 18 = .ok (.if_icmp .ge 46, 3) := by decide +kernel
theorem d_Model_isChain_21 : decode prog_10_method_22_code 21 = .ok (.iload_n 2, 1) := by decide +kernel
theorem d_Model_isChain_22 : decode prog_10_method_22_code 22 = .ok (.ifCond .eq 34, 3) := by decide +kernel
theorem d_Model_isChain_25 : decode prog_10_method_22_code 25 = .ok (.iload_n 1, 1) := by decide +kernel
theorem d_Model_isChain_26 : decode prog_10_method_22_code 26 = .ok (.iload_n 3, 1) := by decide +kernel
theorem d_Model_isChain_27 : decode prog_10_method_22_code 27 = .ok (.invokestatic 100, 3) := by decide +kernel
theorem d_Model_isChain_30 : decode prog_10_method_22_code 30 = .ok (.ifCond .eq 22, 3) := by decide +kernel
theorem d_Model_isChain_33 : decode prog_10_method_22_code 33 = .ok (.iload_n 1, 1) := by decide +kernel
theorem d_Model_isChain_34 : decode prog_10_method_22_code 34 = .ok (.iload 4, 2) := by decide +kernel
theorem d_Model_isChain_36 : decode prog_10_method_22_code 36 = .ok (.invokestatic 100, 3) := by decide +kernel
theorem d_Model_isChain_39 : decode prog_10_method_22_code 39 = .ok (.ifCond .eq 13, 3) := by decide +kernel
theorem d_Model_isChain_42 : decode prog_10_method_22_code 42 = .ok (.aload_n 0, 1) := by decide +kernel
theorem d_Model_isChain_43 : decode prog_10_method_22_code 43 = .ok (.iload_n 3, 1) := by decide +kernel
theorem d_Model_isChain_44 : decode prog_10_method_22_code 44 = .ok (.iload 4, 2) := by decide +kernel
theorem d_Model_isChain_46 : decode prog_10_method_22_code 46 = .ok (.invokevirtual 97, 3) := by decide +kernel
theorem d_Model_isChain_49 : decode prog_10_method_22_code 49 = .ok (.ifCond .ne 7, 3) := by decide +kernel
theorem d_Model_isChain_52 : decode prog_10_method_22_code 52 = .ok (.iconst 1, 1) := by decide +kernel
theorem d_Model_isChain_53 : decode prog_10_method_22_code 53 = .ok (.goto 4, 3) := by decide +kernel
theorem d_Model_isChain_56 : decode prog_10_method_22_code 56 = .ok (.iconst 0, 1) := by decide +kernel
theorem d_Model_isChain_57 : decode prog_10_method_22_code 57 = .ok (.istore_n 2, 1) := by decide +kernel
theorem d_Model_isChain_58 : decode prog_10_method_22_code 58 = .ok (.iinc 4 1, 3) := by decide +kernel
theorem d_Model_isChain_61 : decode prog_10_method_22_code 61 = .ok (.goto (-46), 3) := by decide +kernel
theorem d_Model_isChain_64 : decode prog_10_method_22_code 64 = .ok (.iinc 3 1, 3) := by decide +kernel
theorem d_Model_isChain_67 : decode prog_10_method_22_code 67 = .ok (.goto (-63), 3) := by decide +kernel
theorem d_Model_isChain_70 : decode prog_10_method_22_code 70 = .ok (.iload_n 2, 1) := by decide +kernel
theorem d_Model_isChain_71 : decode prog_10_method_22_code 71 = .ok (.ireturn, 1) := by decide +kernel
noncomputable def f_Model_isChain (a0 : Int32) (M : oz_M) : Option (Int32) := (oz_lp (fun (s1 : Int32 × Int32) => (if s1.2 < (M.1 62 1) then ((oz_lp (fun (s2 : Int32 × Int32) => (if s2.2 < s1.2 then (if s2.1 = 0 then (some (.inl (0, s2.2 + 1))) else ((f_Model_has a0 s1.2 M).bind fun v3 => if v3 = 0 then (some (.inl (1, s2.2 + 1))) else ((f_Model_has a0 s2.2 M).bind fun v4 => if v4 = 0 then (some (.inl (1, s2.2 + 1))) else ((f_Model_isApart s1.2 s2.2 M).bind fun v5 => if v5 = 0 then (some (.inl (1, s2.2 + 1))) else (some (.inl (0, s2.2 + 1))))))) else (some (.inr (s2.1, s2.2))) : Option ((Int32 × Int32) ⊕ (Int32 × Int32)))) (s1.1, 0)).bind fun (y11 : Int32 × Int32) => some (.inl (y11.1, s1.2 + 1))) else (some (.inr (s1.1, s1.2))) : Option ((Int32 × Int32) ⊕ (Int32 × Int32)))) (1, 0)).bind fun (y13 : Int32 × Int32) => oz_z y13.1
set_option maxRecDepth 20000 in
set_option maxHeartbeats 4000000 in
theorem c_Model_isChain {l : Launch} {D : va_G} {cs : Nat → ClassId} {b : Nat} {a0 : Int32} {M : oz_M} {vz : Int32} (hF : f_Model_isChain a0 M = some vz) : oz_Met l D cs b y_Model_isChain prog_10_method_22_code 5 (some .boolean) (oz_rm 2) [.ref (b + 62), .int a0] M (some (.int vz)) M := by
  refine oz_enter (by decide) (Nat.le_of_ble_eq_true rfl) (fun G cx hR e1 hRm e2 e3 e4 hnL => ?_)
  subst e1; subst e2; subst e3; subst e4
  refine (?_ : oz_R G 0 [(0, .ref (oz_b G + 62)), (1, .int a0)] [] M (f_Model_isChain a0 M) (fun x => x = vz)) _ hF rfl
  unfold f_Model_isChain
  refine oz_iconst (q := 1) cx d_Model_isChain_0 rfl (v := 1) rfl ?_
  refine oz_istore_n (q := 2) cx d_Model_isChain_1 rfl rfl (by rw [hnL]; decide) (lv2 := [(2, .int 1), (0, .ref (oz_b G + 62)), (1, .int a0)]) rfl ?_
  refine oz_iconst (q := 3) cx d_Model_isChain_2 rfl (v := 0) rfl ?_
  refine oz_istore_n (q := 4) cx d_Model_isChain_3 rfl rfl (by rw [hnL]; decide) (lv2 := [(3, .int 0), (2, .int 1), (0, .ref (oz_b G + 62)), (1, .int a0)]) rfl ?_
  refine oz_lv [2, 3, 1, 0] rfl ?_
  refine oz_seq (p2 := 70) (lv2 := fun (y13 : Int32 × Int32) => [(2, .int y13.1)]) (st2 := fun y13 => []) (M2 := fun y13 => M) ?_ (fun y13 => ?_)
  · refine oz_loop (Y := Int32 × Int32) 4 (fun (s1 : Int32 × Int32) => [(0, .ref (oz_b G + 62)), (1, .int a0), (2, .int s1.1), (3, .int s1.2)]) (fun (s1 : Int32 × Int32) => M) (1, 0) (fun s1 => ?_)
    refine oz_iload_n (q := 5) cx d_Model_isChain_4 rfl rfl 3 rfl ?_
    refine oz_aload_n (q := 6) cx d_Model_isChain_5 rfl rfl 0 rfl ?_
    refine oz_get (q := 9) cx 62 1 (by decide) (ci := 8) rfl rfl tin_Model (by decide) rfl rfl tw_787 d_Model_isChain_6 rfl ?_
    refine oz_icmp_ge (q := 12) cx d_Model_isChain_9 rfl rfl (fun h12 => ?_) (fun h12 => ?_)
    · exact oz_lv [2] rfl (oz_leaf (fun h => h))
    · refine oz_iconst (q := 13) cx d_Model_isChain_12 rfl (v := 0) rfl ?_
      refine oz_istore (q := 15) cx d_Model_isChain_13 rfl (by rw [hnL]; decide) (lv2 := [(4, .int 0), (0, .ref (oz_b G + 62)), (1, .int a0), (2, .int s1.1), (3, .int s1.2)]) rfl ?_
      refine oz_lv [1, 2, 3, 4, 0] rfl ?_
      refine oz_seq (p2 := 64) (lv2 := fun (y11 : Int32 × Int32) => [(0, .ref (oz_b G + 62)), (1, .int a0), (2, .int y11.1), (3, .int s1.2)]) (st2 := fun y11 => []) (M2 := fun y11 => M) ?_ (fun y11 => ?_)
      · refine oz_loop (Y := Int32 × Int32) 15 (fun (s2 : Int32 × Int32) => [(0, .ref (oz_b G + 62)), (1, .int a0), (2, .int s2.1), (3, .int s1.2), (4, .int s2.2)]) (fun (s2 : Int32 × Int32) => M) (s1.1, 0) (fun s2 => ?_)
        refine oz_iload (q := 17) cx d_Model_isChain_15 rfl 4 rfl ?_
        refine oz_iload_n (q := 18) cx d_Model_isChain_17 rfl rfl 3 rfl ?_
        refine oz_icmp_ge (q := 21) cx d_Model_isChain_18 rfl rfl (fun h10 => ?_) (fun h10 => ?_)
        · exact oz_lv [0, 1, 2, 3] rfl (oz_leaf (fun h => h))
        · refine oz_iload_n (q := 22) cx d_Model_isChain_21 rfl rfl 2 rfl ?_
          refine oz_if_eq (q := 25) cx d_Model_isChain_22 rfl rfl (fun h9 => ?_) (fun h9 => ?_)
          · refine oz_iconst (q := 57) cx d_Model_isChain_56 rfl (v := 0) rfl ?_
            refine oz_istore_n (q := 58) cx d_Model_isChain_57 rfl rfl (by rw [hnL]; decide) (lv2 := [(2, .int 0), (0, .ref (oz_b G + 62)), (1, .int a0), (3, .int s1.2), (4, .int s2.2)]) rfl ?_
            refine oz_iinc (q := 61) cx (s2.2 + 1) d_Model_isChain_58 rfl 4 rfl rfl (by rw [hnL]; decide) (lv2 := [(4, .int (s2.2 + 1)), (2, .int 0), (0, .ref (oz_b G + 62)), (1, .int a0), (3, .int s1.2)]) rfl ?_
            refine oz_goto cx d_Model_isChain_61 rfl ?_
            exact oz_lv [2, 3, 1, 4, 0] rfl (oz_leaf (fun h => h))
          · refine oz_iload_n (q := 26) cx d_Model_isChain_25 rfl rfl 1 rfl ?_
            refine oz_iload_n (q := 27) cx d_Model_isChain_26 rfl rfl 3 rfl ?_
            refine oz_cSip (q := 30) cx [.int a0, .int s1.2] 2 hRm (by decide) (by decide) (fun _ h => c_Model_has h) ⟨tw_922, tw_923, tw_9⟩ tw_924 (by decide +kernel) rfl (st := []) rfl (Nat.le_of_ble_eq_true rfl) d_Model_isChain_27 rfl (fun v3 hv3 => ?_)
            refine oz_if_eq (q := 33) cx d_Model_isChain_30 rfl rfl (fun h8 => ?_) (fun h8 => ?_)
            · refine oz_iconst (q := 53) cx d_Model_isChain_52 rfl (v := 1) rfl ?_
              refine oz_goto cx d_Model_isChain_53 rfl ?_
              refine oz_istore_n (q := 58) cx d_Model_isChain_57 rfl rfl (by rw [hnL]; decide) (lv2 := [(2, .int 1), (0, .ref (oz_b G + 62)), (1, .int a0), (3, .int s1.2), (4, .int s2.2)]) rfl ?_
              refine oz_iinc (q := 61) cx (s2.2 + 1) d_Model_isChain_58 rfl 4 rfl rfl (by rw [hnL]; decide) (lv2 := [(4, .int (s2.2 + 1)), (2, .int 1), (0, .ref (oz_b G + 62)), (1, .int a0), (3, .int s1.2)]) rfl ?_
              refine oz_goto cx d_Model_isChain_61 rfl ?_
              exact oz_lv [2, 3, 1, 4, 0] rfl (oz_leaf (fun h => h))
            · refine oz_iload_n (q := 34) cx d_Model_isChain_33 rfl rfl 1 rfl ?_
              refine oz_iload (q := 36) cx d_Model_isChain_34 rfl 4 rfl ?_
              refine oz_cSip (q := 39) cx [.int a0, .int s2.2] 2 hRm (by decide) (by decide) (fun _ h => c_Model_has h) ⟨tw_922, tw_923, tw_9⟩ tw_924 (by decide +kernel) rfl (st := []) rfl (Nat.le_of_ble_eq_true rfl) d_Model_isChain_36 rfl (fun v4 hv4 => ?_)
              refine oz_if_eq (q := 42) cx d_Model_isChain_39 rfl rfl (fun h7 => ?_) (fun h7 => ?_)
              · refine oz_iconst (q := 53) cx d_Model_isChain_52 rfl (v := 1) rfl ?_
                refine oz_goto cx d_Model_isChain_53 rfl ?_
                refine oz_istore_n (q := 58) cx d_Model_isChain_57 rfl rfl (by rw [hnL]; decide) (lv2 := [(2, .int 1), (0, .ref (oz_b G + 62)), (1, .int a0), (3, .int s1.2), (4, .int s2.2)]) rfl ?_
                refine oz_iinc (q := 61) cx (s2.2 + 1) d_Model_isChain_58 rfl 4 rfl rfl (by rw [hnL]; decide) (lv2 := [(4, .int (s2.2 + 1)), (2, .int 1), (0, .ref (oz_b G + 62)), (1, .int a0), (3, .int s1.2)]) rfl ?_
                refine oz_goto cx d_Model_isChain_61 rfl ?_
                exact oz_lv [2, 3, 1, 4, 0] rfl (oz_leaf (fun h => h))
              · refine oz_aload_n (q := 43) cx d_Model_isChain_42 rfl rfl 0 rfl ?_
                refine oz_iload_n (q := 44) cx d_Model_isChain_43 rfl rfl 3 rfl ?_
                refine oz_iload (q := 46) cx d_Model_isChain_44 rfl 4 rfl ?_
                refine oz_cVip (q := 49) cx 62 [.int s1.2, .int s2.2] 2 8 hRm (by decide) (by decide) (fun _ h => c_Model_isApart h) ⟨tw_907, tw_909, ts_39, tw_9⟩ tw_910 (by decide +kernel) rfl (by decide) rfl rfl (st := []) rfl (Nat.le_of_ble_eq_true rfl) d_Model_isChain_46 rfl (fun v5 hv5 => ?_)
                refine oz_if_ne (q := 52) cx d_Model_isChain_49 rfl rfl (fun h6 => ?_) (fun h6 => ?_)
                · refine oz_iconst (q := 57) cx d_Model_isChain_56 rfl (v := 0) rfl ?_
                  refine oz_istore_n (q := 58) cx d_Model_isChain_57 rfl rfl (by rw [hnL]; decide) (lv2 := [(2, .int 0), (0, .ref (oz_b G + 62)), (1, .int a0), (3, .int s1.2), (4, .int s2.2)]) rfl ?_
                  refine oz_iinc (q := 61) cx (s2.2 + 1) d_Model_isChain_58 rfl 4 rfl rfl (by rw [hnL]; decide) (lv2 := [(4, .int (s2.2 + 1)), (2, .int 0), (0, .ref (oz_b G + 62)), (1, .int a0), (3, .int s1.2)]) rfl ?_
                  refine oz_goto cx d_Model_isChain_61 rfl ?_
                  exact oz_lv [2, 3, 1, 4, 0] rfl (oz_leaf (fun h => h))
                · refine oz_iconst (q := 53) cx d_Model_isChain_52 rfl (v := 1) rfl ?_
                  refine oz_goto cx d_Model_isChain_53 rfl ?_
                  refine oz_istore_n (q := 58) cx d_Model_isChain_57 rfl rfl (by rw [hnL]; decide) (lv2 := [(2, .int 1), (0, .ref (oz_b G + 62)), (1, .int a0), (3, .int s1.2), (4, .int s2.2)]) rfl ?_
                  refine oz_iinc (q := 61) cx (s2.2 + 1) d_Model_isChain_58 rfl 4 rfl rfl (by rw [hnL]; decide) (lv2 := [(4, .int (s2.2 + 1)), (2, .int 1), (0, .ref (oz_b G + 62)), (1, .int a0), (3, .int s1.2)]) rfl ?_
                  refine oz_goto cx d_Model_isChain_61 rfl ?_
                  exact oz_lv [2, 3, 1, 4, 0] rfl (oz_leaf (fun h => h))
      · refine oz_iinc (q := 67) cx (s1.2 + 1) d_Model_isChain_64 rfl 3 rfl rfl (by rw [hnL]; decide) (lv2 := [(3, .int (s1.2 + 1)), (0, .ref (oz_b G + 62)), (1, .int a0), (2, .int y11.1)]) rfl ?_
        refine oz_goto cx d_Model_isChain_67 rfl ?_
        exact oz_lv [1, 2, 3, 0] rfl (oz_leaf (fun h => h))
  · refine oz_iload_n (q := 71) cx d_Model_isChain_70 rfl rfl 0 rfl ?_
    exact oz_zretp cx hR d_Model_isChain_71
def y_Model_set : MethodName := ⟨"OrderHallModel", "set", "(II)I"⟩
theorem d_Model_set_0 : decode prog_10_method_19_code 0 = .ok (.aload_n 0, 1) := by decide +kernel
theorem d_Model_set_1 : decode prog_10_method_19_code 1 = .ok (.aload_n 0, 1) := by decide +kernel
theorem d_Model_set_2 : decode prog_10_method_19_code 2 = .ok (.getfield 53, 3) := by decide +kernel
theorem d_Model_set_5 : decode prog_10_method_19_code 5 = .ok (.ifCond .ne 7, 3) := by decide +kernel
theorem d_Model_set_8 : decode prog_10_method_19_code 8 = .ok (.iconst 1, 1) := by decide +kernel
theorem d_Model_set_9 : decode prog_10_method_19_code 9 = .ok (.goto 29, 3) := by decide +kernel
theorem d_Model_set_12 : decode prog_10_method_19_code 12 = .ok (.aload_n 0, 1) := by decide +kernel
theorem d_Model_set_13 : decode prog_10_method_19_code 13 = .ok (.iload_n 1, 1) := by decide +kernel
theorem d_Model_set_14 : decode prog_10_method_19_code 14 = .ok (.invokevirtual 69, 3) := by decide +kernel
theorem d_Model_set_17 : decode prog_10_method_19_code 17 = .ok (.ifCond .ne 7, 3) := by decide +kernel
theorem d_Model_set_20 : decode prog_10_method_19_code 20 = .ok (.iconst 2, 1) := by decide +kernel
theorem d_Model_set_21 : decode prog_10_method_19_code 21 = .ok (.goto 17, 3) := by decide +kernel
theorem d_Model_set_24 : decode prog_10_method_19_code 24 = .ok (.iload_n 2, 1) := by decide +kernel
theorem d_Model_set_25 : decode prog_10_method_19_code 25 = .ok (.ifCond .lt 8, 3) := by decide +kernel
theorem d_Model_set_28 : decode prog_10_method_19_code 28 = .ok (.iload_n 2, 1) := by decide +kernel
theorem d_Model_set_29 : decode prog_10_method_19_code 29 = .ok (.iconst 4, 1) := by decide +kernel
theorem d_Model_set_30 : decode prog_10_method_19_code 30 = .ok (.if_icmp .le 7, 3) := by decide +kernel
theorem d_Model_set_33 : decode prog_10_method_19_code 33 = .ok (.iconst 3, 1) := by decide +kernel
theorem d_Model_set_34 : decode prog_10_method_19_code 34 = .ok (.goto 4, 3) := by decide +kernel
theorem d_Model_set_37 : decode prog_10_method_19_code 37 = .ok (.iconst 0, 1) := by decide +kernel
theorem d_Model_set_38 : decode prog_10_method_19_code 38 = .ok (.putfield 50, 3) := by decide +kernel
theorem d_Model_set_41 : decode prog_10_method_19_code 41 = .ok (.aload_n 0, 1) := by decide +kernel
theorem d_Model_set_42 : decode prog_10_method_19_code 42 = .ok (.getfield 50, 3) := by decide +kernel
theorem d_Model_set_45 : decode prog_10_method_19_code 45 = .ok (.ifCond .le 5, 3) := by decide +kernel
theorem d_Model_set_48 : decode prog_10_method_19_code 48 = .ok (.iconst 0, 1) := by decide +kernel
theorem d_Model_set_49 : decode prog_10_method_19_code 49 = .ok (.ireturn, 1) := by decide +kernel
theorem d_Model_set_50 : decode prog_10_method_19_code 50 = .ok (.iconst 0, 1) := by decide +kernel
theorem d_Model_set_51 : decode prog_10_method_19_code 51 = .ok (.istore_n 3, 1) := by decide +kernel
theorem d_Model_set_52 : decode prog_10_method_19_code 52 = .ok (.iconst 0, 1) := by decide +kernel
theorem d_Model_set_53 : decode prog_10_method_19_code 53 = .ok (.istore 4, 2) := by decide +kernel
theorem d_Model_set_55 : decode prog_10_method_19_code 55 = .ok (.iload 4, 2) := by decide +kernel
theorem d_Model_set_57 : decode prog_10_method_19_code 57 = .ok (.aload_n 0, 1) := by decide +kernel
theorem d_Model_set_58 : decode prog_10_method_19_code 58 = .ok (.getfield 7, 3) := by decide +kernel
theorem d_Model_set_61 : decode prog_10_method_19_code 61 = .ok (.if_icmp .ge 93, 3) := by decide +kernel
theorem d_Model_set_64 : decode prog_10_method_19_code 64 = .ok (.iload_n 2, 1) := by decide +kernel
theorem d_Model_set_65 : decode prog_10_method_19_code 65 = .ok (.ifCond .ne 13, 3) := by decide +kernel
theorem d_Model_set_68 : decode prog_10_method_19_code 68 = .ok (.aload_n 0, 1) := by decide +kernel
theorem d_Model_set_69 : decode prog_10_method_19_code 69 = .ok (.iload 4, 2) := by decide +kernel
theorem d_Model_set_71 : decode prog_10_method_19_code 71 = .ok (.iload_n 1, 1) := by decide +kernel
theorem d_Model_set_72 : decode prog_10_method_19_code 72 = .ok (.invokevirtual 77, 3) := by decide +kernel
theorem d_Model_set_75 : decode prog_10_method_19_code 75 = .ok (.goto 55, 3) := by decide +kernel
theorem d_Model_set_78 : decode prog_10_method_19_code 78 = .ok (.iload_n 2, 1) := by decide +kernel
theorem d_Model_set_79 : decode prog_10_method_19_code 79 = .ok (.iconst 1, 1) := by decide +kernel
theorem d_Model_set_80 : decode prog_10_method_19_code 80 = .ok (.if_icmp .ne 13, 3) := by decide +kernel
theorem d_Model_set_83 : decode prog_10_method_19_code 83 = .ok (.aload_n 0, 1) := by decide +kernel
theorem d_Model_set_84 : decode prog_10_method_19_code 84 = .ok (.iload_n 1, 1) := by decide +kernel
theorem d_Model_set_85 : decode prog_10_method_19_code 85 = .ok (.iload 4, 2) := by decide +kernel
theorem d_Model_set_87 : decode prog_10_method_19_code 87 = .ok (.invokevirtual 77, 3) := by decide +kernel
theorem d_Model_set_90 : decode prog_10_method_19_code 90 = .ok (.goto 40, 3) := by decide +kernel
theorem d_Model_set_93 : decode prog_10_method_19_code 93 = .ok (.iload_n 2, 1) := by decide +kernel
theorem d_Model_set_94 : decode prog_10_method_19_code 94 = .ok (.iconst 2, 1) := by decide +kernel
theorem d_Model_set_95 : decode prog_10_method_19_code 95 = .ok (.if_icmp .ne 13, 3) := by decide +kernel
theorem d_Model_set_98 : decode prog_10_method_19_code 98 = .ok (.aload_n 0, 1) := by decide +kernel
theorem d_Model_set_99 : decode prog_10_method_19_code 99 = .ok (.iload_n 1, 1) := by decide +kernel
theorem d_Model_set_100 : decode prog_10_method_19_code 100 = .ok (.iload 4, 2) := by decide +kernel
theorem d_Model_set_102 : decode prog_10_method_19_code 102 = .ok (.invokevirtual 94, 3) := by decide +kernel
theorem d_Model_set_105 : decode prog_10_method_19_code 105 = .ok (.goto 25, 3) := by decide +kernel
theorem d_Model_set_108 : decode prog_10_method_19_code 108 = .ok (.iload_n 2, 1) := by decide +kernel
theorem d_Model_set_109 : decode prog_10_method_19_code 109 = .ok (.iconst 3, 1) := by decide +kernel
theorem d_Model_set_110 : decode prog_10_method_19_code 110 = .ok (.if_icmp .ne 13, 3) := by decide +kernel
theorem d_Model_set_113 : decode prog_10_method_19_code 113 = .ok (.aload_n 0, 1) := by decide +kernel
theorem d_Model_set_114 : decode prog_10_method_19_code 114 = .ok (.iload 4, 2) := by decide +kernel
theorem d_Model_set_116 : decode prog_10_method_19_code 116 = .ok (.iload_n 1, 1) := by decide +kernel
theorem d_Model_set_117 : decode prog_10_method_19_code 117 = .ok (.invokevirtual 94, 3) := by decide +kernel
theorem d_Model_set_120 : decode prog_10_method_19_code 120 = .ok (.goto 10, 3) := by decide +kernel
theorem d_Model_set_123 : decode prog_10_method_19_code 123 = .ok (.aload_n 0, 1) := by decide +kernel
theorem d_Model_set_124 : decode prog_10_method_19_code 124 = .ok (.iload_n 1, 1) := by decide +kernel
theorem d_Model_set_125 : decode prog_10_method_19_code 125 = .ok (.iload 4, 2) := by decide +kernel
theorem d_Model_set_127 : decode prog_10_method_19_code 127 = .ok (.invokevirtual 97, 3) := by decide +kernel
theorem d_Model_set_130 : decode prog_10_method_19_code 130 = .ok (.istore 5, 2) := by decide +kernel
theorem d_Model_set_132 : decode prog_10_method_19_code 132 = .ok (.iload 5, 2) := by decide +kernel
theorem d_Model_set_134 : decode prog_10_method_19_code 134 = .ok (.ifCond .eq 12, 3) := by decide +kernel
theorem d_Model_set_137 : decode prog_10_method_19_code 137 = .ok (.iload_n 3, 1) := by decide +kernel
theorem d_Model_set_138 : decode prog_10_method_19_code 138 = .ok (.iconst 1, 1) := by decide +kernel
theorem d_Model_set_139 : decode prog_10_method_19_code 139 = .ok (.iload 4, 2) := by decide +kernel
theorem d_Model_set_141 : decode prog_10_method_19_code 141 = .ok (.ishl, 1) := by decide +kernel
theorem d_Model_set_142 : decode prog_10_method_19_code 142 = .ok (.ior, 1) := by decide +kernel
theorem d_Model_set_143 : decode prog_10_method_19_code 143 = .ok (.goto 4, 3) := by decide +kernel
theorem d_Model_set_146 : decode prog_10_method_19_code 146 = .ok (.iload_n 3, 1) := by decide +kernel
theorem d_Model_set_147 : decode prog_10_method_19_code 147 = .ok (.istore_n 3, 1) := by decide +kernel
theorem d_Model_set_148 : decode prog_10_method_19_code 148 = .ok (.iinc 4 1, 3) := by decide +kernel
theorem d_Model_set_151 : decode prog_10_method_19_code 151 = .ok (.goto (-96), 3) := by decide +kernel
theorem d_Model_set_154 : decode prog_10_method_19_code 154 = .ok (.iload_n 3, 1) := by decide +kernel
theorem d_Model_set_155 : decode prog_10_method_19_code 155 = .ok (.ireturn, 1) := by decide +kernel
noncomputable def f_Model_set (a0 : Int32) (a1 : Int32) (M : oz_M) : Option (Int32 × oz_M) := (if (M.1 62 2) = 0 then (some 1) else ((f_Model_isElement a0 M).bind fun v2 => if v2 = 0 then (some 2) else (if a1 < 0 then (some 3) else (if 4 < a1 then (some 3) else (some 0))))).bind fun (z1 : Int32) => (some (oz_s M 62 0 z1)).bind fun M7 => if 0 < (M7.1 62 0) then (some (0, M7)) else ((oz_lp (fun (s8 : Int32 × Int32) => (if s8.2 < (M7.1 62 1) then ((if a1 = 0 then ((f_Model_isLess s8.2 a0 M7).bind fun v17 => some v17) else (if a1 = 1 then ((f_Model_isLess a0 s8.2 M7).bind fun v15 => some v15) else (if a1 = 2 then ((f_Model_covers a0 s8.2 M7).bind fun v13 => some v13) else (if a1 = 3 then ((f_Model_covers s8.2 a0 M7).bind fun v11 => some v11) else ((f_Model_isApart a0 s8.2 M7).bind fun v10 => some v10))))).bind fun (z9 : Int32) => if z9 = 0 then (some (.inl (s8.1, s8.2 + 1))) else (some (.inl (s8.1 ||| (1 <<< (s8.2 &&& 31)), s8.2 + 1)))) else (some (.inr (s8.1, s8.2))) : Option ((Int32 × Int32) ⊕ (Int32 × Int32)))) (0, 0)).bind fun (y21 : Int32 × Int32) => some (y21.1, M7))
set_option maxRecDepth 20000 in
set_option maxHeartbeats 4000000 in
theorem c_Model_set {l : Launch} {D : va_G} {cs : Nat → ClassId} {b : Nat} {a0 : Int32} {a1 : Int32} {M : oz_M} {vz : Int32} {Mz : oz_M} (hF : f_Model_set a0 a1 M = some (vz, Mz)) : oz_Met l D cs b y_Model_set prog_10_method_19_code 6 (some .int) (oz_rm 2) [.ref (b + 62), .int a0, .int a1] M (some (.int vz)) Mz := by
  refine oz_enter (by decide) (Nat.le_of_ble_eq_true rfl) (fun G cx hR e1 hRm e2 e3 e4 hnL => ?_)
  subst e1; subst e2; subst e3; subst e4
  refine (?_ : oz_R G 0 [(0, .ref (oz_b G + 62)), (1, .int a0), (2, .int a1)] [] M (f_Model_set a0 a1 M) (fun x => x = (vz, Mz))) _ hF rfl
  unfold f_Model_set
  refine oz_aload_n (q := 1) cx d_Model_set_0 rfl rfl 0 rfl ?_
  refine oz_aload_n (q := 2) cx d_Model_set_1 rfl rfl 0 rfl ?_
  refine oz_get (q := 5) cx 62 2 (by decide) (ci := 8) rfl rfl tin_Model (by decide) rfl rfl tw_788 d_Model_set_2 rfl ?_
  refine oz_seq (p2 := 38) (lv2 := fun (z1 : Int32) => [(0, .ref (oz_b G + 62)), (1, .int a0), (2, .int a1)]) (st2 := fun z1 => [.int z1, .ref (oz_b G + 62)]) (M2 := fun z1 => M) ?_ (fun z1 => ?_)
  · refine oz_if_ne (q := 8) cx d_Model_set_5 rfl rfl (fun h6 => ?_) (fun h6 => ?_)
    · refine oz_aload_n (q := 13) cx d_Model_set_12 rfl rfl 0 rfl ?_
      refine oz_iload_n (q := 14) cx d_Model_set_13 rfl rfl 1 rfl ?_
      refine oz_cVip (q := 17) cx 62 [.int a0] 1 8 hRm (by decide) (by decide) (fun _ h => c_Model_isElement h) ⟨tw_859, tw_861, ts_32, tw_9⟩ tw_862 (by decide +kernel) rfl (by decide) rfl rfl (st := [.ref (oz_b G + 62)]) rfl (Nat.le_of_ble_eq_true rfl) d_Model_set_14 rfl (fun v2 hv2 => ?_)
      refine oz_if_ne (q := 20) cx d_Model_set_17 rfl rfl (fun h5 => ?_) (fun h5 => ?_)
      · refine oz_iload_n (q := 25) cx d_Model_set_24 rfl rfl 2 rfl ?_
        refine oz_if_lt (q := 28) cx d_Model_set_25 rfl rfl (fun h4 => ?_) (fun h4 => ?_)
        · refine oz_iconst (q := 34) cx d_Model_set_33 rfl (v := 3) rfl ?_
          refine oz_goto cx d_Model_set_34 rfl ?_
          exact oz_lv [0, 1, 2] rfl (oz_leaf (fun h => h))
        · refine oz_iload_n (q := 29) cx d_Model_set_28 rfl rfl 2 rfl ?_
          refine oz_iconst (q := 30) cx d_Model_set_29 rfl (v := 4) rfl ?_
          refine oz_icmp_le (q := 33) cx d_Model_set_30 rfl rfl (fun h3 => ?_) (fun h3 => ?_)
          · refine oz_iconst (q := 38) cx d_Model_set_37 rfl (v := 0) rfl ?_
            exact oz_lv [0, 1, 2] rfl (oz_leaf (fun h => h))
          · refine oz_iconst (q := 34) cx d_Model_set_33 rfl (v := 3) rfl ?_
            refine oz_goto cx d_Model_set_34 rfl ?_
            exact oz_lv [0, 1, 2] rfl (oz_leaf (fun h => h))
      · refine oz_iconst (q := 21) cx d_Model_set_20 rfl (v := 2) rfl ?_
        refine oz_goto cx d_Model_set_21 rfl ?_
        exact oz_lv [0, 1, 2] rfl (oz_leaf (fun h => h))
    · refine oz_iconst (q := 9) cx d_Model_set_8 rfl (v := 1) rfl ?_
      refine oz_goto cx d_Model_set_9 rfl ?_
      exact oz_lv [0, 1, 2] rfl (oz_leaf (fun h => h))
  · refine oz_put (q := 41) cx 62 0 (by decide) (ci := 8) rfl rfl rfl tin_Model t_Model t_Model_ok n_Model (by decide) (Nat.le_of_ble_eq_true rfl) rfl tw_786 rfl rfl rfl d_Model_set_38 rfl ?_
    refine oz_nm (fun M7 hM7 => ?_)
    refine oz_aload_n (q := 42) cx d_Model_set_41 rfl rfl 0 rfl ?_
    refine oz_get (q := 45) cx 62 0 (by decide) (ci := 8) rfl rfl tin_Model (by decide) rfl rfl tw_786 d_Model_set_42 rfl ?_
    refine oz_if_le (q := 48) cx d_Model_set_45 rfl rfl (fun h22 => ?_) (fun h22 => ?_)
    · refine oz_iconst (q := 51) cx d_Model_set_50 rfl (v := 0) rfl ?_
      refine oz_istore_n (q := 52) cx d_Model_set_51 rfl rfl (by rw [hnL]; decide) (lv2 := [(3, .int 0), (0, .ref (oz_b G + 62)), (1, .int a0), (2, .int a1)]) rfl ?_
      refine oz_iconst (q := 53) cx d_Model_set_52 rfl (v := 0) rfl ?_
      refine oz_istore (q := 55) cx d_Model_set_53 rfl (by rw [hnL]; decide) (lv2 := [(4, .int 0), (3, .int 0), (0, .ref (oz_b G + 62)), (1, .int a0), (2, .int a1)]) rfl ?_
      refine oz_lv [2, 3, 4, 1, 0] rfl ?_
      refine oz_seq (p2 := 154) (lv2 := fun (y21 : Int32 × Int32) => [(3, .int y21.1)]) (st2 := fun y21 => []) (M2 := fun y21 => M7) ?_ (fun y21 => ?_)
      · refine oz_loop (Y := Int32 × Int32) 55 (fun (s8 : Int32 × Int32) => [(0, .ref (oz_b G + 62)), (1, .int a0), (2, .int a1), (3, .int s8.1), (4, .int s8.2)]) (fun (s8 : Int32 × Int32) => M7) (0, 0) (fun s8 => ?_)
        refine oz_iload (q := 57) cx d_Model_set_55 rfl 4 rfl ?_
        refine oz_aload_n (q := 58) cx d_Model_set_57 rfl rfl 0 rfl ?_
        refine oz_get (q := 61) cx 62 1 (by decide) (ci := 8) rfl rfl tin_Model (by decide) rfl rfl tw_787 d_Model_set_58 rfl ?_
        refine oz_icmp_ge (q := 64) cx d_Model_set_61 rfl rfl (fun h20 => ?_) (fun h20 => ?_)
        · exact oz_lv [3] rfl (oz_leaf (fun h => h))
        · refine oz_iload_n (q := 65) cx d_Model_set_64 rfl rfl 2 rfl ?_
          refine oz_seq (p2 := 130) (lv2 := fun (z9 : Int32) => [(0, .ref (oz_b G + 62)), (1, .int a0), (2, .int a1), (3, .int s8.1), (4, .int s8.2)]) (st2 := fun z9 => [.int z9]) (M2 := fun z9 => M7) ?_ (fun z9 => ?_)
          · refine oz_if_ne (q := 68) cx d_Model_set_65 rfl rfl (fun h18 => ?_) (fun h18 => ?_)
            · refine oz_iload_n (q := 79) cx d_Model_set_78 rfl rfl 2 rfl ?_
              refine oz_iconst (q := 80) cx d_Model_set_79 rfl (v := 1) rfl ?_
              refine oz_icmp_ne (q := 83) cx d_Model_set_80 rfl rfl (fun h16 => ?_) (fun h16 => ?_)
              · refine oz_iload_n (q := 94) cx d_Model_set_93 rfl rfl 2 rfl ?_
                refine oz_iconst (q := 95) cx d_Model_set_94 rfl (v := 2) rfl ?_
                refine oz_icmp_ne (q := 98) cx d_Model_set_95 rfl rfl (fun h14 => ?_) (fun h14 => ?_)
                · refine oz_iload_n (q := 109) cx d_Model_set_108 rfl rfl 2 rfl ?_
                  refine oz_iconst (q := 110) cx d_Model_set_109 rfl (v := 3) rfl ?_
                  refine oz_icmp_ne (q := 113) cx d_Model_set_110 rfl rfl (fun h12 => ?_) (fun h12 => ?_)
                  · refine oz_aload_n (q := 124) cx d_Model_set_123 rfl rfl 0 rfl ?_
                    refine oz_iload_n (q := 125) cx d_Model_set_124 rfl rfl 1 rfl ?_
                    refine oz_iload (q := 127) cx d_Model_set_125 rfl 4 rfl ?_
                    refine oz_cVip (q := 130) cx 62 [.int a0, .int s8.2] 2 8 hRm (by decide) (by decide) (fun _ h => c_Model_isApart h) ⟨tw_907, tw_909, ts_39, tw_9⟩ tw_910 (by decide +kernel) rfl (by decide) rfl rfl (st := []) rfl (Nat.le_of_ble_eq_true rfl) d_Model_set_127 rfl (fun v10 hv10 => ?_)
                    exact oz_lv [0, 1, 2, 3, 4] rfl (oz_leaf (fun h => h))
                  · refine oz_aload_n (q := 114) cx d_Model_set_113 rfl rfl 0 rfl ?_
                    refine oz_iload (q := 116) cx d_Model_set_114 rfl 4 rfl ?_
                    refine oz_iload_n (q := 117) cx d_Model_set_116 rfl rfl 1 rfl ?_
                    refine oz_cVip (q := 120) cx 62 [.int s8.2, .int a0] 2 8 hRm (by decide) (by decide) (fun _ h => c_Model_covers h) ⟨tw_903, tw_905, ts_38, tw_9⟩ tw_906 (by decide +kernel) rfl (by decide) rfl rfl (st := []) rfl (Nat.le_of_ble_eq_true rfl) d_Model_set_117 rfl (fun v11 hv11 => ?_)
                    refine oz_goto cx d_Model_set_120 rfl ?_
                    exact oz_lv [0, 1, 2, 3, 4] rfl (oz_leaf (fun h => h))
                · refine oz_aload_n (q := 99) cx d_Model_set_98 rfl rfl 0 rfl ?_
                  refine oz_iload_n (q := 100) cx d_Model_set_99 rfl rfl 1 rfl ?_
                  refine oz_iload (q := 102) cx d_Model_set_100 rfl 4 rfl ?_
                  refine oz_cVip (q := 105) cx 62 [.int a0, .int s8.2] 2 8 hRm (by decide) (by decide) (fun _ h => c_Model_covers h) ⟨tw_903, tw_905, ts_38, tw_9⟩ tw_906 (by decide +kernel) rfl (by decide) rfl rfl (st := []) rfl (Nat.le_of_ble_eq_true rfl) d_Model_set_102 rfl (fun v13 hv13 => ?_)
                  refine oz_goto cx d_Model_set_105 rfl ?_
                  exact oz_lv [0, 1, 2, 3, 4] rfl (oz_leaf (fun h => h))
              · refine oz_aload_n (q := 84) cx d_Model_set_83 rfl rfl 0 rfl ?_
                refine oz_iload_n (q := 85) cx d_Model_set_84 rfl rfl 1 rfl ?_
                refine oz_iload (q := 87) cx d_Model_set_85 rfl 4 rfl ?_
                refine oz_cVip (q := 90) cx 62 [.int a0, .int s8.2] 2 8 hRm (by decide) (by decide) (fun _ h => c_Model_isLess h) ⟨tw_871, tw_873, ts_33, tw_9⟩ tw_874 (by decide +kernel) rfl (by decide) rfl rfl (st := []) rfl (Nat.le_of_ble_eq_true rfl) d_Model_set_87 rfl (fun v15 hv15 => ?_)
                refine oz_goto cx d_Model_set_90 rfl ?_
                exact oz_lv [0, 1, 2, 3, 4] rfl (oz_leaf (fun h => h))
            · refine oz_aload_n (q := 69) cx d_Model_set_68 rfl rfl 0 rfl ?_
              refine oz_iload (q := 71) cx d_Model_set_69 rfl 4 rfl ?_
              refine oz_iload_n (q := 72) cx d_Model_set_71 rfl rfl 1 rfl ?_
              refine oz_cVip (q := 75) cx 62 [.int s8.2, .int a0] 2 8 hRm (by decide) (by decide) (fun _ h => c_Model_isLess h) ⟨tw_871, tw_873, ts_33, tw_9⟩ tw_874 (by decide +kernel) rfl (by decide) rfl rfl (st := []) rfl (Nat.le_of_ble_eq_true rfl) d_Model_set_72 rfl (fun v17 hv17 => ?_)
              refine oz_goto cx d_Model_set_75 rfl ?_
              exact oz_lv [0, 1, 2, 3, 4] rfl (oz_leaf (fun h => h))
          · refine oz_istore (q := 132) cx d_Model_set_130 rfl (by rw [hnL]; decide) (lv2 := [(5, .int z9), (0, .ref (oz_b G + 62)), (1, .int a0), (2, .int a1), (3, .int s8.1), (4, .int s8.2)]) rfl ?_
            refine oz_iload (q := 134) cx d_Model_set_132 rfl 0 rfl ?_
            refine oz_if_eq (q := 137) cx d_Model_set_134 rfl rfl (fun h19 => ?_) (fun h19 => ?_)
            · refine oz_iload_n (q := 147) cx d_Model_set_146 rfl rfl 4 rfl ?_
              refine oz_istore_n (q := 148) cx d_Model_set_147 rfl rfl (by rw [hnL]; decide) (lv2 := [(3, .int s8.1), (5, .int z9), (0, .ref (oz_b G + 62)), (1, .int a0), (2, .int a1), (4, .int s8.2)]) rfl ?_
              refine oz_iinc (q := 151) cx (s8.2 + 1) d_Model_set_148 rfl 5 rfl rfl (by rw [hnL]; decide) (lv2 := [(4, .int (s8.2 + 1)), (3, .int s8.1), (5, .int z9), (0, .ref (oz_b G + 62)), (1, .int a0), (2, .int a1)]) rfl ?_
              refine oz_goto cx d_Model_set_151 rfl ?_
              exact oz_lv [3, 4, 5, 1, 0] rfl (oz_leaf (fun h => h))
            · refine oz_iload_n (q := 138) cx d_Model_set_137 rfl rfl 4 rfl ?_
              refine oz_iconst (q := 139) cx d_Model_set_138 rfl (v := 1) rfl ?_
              refine oz_iload (q := 141) cx d_Model_set_139 rfl 5 rfl ?_
              refine oz_ishl (q := 142) cx d_Model_set_141 rfl ?_
              refine oz_ior (q := 143) cx d_Model_set_142 rfl ?_
              refine oz_goto cx d_Model_set_143 rfl ?_
              refine oz_istore_n (q := 148) cx d_Model_set_147 rfl rfl (by rw [hnL]; decide) (lv2 := [(3, .int (s8.1 ||| (1 <<< (s8.2 &&& 31)))), (5, .int z9), (0, .ref (oz_b G + 62)), (1, .int a0), (2, .int a1), (4, .int s8.2)]) rfl ?_
              refine oz_iinc (q := 151) cx (s8.2 + 1) d_Model_set_148 rfl 5 rfl rfl (by rw [hnL]; decide) (lv2 := [(4, .int (s8.2 + 1)), (3, .int (s8.1 ||| (1 <<< (s8.2 &&& 31)))), (5, .int z9), (0, .ref (oz_b G + 62)), (1, .int a0), (2, .int a1)]) rfl ?_
              refine oz_goto cx d_Model_set_151 rfl ?_
              exact oz_lv [3, 4, 5, 1, 0] rfl (oz_leaf (fun h => h))
      · refine oz_iload_n (q := 155) cx d_Model_set_154 rfl rfl 0 rfl ?_
        exact oz_iret cx hR d_Model_set_155
    · refine oz_iconst (q := 49) cx d_Model_set_48 rfl (v := 0) rfl ?_
      exact oz_iret cx hR d_Model_set_49
def y_Model_tell : MethodName := ⟨"OrderHallModel", "tell", "(II)V"⟩
theorem d_Model_tell_0 : decode prog_10_method_48_code 0 = .ok (.aload_n 0, 1) := by decide +kernel
theorem d_Model_tell_1 : decode prog_10_method_48_code 1 = .ok (.getfield 44, 3) := by decide +kernel
theorem d_Model_tell_4 : decode prog_10_method_48_code 4 = .ok (.iload_n 2, 1) := by decide +kernel
theorem d_Model_tell_5 : decode prog_10_method_48_code 5 = .ok (.baload, 1) := by decide +kernel
theorem d_Model_tell_6 : decode prog_10_method_48_code 6 = .ok (.ifCond .ne 16, 3) := by decide +kernel
theorem d_Model_tell_9 : decode prog_10_method_48_code 9 = .ok (.aload_n 0, 1) := by decide +kernel
theorem d_Model_tell_10 : decode prog_10_method_48_code 10 = .ok (.iload_n 1, 1) := by decide +kernel
theorem d_Model_tell_11 : decode prog_10_method_48_code 11 = .ok (.iload_n 2, 1) := by decide +kernel
theorem d_Model_tell_12 : decode prog_10_method_48_code 12 = .ok (.invokevirtual 77, 3) := by decide +kernel
theorem d_Model_tell_15 : decode prog_10_method_48_code 15 = .ok (.ifCond .eq 7, 3) := by decide +kernel
theorem d_Model_tell_18 : decode prog_10_method_48_code 18 = .ok (.iconst 1, 1) := by decide +kernel
theorem d_Model_tell_19 : decode prog_10_method_48_code 19 = .ok (.goto 4, 3) := by decide +kernel
theorem d_Model_tell_22 : decode prog_10_method_48_code 22 = .ok (.iconst 0, 1) := by decide +kernel
theorem d_Model_tell_23 : decode prog_10_method_48_code 23 = .ok (.istore_n 3, 1) := by decide +kernel
theorem d_Model_tell_24 : decode prog_10_method_48_code 24 = .ok (.iconst 0, 1) := by decide +kernel
theorem d_Model_tell_25 : decode prog_10_method_48_code 25 = .ok (.istore 4, 2) := by decide +kernel
theorem d_Model_tell_27 : decode prog_10_method_48_code 27 = .ok (.iconst 0, 1) := by decide +kernel
theorem d_Model_tell_28 : decode prog_10_method_48_code 28 = .ok (.istore 5, 2) := by decide +kernel
theorem d_Model_tell_30 : decode prog_10_method_48_code 30 = .ok (.iload 5, 2) := by decide +kernel
theorem d_Model_tell_32 : decode prog_10_method_48_code 32 = .ok (.aload_n 0, 1) := by decide +kernel
theorem d_Model_tell_33 : decode prog_10_method_48_code 33 = .ok (.getfield 7, 3) := by decide +kernel
theorem d_Model_tell_36 : decode prog_10_method_48_code 36 = .ok (.if_icmp .ge 61, 3) := by decide +kernel
theorem d_Model_tell_39 : decode prog_10_method_48_code 39 = .ok (.aload_n 0, 1) := by decide +kernel
theorem d_Model_tell_40 : decode prog_10_method_48_code 40 = .ok (.iload_n 1, 1) := by decide +kernel
theorem d_Model_tell_41 : decode prog_10_method_48_code 41 = .ok (.iload 5, 2) := by decide +kernel
theorem d_Model_tell_43 : decode prog_10_method_48_code 43 = .ok (.invokevirtual 138, 3) := by decide +kernel
theorem d_Model_tell_46 : decode prog_10_method_48_code 46 = .ok (.ifCond .eq 45, 3) := by decide +kernel
theorem d_Model_tell_49 : decode prog_10_method_48_code 49 = .ok (.aload_n 0, 1) := by decide +kernel
theorem d_Model_tell_50 : decode prog_10_method_48_code 50 = .ok (.iload 5, 2) := by decide +kernel
theorem d_Model_tell_52 : decode prog_10_method_48_code 52 = .ok (.iload_n 2, 1) := by decide +kernel
theorem d_Model_tell_53 : decode prog_10_method_48_code 53 = .ok (.invokevirtual 77, 3) := by decide +kernel
theorem d_Model_tell_56 : decode prog_10_method_48_code 56 = .ok (.ifCond .eq 35, 3) := by decide +kernel
theorem d_Model_tell_59 : decode prog_10_method_48_code 59 = .ok (.iload_n 3, 1) := by decide +kernel
theorem d_Model_tell_60 : decode prog_10_method_48_code 60 = .ok (.ifCond .eq 17, 3) := by decide +kernel
theorem d_Model_tell_63 : decode prog_10_method_48_code 63 = .ok (.aload_n 0, 1) := by decide +kernel
theorem d_Model_tell_64 : decode prog_10_method_48_code 64 = .ok (.getfield 44, 3) := by decide +kernel
theorem d_Model_tell_67 : decode prog_10_method_48_code 67 = .ok (.iload 5, 2) := by decide +kernel
theorem d_Model_tell_69 : decode prog_10_method_48_code 69 = .ok (.baload, 1) := by decide +kernel
theorem d_Model_tell_70 : decode prog_10_method_48_code 70 = .ok (.ifCond .eq 7, 3) := by decide +kernel
theorem d_Model_tell_73 : decode prog_10_method_48_code 73 = .ok (.iconst 1, 1) := by decide +kernel
theorem d_Model_tell_74 : decode prog_10_method_48_code 74 = .ok (.goto 4, 3) := by decide +kernel
theorem d_Model_tell_77 : decode prog_10_method_48_code 77 = .ok (.iconst 0, 1) := by decide +kernel
theorem d_Model_tell_78 : decode prog_10_method_48_code 78 = .ok (.istore_n 3, 1) := by decide +kernel
theorem d_Model_tell_79 : decode prog_10_method_48_code 79 = .ok (.iload 4, 2) := by decide +kernel
theorem d_Model_tell_81 : decode prog_10_method_48_code 81 = .ok (.aload_n 0, 1) := by decide +kernel
theorem d_Model_tell_82 : decode prog_10_method_48_code 82 = .ok (.getfield 41, 3) := by decide +kernel
theorem d_Model_tell_85 : decode prog_10_method_48_code 85 = .ok (.iload 5, 2) := by decide +kernel
theorem d_Model_tell_87 : decode prog_10_method_48_code 87 = .ok (.iaload, 1) := by decide +kernel
theorem d_Model_tell_88 : decode prog_10_method_48_code 88 = .ok (.iadd, 1) := by decide +kernel
theorem d_Model_tell_89 : decode prog_10_method_48_code 89 = .ok (.istore 4, 2) := by decide +kernel
theorem d_Model_tell_91 : decode prog_10_method_48_code 91 = .ok (.iinc 5 1, 3) := by decide +kernel
theorem d_Model_tell_94 : decode prog_10_method_48_code 94 = .ok (.goto (-64), 3) := by decide +kernel
theorem d_Model_tell_97 : decode prog_10_method_48_code 97 = .ok (.iload_n 3, 1) := by decide +kernel
theorem d_Model_tell_98 : decode prog_10_method_48_code 98 = .ok (.ifCond .eq 19, 3) := by decide +kernel
theorem d_Model_tell_101 : decode prog_10_method_48_code 101 = .ok (.aload_n 0, 1) := by decide +kernel
theorem d_Model_tell_102 : decode prog_10_method_48_code 102 = .ok (.getfield 41, 3) := by decide +kernel
theorem d_Model_tell_105 : decode prog_10_method_48_code 105 = .ok (.iload_n 2, 1) := by decide +kernel
theorem d_Model_tell_106 : decode prog_10_method_48_code 106 = .ok (.iload 4, 2) := by decide +kernel
theorem d_Model_tell_108 : decode prog_10_method_48_code 108 = .ok (.ineg, 1) := by decide +kernel
theorem d_Model_tell_109 : decode prog_10_method_48_code 109 = .ok (.iastore, 1) := by decide +kernel
theorem d_Model_tell_110 : decode prog_10_method_48_code 110 = .ok (.aload_n 0, 1) := by decide +kernel
theorem d_Model_tell_111 : decode prog_10_method_48_code 111 = .ok (.getfield 44, 3) := by decide +kernel
theorem d_Model_tell_114 : decode prog_10_method_48_code 114 = .ok (.iload_n 2, 1) := by decide +kernel
theorem d_Model_tell_115 : decode prog_10_method_48_code 115 = .ok (.iconst 1, 1) := by decide +kernel
theorem d_Model_tell_116 : decode prog_10_method_48_code 116 = .ok (.bastore, 1) := by decide +kernel
theorem d_Model_tell_117 : decode prog_10_method_48_code 117 = .ok (.return_, 1) := by decide +kernel
noncomputable def f_Model_tell (a0 : Int32) (a1 : Int32) (M : oz_M) : Option (Unit × oz_M) := (oz_in a1 14).bind fun j1 => (if (M.1 72 j1) = 0 then ((f_Model_isLess a0 a1 M).bind fun v3 => if v3 = 0 then (some 0) else (some 1)) else (some 0)).bind fun (z2 : Int32) => (oz_lp (fun (s6 : Int32 × Int32 × Int32) => (if s6.2.2 < (M.1 62 1) then ((f_Model_isAtMost a0 s6.2.2 M).bind fun v7 => if v7 = 0 then (some (.inl (s6.1, s6.2.1, s6.2.2 + 1))) else ((f_Model_isLess s6.2.2 a1 M).bind fun v8 => if v8 = 0 then (some (.inl (s6.1, s6.2.1, s6.2.2 + 1))) else ((if s6.1 = 0 then (some 0) else ((oz_in s6.2.2 14).bind fun j10 => if (M.1 72 j10) = 0 then (some 0) else (some 1))).bind fun (z9 : Int32) => (oz_in s6.2.2 14).bind fun j13 => some (.inl (z9, s6.2.1 + (M.1 71 j13), s6.2.2 + 1))))) else (some (.inr (s6.1, s6.2.1, s6.2.2))) : Option ((Int32 × Int32 × Int32) ⊕ (Int32 × Int32 × Int32)))) (z2, 0, 0)).bind fun (y17 : Int32 × Int32 × Int32) => if y17.1 = 0 then (some ((), M)) else ((oz_in a1 14).bind fun j18 => (some (oz_s M 71 j18 (-y17.2.1))).bind fun M19 => (oz_in a1 14).bind fun j20 => (some (oz_s M19 72 j20 (vp_nar .boolean 1))).bind fun M21 => some ((), M21))
set_option maxRecDepth 20000 in
set_option maxHeartbeats 4000000 in
theorem c_Model_tell {l : Launch} {D : va_G} {cs : Nat → ClassId} {b : Nat} {a0 : Int32} {a1 : Int32} {M : oz_M} {vz : Unit} {Mz : oz_M} (hF : f_Model_tell a0 a1 M = some (vz, Mz)) : oz_Met l D cs b y_Model_tell prog_10_method_48_code 6 none (oz_rm 2) [.ref (b + 62), .int a0, .int a1] M (none) Mz := by
  refine oz_enter (by decide) (Nat.le_of_ble_eq_true rfl) (fun G cx hR e1 hRm e2 e3 e4 hnL => ?_)
  subst e1; subst e2; subst e3; subst e4
  refine (?_ : oz_R G 0 [(0, .ref (oz_b G + 62)), (1, .int a0), (2, .int a1)] [] M (f_Model_tell a0 a1 M) (fun x => x = (vz, Mz))) _ hF rfl
  unfold f_Model_tell
  refine oz_aload_n (q := 1) cx d_Model_tell_0 rfl rfl 0 rfl ?_
  refine oz_get (q := 4) cx 62 15 (by decide) (ci := 8) rfl rfl tin_Model (by decide) rfl rfl tw_801 d_Model_tell_1 rfl ?_
  refine oz_iload_n (q := 5) cx d_Model_tell_4 rfl rfl 2 rfl ?_
  refine oz_zald (q := 6) cx 72 14 (by decide) rfl d_Model_tell_5 rfl (fun j1 hj1 => ?_)
  refine oz_seq (p2 := 23) (lv2 := fun (z2 : Int32) => [(0, .ref (oz_b G + 62)), (1, .int a0), (2, .int a1)]) (st2 := fun z2 => [.int z2]) (M2 := fun z2 => M) ?_ (fun z2 => ?_)
  · refine oz_if_ne (q := 9) cx d_Model_tell_6 rfl rfl (fun h5 => ?_) (fun h5 => ?_)
    · refine oz_iconst (q := 23) cx d_Model_tell_22 rfl (v := 0) rfl ?_
      exact oz_lv [0, 1, 2] rfl (oz_leaf (fun h => h))
    · refine oz_aload_n (q := 10) cx d_Model_tell_9 rfl rfl 0 rfl ?_
      refine oz_iload_n (q := 11) cx d_Model_tell_10 rfl rfl 1 rfl ?_
      refine oz_iload_n (q := 12) cx d_Model_tell_11 rfl rfl 2 rfl ?_
      refine oz_cVip (q := 15) cx 62 [.int a0, .int a1] 2 8 hRm (by decide) (by decide) (fun _ h => c_Model_isLess h) ⟨tw_871, tw_873, ts_33, tw_9⟩ tw_874 (by decide +kernel) rfl (by decide) rfl rfl (st := []) rfl (Nat.le_of_ble_eq_true rfl) d_Model_tell_12 rfl (fun v3 hv3 => ?_)
      refine oz_if_eq (q := 18) cx d_Model_tell_15 rfl rfl (fun h4 => ?_) (fun h4 => ?_)
      · refine oz_iconst (q := 23) cx d_Model_tell_22 rfl (v := 0) rfl ?_
        exact oz_lv [0, 1, 2] rfl (oz_leaf (fun h => h))
      · refine oz_iconst (q := 19) cx d_Model_tell_18 rfl (v := 1) rfl ?_
        refine oz_goto cx d_Model_tell_19 rfl ?_
        exact oz_lv [0, 1, 2] rfl (oz_leaf (fun h => h))
  · refine oz_istore_n (q := 24) cx d_Model_tell_23 rfl rfl (by rw [hnL]; decide) (lv2 := [(3, .int z2), (0, .ref (oz_b G + 62)), (1, .int a0), (2, .int a1)]) rfl ?_
    refine oz_iconst (q := 25) cx d_Model_tell_24 rfl (v := 0) rfl ?_
    refine oz_istore (q := 27) cx d_Model_tell_25 rfl (by rw [hnL]; decide) (lv2 := [(4, .int 0), (3, .int z2), (0, .ref (oz_b G + 62)), (1, .int a0), (2, .int a1)]) rfl ?_
    refine oz_iconst (q := 28) cx d_Model_tell_27 rfl (v := 0) rfl ?_
    refine oz_istore (q := 30) cx d_Model_tell_28 rfl (by rw [hnL]; decide) (lv2 := [(5, .int 0), (4, .int 0), (3, .int z2), (0, .ref (oz_b G + 62)), (1, .int a0), (2, .int a1)]) rfl ?_
    refine oz_lv [3, 4, 5, 2, 1, 0] rfl ?_
    refine oz_seq (p2 := 97) (lv2 := fun (y17 : Int32 × Int32 × Int32) => [(0, .ref (oz_b G + 62)), (2, .int a1), (3, .int y17.1), (4, .int y17.2.1)]) (st2 := fun y17 => []) (M2 := fun y17 => M) ?_ (fun y17 => ?_)
    · refine oz_loop (Y := Int32 × Int32 × Int32) 30 (fun (s6 : Int32 × Int32 × Int32) => [(0, .ref (oz_b G + 62)), (1, .int a0), (2, .int a1), (3, .int s6.1), (4, .int s6.2.1), (5, .int s6.2.2)]) (fun (s6 : Int32 × Int32 × Int32) => M) (z2, 0, 0) (fun s6 => ?_)
      refine oz_iload (q := 32) cx d_Model_tell_30 rfl 5 rfl ?_
      refine oz_aload_n (q := 33) cx d_Model_tell_32 rfl rfl 0 rfl ?_
      refine oz_get (q := 36) cx 62 1 (by decide) (ci := 8) rfl rfl tin_Model (by decide) rfl rfl tw_787 d_Model_tell_33 rfl ?_
      refine oz_icmp_ge (q := 39) cx d_Model_tell_36 rfl rfl (fun h16 => ?_) (fun h16 => ?_)
      · exact oz_lv [0, 2, 3, 4] rfl (oz_leaf (fun h => h))
      · refine oz_aload_n (q := 40) cx d_Model_tell_39 rfl rfl 0 rfl ?_
        refine oz_iload_n (q := 41) cx d_Model_tell_40 rfl rfl 1 rfl ?_
        refine oz_iload (q := 43) cx d_Model_tell_41 rfl 5 rfl ?_
        refine oz_cVip (q := 46) cx 62 [.int a0, .int s6.2.2] 2 8 hRm (by decide) (by decide) (fun _ h => c_Model_isAtMost h) ⟨tw_1010, tw_1012, ts_51, tw_9⟩ tw_1013 (by decide +kernel) rfl (by decide) rfl rfl (st := []) rfl (Nat.le_of_ble_eq_true rfl) d_Model_tell_43 rfl (fun v7 hv7 => ?_)
        refine oz_if_eq (q := 49) cx d_Model_tell_46 rfl rfl (fun h15 => ?_) (fun h15 => ?_)
        · refine oz_iinc (q := 94) cx (s6.2.2 + 1) d_Model_tell_91 rfl 5 rfl rfl (by rw [hnL]; decide) (lv2 := [(5, .int (s6.2.2 + 1)), (0, .ref (oz_b G + 62)), (1, .int a0), (2, .int a1), (3, .int s6.1), (4, .int s6.2.1)]) rfl ?_
          refine oz_goto cx d_Model_tell_94 rfl ?_
          exact oz_lv [1, 2, 3, 4, 5, 0] rfl (oz_leaf (fun h => h))
        · refine oz_aload_n (q := 50) cx d_Model_tell_49 rfl rfl 0 rfl ?_
          refine oz_iload (q := 52) cx d_Model_tell_50 rfl 5 rfl ?_
          refine oz_iload_n (q := 53) cx d_Model_tell_52 rfl rfl 2 rfl ?_
          refine oz_cVip (q := 56) cx 62 [.int s6.2.2, .int a1] 2 8 hRm (by decide) (by decide) (fun _ h => c_Model_isLess h) ⟨tw_871, tw_873, ts_33, tw_9⟩ tw_874 (by decide +kernel) rfl (by decide) rfl rfl (st := []) rfl (Nat.le_of_ble_eq_true rfl) d_Model_tell_53 rfl (fun v8 hv8 => ?_)
          refine oz_if_eq (q := 59) cx d_Model_tell_56 rfl rfl (fun h14 => ?_) (fun h14 => ?_)
          · refine oz_iinc (q := 94) cx (s6.2.2 + 1) d_Model_tell_91 rfl 5 rfl rfl (by rw [hnL]; decide) (lv2 := [(5, .int (s6.2.2 + 1)), (0, .ref (oz_b G + 62)), (1, .int a0), (2, .int a1), (3, .int s6.1), (4, .int s6.2.1)]) rfl ?_
            refine oz_goto cx d_Model_tell_94 rfl ?_
            exact oz_lv [1, 2, 3, 4, 5, 0] rfl (oz_leaf (fun h => h))
          · refine oz_iload_n (q := 60) cx d_Model_tell_59 rfl rfl 3 rfl ?_
            refine oz_seq (p2 := 78) (lv2 := fun (z9 : Int32) => [(0, .ref (oz_b G + 62)), (1, .int a0), (2, .int a1), (4, .int s6.2.1), (5, .int s6.2.2)]) (st2 := fun z9 => [.int z9]) (M2 := fun z9 => M) ?_ (fun z9 => ?_)
            · refine oz_if_eq (q := 63) cx d_Model_tell_60 rfl rfl (fun h12 => ?_) (fun h12 => ?_)
              · refine oz_iconst (q := 78) cx d_Model_tell_77 rfl (v := 0) rfl ?_
                exact oz_lv [0, 1, 2, 4, 5] rfl (oz_leaf (fun h => h))
              · refine oz_aload_n (q := 64) cx d_Model_tell_63 rfl rfl 0 rfl ?_
                refine oz_get (q := 67) cx 62 15 (by decide) (ci := 8) rfl rfl tin_Model (by decide) rfl rfl tw_801 d_Model_tell_64 rfl ?_
                refine oz_iload (q := 69) cx d_Model_tell_67 rfl 5 rfl ?_
                refine oz_zald (q := 70) cx 72 14 (by decide) rfl d_Model_tell_69 rfl (fun j10 hj10 => ?_)
                refine oz_if_eq (q := 73) cx d_Model_tell_70 rfl rfl (fun h11 => ?_) (fun h11 => ?_)
                · refine oz_iconst (q := 78) cx d_Model_tell_77 rfl (v := 0) rfl ?_
                  exact oz_lv [0, 1, 2, 4, 5] rfl (oz_leaf (fun h => h))
                · refine oz_iconst (q := 74) cx d_Model_tell_73 rfl (v := 1) rfl ?_
                  refine oz_goto cx d_Model_tell_74 rfl ?_
                  exact oz_lv [0, 1, 2, 4, 5] rfl (oz_leaf (fun h => h))
            · refine oz_istore_n (q := 79) cx d_Model_tell_78 rfl rfl (by rw [hnL]; decide) (lv2 := [(3, .int z9), (0, .ref (oz_b G + 62)), (1, .int a0), (2, .int a1), (4, .int s6.2.1), (5, .int s6.2.2)]) rfl ?_
              refine oz_iload (q := 81) cx d_Model_tell_79 rfl 4 rfl ?_
              refine oz_aload_n (q := 82) cx d_Model_tell_81 rfl rfl 1 rfl ?_
              refine oz_get (q := 85) cx 62 14 (by decide) (ci := 8) rfl rfl tin_Model (by decide) rfl rfl tw_800 d_Model_tell_82 rfl ?_
              refine oz_iload (q := 87) cx d_Model_tell_85 rfl 5 rfl ?_
              refine oz_iald (q := 88) cx 71 14 (by decide) rfl d_Model_tell_87 rfl (fun j13 hj13 => ?_)
              refine oz_iadd (q := 89) cx d_Model_tell_88 rfl ?_
              refine oz_istore (q := 91) cx d_Model_tell_89 rfl (by rw [hnL]; decide) (lv2 := [(4, .int (s6.2.1 + (M.1 71 j13))), (3, .int z9), (0, .ref (oz_b G + 62)), (1, .int a0), (2, .int a1), (5, .int s6.2.2)]) rfl ?_
              refine oz_iinc (q := 94) cx (s6.2.2 + 1) d_Model_tell_91 rfl 5 rfl rfl (by rw [hnL]; decide) (lv2 := [(5, .int (s6.2.2 + 1)), (4, .int (s6.2.1 + (M.1 71 j13))), (3, .int z9), (0, .ref (oz_b G + 62)), (1, .int a0), (2, .int a1)]) rfl ?_
              refine oz_goto cx d_Model_tell_94 rfl ?_
              exact oz_lv [3, 4, 5, 2, 1, 0] rfl (oz_leaf (fun h => h))
    · refine oz_iload_n (q := 98) cx d_Model_tell_97 rfl rfl 2 rfl ?_
      refine oz_if_eq (q := 101) cx d_Model_tell_98 rfl rfl (fun h22 => ?_) (fun h22 => ?_)
      · exact oz_vret cx hR d_Model_tell_117
      · refine oz_aload_n (q := 102) cx d_Model_tell_101 rfl rfl 0 rfl ?_
        refine oz_get (q := 105) cx 62 14 (by decide) (ci := 8) rfl rfl tin_Model (by decide) rfl rfl tw_800 d_Model_tell_102 rfl ?_
        refine oz_iload_n (q := 106) cx d_Model_tell_105 rfl rfl 1 rfl ?_
        refine oz_iload (q := 108) cx d_Model_tell_106 rfl 3 rfl ?_
        refine oz_ineg (q := 109) cx d_Model_tell_108 rfl ?_
        refine oz_iast (q := 110) cx 71 14 (by decide) (fun _ => rfl) d_Model_tell_109 rfl (fun j18 hj18 => ?_)
        refine oz_nm (fun M19 hM19 => ?_)
        refine oz_aload_n (q := 111) cx d_Model_tell_110 rfl rfl 0 rfl ?_
        refine oz_get (q := 114) cx 62 15 (by decide) (ci := 8) rfl rfl tin_Model (by decide) rfl rfl tw_801 d_Model_tell_111 rfl ?_
        refine oz_iload_n (q := 115) cx d_Model_tell_114 rfl rfl 1 rfl ?_
        refine oz_iconst (q := 116) cx d_Model_tell_115 rfl (v := 1) rfl ?_
        refine oz_zast (q := 117) cx 72 14 (by decide) (fun _ => rfl) d_Model_tell_116 rfl (fun j20 hj20 => ?_)
        refine oz_nm (fun M21 hM21 => ?_)
        exact oz_vret cx hR d_Model_tell_117
def y_Arcs_restrict : MethodName := ⟨"OrderHall$Arcs", "restrict", "(LOrderHall$Order;I)V"⟩
theorem d_Arcs_restrict_0 : decode prog_2_method_7_code 0 = .ok (.aload_n 0, 1) := by decide +kernel
theorem d_Arcs_restrict_1 : decode prog_2_method_7_code 1 = .ok (.iload_n 2, 1) := by decide +kernel
theorem d_Arcs_restrict_2 : decode prog_2_method_7_code 2 = .ok (.invokestatic 23, 3) := by decide +kernel
theorem d_Arcs_restrict_5 : decode prog_2_method_7_code 5 = .ok (.invokevirtual 29, 3) := by decide +kernel
theorem d_Arcs_restrict_8 : decode prog_2_method_7_code 8 = .ok (.iconst 0, 1) := by decide +kernel
theorem d_Arcs_restrict_9 : decode prog_2_method_7_code 9 = .ok (.istore_n 3, 1) := by decide +kernel
theorem d_Arcs_restrict_10 : decode prog_2_method_7_code 10 = .ok (.iload_n 3, 1) := by decide +kernel
theorem d_Arcs_restrict_11 : decode prog_2_method_7_code 11 = .ok (.aload_n 1, 1) := by decide +kernel
theorem d_Arcs_restrict_12 : decode prog_2_method_7_code 12 = .ok (.getfield 33, 3) := by decide +kernel
theorem d_Arcs_restrict_15 : decode prog_2_method_7_code 15 = .ok (.if_icmp .ge 43, 3) := by decide +kernel
theorem d_Arcs_restrict_18 : decode prog_2_method_7_code 18 = .ok (.iload_n 2, 1) := by decide +kernel
theorem d_Arcs_restrict_19 : decode prog_2_method_7_code 19 = .ok (.iload_n 3, 1) := by decide +kernel
theorem d_Arcs_restrict_20 : decode prog_2_method_7_code 20 = .ok (.invokestatic 19, 3) := by decide +kernel
theorem d_Arcs_restrict_23 : decode prog_2_method_7_code 23 = .ok (.ifCond .eq 29, 3) := by decide +kernel
theorem d_Arcs_restrict_26 : decode prog_2_method_7_code 26 = .ok (.aload_n 0, 1) := by decide +kernel
theorem d_Arcs_restrict_27 : decode prog_2_method_7_code 27 = .ok (.getfield 15, 3) := by decide +kernel
theorem d_Arcs_restrict_30 : decode prog_2_method_7_code 30 = .ok (.iload_n 2, 1) := by decide +kernel
theorem d_Arcs_restrict_31 : decode prog_2_method_7_code 31 = .ok (.iload_n 3, 1) := by decide +kernel
theorem d_Arcs_restrict_32 : decode prog_2_method_7_code 32 = .ok (.invokestatic 36, 3) := by decide +kernel
theorem d_Arcs_restrict_35 : decode prog_2_method_7_code 35 = .ok (.aload_n 1, 1) := by decide +kernel
theorem d_Arcs_restrict_36 : decode prog_2_method_7_code 36 = .ok (.getfield 40, 3) := by decide +kernel
theorem d_Arcs_restrict_39 : decode prog_2_method_7_code 39 = .ok (.iload_n 3, 1) := by decide +kernel
theorem d_Arcs_restrict_40 : decode prog_2_method_7_code 40 = .ok (.iaload, 1) := by decide +kernel
theorem d_Arcs_restrict_41 : decode prog_2_method_7_code 41 = .ok (.iload_n 2, 1) := by decide +kernel
theorem d_Arcs_restrict_42 : decode prog_2_method_7_code 42 = .ok (.iand, 1) := by decide +kernel
theorem d_Arcs_restrict_43 : decode prog_2_method_7_code 43 = .ok (.iload_n 2, 1) := by decide +kernel
theorem d_Arcs_restrict_44 : decode prog_2_method_7_code 44 = .ok (.aload_n 1, 1) := by decide +kernel
theorem d_Arcs_restrict_45 : decode prog_2_method_7_code 45 = .ok (.getfield 33, 3) := by decide +kernel
theorem d_Arcs_restrict_48 : decode prog_2_method_7_code 48 = .ok (.invokestatic 43, 3) := by decide +kernel
theorem d_Arcs_restrict_51 : decode prog_2_method_7_code 51 = .ok (.iastore, 1) := by decide +kernel
theorem d_Arcs_restrict_52 : decode prog_2_method_7_code 52 = .ok (.iinc 3 1, 3) := by decide +kernel
theorem d_Arcs_restrict_55 : decode prog_2_method_7_code 55 = .ok (.goto (-45), 3) := by decide +kernel
theorem d_Arcs_restrict_58 : decode prog_2_method_7_code 58 = .ok (.return_, 1) := by decide +kernel
noncomputable def f_Arcs_restrict (a1 : Int32) (M : oz_M) : Option (Unit × oz_M) := (f_Integer_bitCount a1 M).bind fun v1 => oz_b2 (f_Arcs_clear v1 M) fun v2 M3 => (oz_lp (fun (s4 : Int32 × oz_M) => (if s4.1 < (s4.2.1 6 0) then ((f_Hall_has a1 s4.1 s4.2).bind fun v5 => if v5 = 0 then (some (.inl (s4.1 + 1, s4.2))) else ((f_Arcs_numberIn a1 s4.1 s4.2).bind fun v6 => (oz_in s4.1 14).bind fun j7 => (f_Arcs_renumbered ((s4.2.1 8 j7) &&& a1) a1 (s4.2.1 6 0) s4.2).bind fun v8 => (oz_in v6 14).bind fun j9 => (some (oz_s s4.2 2 j9 v8)).bind fun M10 => some (.inl (s4.1 + 1, M10)))) else (some (.inr (s4.1, s4.2))) : Option ((Int32 × oz_M) ⊕ (Int32 × oz_M)))) (0, M3)).bind fun (y13 : Int32 × oz_M) => some ((), y13.2)
set_option maxRecDepth 20000 in
set_option maxHeartbeats 4000000 in
theorem c_Arcs_restrict {l : Launch} {D : va_G} {cs : Nat → ClassId} {b : Nat} {a1 : Int32} {M : oz_M} {vz : Unit} {Mz : oz_M} (hF : f_Arcs_restrict a1 M = some (vz, Mz)) : oz_Met l D cs b y_Arcs_restrict prog_2_method_7_code 4 none (oz_rm 3) [.ref (b + 1), .ref (b + 6), .int a1] M (none) Mz := by
  refine oz_enter (by decide) (Nat.le_of_ble_eq_true rfl) (fun G cx hR e1 hRm e2 e3 e4 hnL => ?_)
  subst e1; subst e2; subst e3; subst e4
  refine (?_ : oz_R G 0 [(0, .ref (oz_b G + 1)), (1, .ref (oz_b G + 6)), (2, .int a1)] [] M (f_Arcs_restrict a1 M) (fun x => x = (vz, Mz))) _ hF rfl
  unfold f_Arcs_restrict
  refine oz_aload_n (q := 1) cx d_Arcs_restrict_0 rfl rfl 0 rfl ?_
  refine oz_iload_n (q := 2) cx d_Arcs_restrict_1 rfl rfl 2 rfl ?_
  refine oz_cSip (q := 5) cx [.int a1] 1 hRm (by decide) (by decide) (fun _ h => c_Integer_bitCount h) ⟨tw_718, tw_309, tw_15⟩ tw_310 (by decide +kernel) rfl (st := [.ref (oz_b G + 1)]) rfl (Nat.le_of_ble_eq_true rfl) d_Arcs_restrict_2 rfl (fun v1 hv1 => ?_)
  refine oz_cVv (q := 8) cx 1 [.int v1] 1 1 hRm (by decide) (by decide) (fun _ _ h => c_Arcs_clear h) ⟨tw_719, tw_431, tw_432, tw_2⟩ tw_433 (by decide +kernel) rfl (by decide) rfl rfl (st := []) rfl (Nat.le_of_ble_eq_true rfl) d_Arcs_restrict_5 rfl (fun v2 M3 hv2 => ?_)
  refine oz_iconst (q := 9) cx d_Arcs_restrict_8 rfl (v := 0) rfl ?_
  refine oz_istore_n (q := 10) cx d_Arcs_restrict_9 rfl rfl (by rw [hnL]; decide) (lv2 := [(3, .int 0), (0, .ref (oz_b G + 1)), (1, .ref (oz_b G + 6)), (2, .int a1)]) rfl ?_
  refine oz_lv [1, 2, 3, 0] rfl ?_
  refine oz_seq (p2 := 58) (lv2 := fun (y13 : Int32 × oz_M) => []) (st2 := fun y13 => []) (M2 := fun y13 => y13.2) ?_ (fun y13 => ?_)
  · refine oz_loop (Y := Int32 × oz_M) 10 (fun (s4 : Int32 × oz_M) => [(0, .ref (oz_b G + 1)), (1, .ref (oz_b G + 6)), (2, .int a1), (3, .int s4.1)]) (fun (s4 : Int32 × oz_M) => s4.2) (0, M3) (fun s4 => ?_)
    refine oz_iload_n (q := 11) cx d_Arcs_restrict_10 rfl rfl 3 rfl ?_
    refine oz_aload_n (q := 12) cx d_Arcs_restrict_11 rfl rfl 1 rfl ?_
    refine oz_get (q := 15) cx 6 0 (by decide) (ci := 3) rfl rfl tin_Order (by decide) rfl rfl tw_75 d_Arcs_restrict_12 rfl ?_
    refine oz_icmp_ge (q := 18) cx d_Arcs_restrict_15 rfl rfl (fun h12 => ?_) (fun h12 => ?_)
    · exact oz_lv [] rfl (oz_leaf (fun h => h))
    · refine oz_iload_n (q := 19) cx d_Arcs_restrict_18 rfl rfl 2 rfl ?_
      refine oz_iload_n (q := 20) cx d_Arcs_restrict_19 rfl rfl 3 rfl ?_
      refine oz_cSNip (q := 23) cx [.int a1, .int s4.1] 2 hRm (by decide) (by decide) (fun _ h => c_Hall_has h) tn_465 ⟨tw_274, tw_1⟩ tw_275 (by decide +kernel) rfl (st := []) rfl (Nat.le_of_ble_eq_true rfl) d_Arcs_restrict_20 rfl (fun v5 hv5 => ?_)
      refine oz_if_eq (q := 26) cx d_Arcs_restrict_23 rfl rfl (fun h11 => ?_) (fun h11 => ?_)
      · refine oz_iinc (q := 55) cx (s4.1 + 1) d_Arcs_restrict_52 rfl 3 rfl rfl (by rw [hnL]; decide) (lv2 := [(3, .int (s4.1 + 1)), (0, .ref (oz_b G + 1)), (1, .ref (oz_b G + 6)), (2, .int a1)]) rfl ?_
        refine oz_goto cx d_Arcs_restrict_55 rfl ?_
        exact oz_lv [1, 2, 3, 0] rfl (oz_leaf (fun h => h))
      · refine oz_aload_n (q := 27) cx d_Arcs_restrict_26 rfl rfl 0 rfl ?_
        refine oz_get (q := 30) cx 1 1 (by decide) (ci := 1) rfl rfl tin_Arcs (by decide) rfl rfl tw_36 d_Arcs_restrict_27 rfl ?_
        refine oz_iload_n (q := 31) cx d_Arcs_restrict_30 rfl rfl 2 rfl ?_
        refine oz_iload_n (q := 32) cx d_Arcs_restrict_31 rfl rfl 3 rfl ?_
        refine oz_cSip (q := 35) cx [.int a1, .int s4.1] 2 hRm (by decide) (by decide) (fun _ h => c_Arcs_numberIn h) ⟨tw_720, tw_721, tw_2⟩ tw_722 (by decide +kernel) rfl (st := [.ref (oz_b G + 2)]) rfl (Nat.le_of_ble_eq_true rfl) d_Arcs_restrict_32 rfl (fun v6 hv6 => ?_)
        refine oz_aload_n (q := 36) cx d_Arcs_restrict_35 rfl rfl 1 rfl ?_
        refine oz_get (q := 39) cx 6 2 (by decide) (ci := 3) rfl rfl tin_Order (by decide) rfl rfl tw_85 d_Arcs_restrict_36 rfl ?_
        refine oz_iload_n (q := 40) cx d_Arcs_restrict_39 rfl rfl 3 rfl ?_
        refine oz_iald (q := 41) cx 8 14 (by decide) rfl d_Arcs_restrict_40 rfl (fun j7 hj7 => ?_)
        refine oz_iload_n (q := 42) cx d_Arcs_restrict_41 rfl rfl 2 rfl ?_
        refine oz_iand (q := 43) cx d_Arcs_restrict_42 rfl ?_
        refine oz_iload_n (q := 44) cx d_Arcs_restrict_43 rfl rfl 2 rfl ?_
        refine oz_aload_n (q := 45) cx d_Arcs_restrict_44 rfl rfl 1 rfl ?_
        refine oz_get (q := 48) cx 6 0 (by decide) (ci := 3) rfl rfl tin_Order (by decide) rfl rfl tw_75 d_Arcs_restrict_45 rfl ?_
        refine oz_cSip (q := 51) cx [.int ((s4.2.1 8 j7) &&& a1), .int a1, .int (s4.2.1 6 0)] 3 hRm (by decide) (by decide) (fun _ h => c_Arcs_renumbered h) ⟨tw_723, tw_724, tw_2⟩ tw_725 (by decide +kernel) rfl (st := [.int v6, .ref (oz_b G + 2)]) rfl (Nat.le_of_ble_eq_true rfl) d_Arcs_restrict_48 rfl (fun v8 hv8 => ?_)
        refine oz_iast (q := 52) cx 2 14 (by decide) (fun _ => rfl) d_Arcs_restrict_51 rfl (fun j9 hj9 => ?_)
        refine oz_nm (fun M10 hM10 => ?_)
        refine oz_iinc (q := 55) cx (s4.1 + 1) d_Arcs_restrict_52 rfl 3 rfl rfl (by rw [hnL]; decide) (lv2 := [(3, .int (s4.1 + 1)), (0, .ref (oz_b G + 1)), (1, .ref (oz_b G + 6)), (2, .int a1)]) rfl ?_
        refine oz_goto cx d_Arcs_restrict_55 rfl ?_
        exact oz_lv [1, 2, 3, 0] rfl (oz_leaf (fun h => h))
  · exact oz_vret cx hR d_Arcs_restrict_58
def y_Bounds_complete : MethodName := ⟨"OrderHall$Bounds", "complete", "()Z"⟩
theorem d_Bounds_complete_0 : decode prog_3_method_6_code 0 = .ok (.iconst 0, 1) := by decide +kernel
theorem d_Bounds_complete_1 : decode prog_3_method_6_code 1 = .ok (.istore_n 1, 1) := by decide +kernel
theorem d_Bounds_complete_2 : decode prog_3_method_6_code 2 = .ok (.iload_n 1, 1) := by decide +kernel
theorem d_Bounds_complete_3 : decode prog_3_method_6_code 3 = .ok (.aload_n 0, 1) := by decide +kernel
theorem d_Bounds_complete_4 : decode prog_3_method_6_code 4 = .ok (.getfield 19, 3) := by decide +kernel
theorem d_Bounds_complete_7 : decode prog_3_method_6_code 7 = .ok (.getfield 40, 3) := by decide +kernel
theorem d_Bounds_complete_10 : decode prog_3_method_6_code 10 = .ok (.if_icmp .ge 82, 3) := by decide +kernel
theorem d_Bounds_complete_13 : decode prog_3_method_6_code 13 = .ok (.iconst 0, 1) := by decide +kernel
theorem d_Bounds_complete_14 : decode prog_3_method_6_code 14 = .ok (.istore_n 2, 1) := by decide +kernel
theorem d_Bounds_complete_15 : decode prog_3_method_6_code 15 = .ok (.iload_n 2, 1) := by decide +kernel
theorem d_Bounds_complete_16 : decode prog_3_method_6_code 16 = .ok (.aload_n 0, 1) := by decide +kernel
theorem d_Bounds_complete_17 : decode prog_3_method_6_code 17 = .ok (.getfield 19, 3) := by decide +kernel
theorem d_Bounds_complete_20 : decode prog_3_method_6_code 20 = .ok (.getfield 40, 3) := by decide +kernel
theorem d_Bounds_complete_23 : decode prog_3_method_6_code 23 = .ok (.if_icmp .ge 63, 3) := by decide +kernel
theorem d_Bounds_complete_26 : decode prog_3_method_6_code 26 = .ok (.aload_n 0, 1) := by decide +kernel
theorem d_Bounds_complete_27 : decode prog_3_method_6_code 27 = .ok (.getfield 11, 3) := by decide +kernel
theorem d_Bounds_complete_30 : decode prog_3_method_6_code 30 = .ok (.iload_n 1, 1) := by decide +kernel
theorem d_Bounds_complete_31 : decode prog_3_method_6_code 31 = .ok (.aaload, 1) := by decide +kernel
theorem d_Bounds_complete_32 : decode prog_3_method_6_code 32 = .ok (.iload_n 2, 1) := by decide +kernel
theorem d_Bounds_complete_33 : decode prog_3_method_6_code 33 = .ok (.aload_n 0, 1) := by decide +kernel
theorem d_Bounds_complete_34 : decode prog_3_method_6_code 34 = .ok (.iload_n 1, 1) := by decide +kernel
theorem d_Bounds_complete_35 : decode prog_3_method_6_code 35 = .ok (.iload_n 2, 1) := by decide +kernel
theorem d_Bounds_complete_36 : decode prog_3_method_6_code 36 = .ok (.invokevirtual 48, 3) := by decide +kernel
theorem d_Bounds_complete_39 : decode prog_3_method_6_code 39 = .ok (.iastore, 1) := by decide +kernel
theorem d_Bounds_complete_40 : decode prog_3_method_6_code 40 = .ok (.aload_n 0, 1) := by decide +kernel
theorem d_Bounds_complete_41 : decode prog_3_method_6_code 41 = .ok (.getfield 16, 3) := by decide +kernel
theorem d_Bounds_complete_44 : decode prog_3_method_6_code 44 = .ok (.iload_n 1, 1) := by decide +kernel
theorem d_Bounds_complete_45 : decode prog_3_method_6_code 45 = .ok (.aaload, 1) := by decide +kernel
theorem d_Bounds_complete_46 : decode prog_3_method_6_code 46 = .ok (.iload_n 2, 1) := by decide +kernel
theorem d_Bounds_complete_47 : decode prog_3_method_6_code 47 = .ok (.aload_n 0, 1) := by decide +kernel
theorem d_Bounds_complete_48 : decode prog_3_method_6_code 48 = .ok (.iload_n 1, 1) := by decide +kernel
theorem d_Bounds_complete_49 : decode prog_3_method_6_code 49 = .ok (.iload_n 2, 1) := by decide +kernel
theorem d_Bounds_complete_50 : decode prog_3_method_6_code 50 = .ok (.invokevirtual 52, 3) := by decide +kernel
theorem d_Bounds_complete_53 : decode prog_3_method_6_code 53 = .ok (.iastore, 1) := by decide +kernel
theorem d_Bounds_complete_54 : decode prog_3_method_6_code 54 = .ok (.aload_n 0, 1) := by decide +kernel
theorem d_Bounds_complete_55 : decode prog_3_method_6_code 55 = .ok (.getfield 11, 3) := by decide +kernel
theorem d_Bounds_complete_58 : decode prog_3_method_6_code 58 = .ok (.iload_n 1, 1) := by decide +kernel
theorem d_Bounds_complete_59 : decode prog_3_method_6_code 59 = .ok (.aaload, 1) := by decide +kernel
theorem d_Bounds_complete_60 : decode prog_3_method_6_code 60 = .ok (.iload_n 2, 1) := by decide +kernel
theorem d_Bounds_complete_61 : decode prog_3_method_6_code 61 = .ok (.iaload, 1) := by decide +kernel
theorem d_Bounds_complete_62 : decode prog_3_method_6_code 62 = .ok (.iconst (-1), 1) := by decide +kernel
theorem d_Bounds_complete_63 : decode prog_3_method_6_code 63 = .ok (.if_icmp .eq 15, 3) := by decide +kernel
theorem d_Bounds_complete_66 : decode prog_3_method_6_code 66 = .ok (.aload_n 0, 1) := by decide +kernel
theorem d_Bounds_complete_67 : decode prog_3_method_6_code 67 = .ok (.getfield 16, 3) := by decide +kernel
theorem d_Bounds_complete_70 : decode prog_3_method_6_code 70 = .ok (.iload_n 1, 1) := by decide +kernel
theorem d_Bounds_complete_71 : decode prog_3_method_6_code 71 = .ok (.aaload, 1) := by decide +kernel
theorem d_Bounds_complete_72 : decode prog_3_method_6_code 72 = .ok (.iload_n 2, 1) := by decide +kernel
theorem d_Bounds_complete_73 : decode prog_3_method_6_code 73 = .ok (.iaload, 1) := by decide +kernel
theorem d_Bounds_complete_74 : decode prog_3_method_6_code 74 = .ok (.iconst (-1), 1) := by decide +kernel
theorem d_Bounds_complete_75 : decode prog_3_method_6_code 75 = .ok (.if_icmp .ne 5, 3) := by decide +kernel
theorem d_Bounds_complete_78 : decode prog_3_method_6_code 78 = .ok (.iconst 0, 1) := by decide +kernel
theorem d_Bounds_complete_79 : decode prog_3_method_6_code 79 = .ok (.ireturn, 1) := by decide +kernel
theorem d_Bounds_complete_80 : decode prog_3_method_6_code 80 = .ok (.iinc 2 1, 3) := by decide +kernel
theorem d_Bounds_complete_83 : decode prog_3_method_6_code 83 = .ok (.goto (-68), 3) := by decide +kernel
theorem d_Bounds_complete_86 : decode prog_3_method_6_code 86 = .ok (.iinc 1 1, 3) := by decide +kernel
theorem d_Bounds_complete_89 : decode prog_3_method_6_code 89 = .ok (.goto (-87), 3) := by decide +kernel
theorem d_Bounds_complete_92 : decode prog_3_method_6_code 92 = .ok (.iconst 1, 1) := by decide +kernel
theorem d_Bounds_complete_93 : decode prog_3_method_6_code 93 = .ok (.ireturn, 1) := by decide +kernel
noncomputable def f_Bounds_complete (M : oz_M) : Option (Int32 × oz_M) := (oz_lp (fun (s1 : Int32 × oz_M) => (if s1.1 < (s1.2.1 6 0) then ((oz_lp (fun (s2 : Int32 × oz_M) => (if s2.1 < (s2.2.1 6 0) then ((oz_in s1.1 14).bind fun j3 => (f_Bounds_lower s1.1 s2.1 s2.2).bind fun v4 => (oz_in s2.1 14).bind fun j5 => (some (oz_s s2.2 (16 + j3) j5 v4)).bind fun M6 => (oz_in s1.1 14).bind fun j7 => (f_Bounds_upper s1.1 s2.1 M6).bind fun v8 => (oz_in s2.1 14).bind fun j9 => (some (oz_s M6 (31 + j7) j9 v8)).bind fun M10 => (oz_in s1.1 14).bind fun j11 => (oz_in s2.1 14).bind fun j12 => if (M10.1 (16 + j11) j12) = (-1) then (((oz_z 0).bind fun z => some (z, M10)).bind fun z => some (.inr (.inr z))) else ((oz_in s1.1 14).bind fun j13 => (oz_in s2.1 14).bind fun j14 => if (M10.1 (31 + j13) j14) = (-1) then (((oz_z 0).bind fun z => some (z, M10)).bind fun z => some (.inr (.inr z))) else (some (.inl (s2.1 + 1, M10))))) else (some (.inr (.inl (s2.1, s2.2)))) : Option ((Int32 × oz_M) ⊕ ((Int32 × oz_M) ⊕ (Int32 × oz_M))))) (0, s1.2)).bind (oz_el (fun (y18 : Int32 × oz_M) => some (.inl (s1.1 + 1, y18.2))) (fun r19 => some (.inr (.inr r19))))) else (some (.inr (.inl (s1.1, s1.2)))) : Option ((Int32 × oz_M) ⊕ ((Int32 × oz_M) ⊕ (Int32 × oz_M))))) (0, M)).bind (oz_el (fun (y21 : Int32 × oz_M) => (oz_z 1).bind fun z => some (z, y21.2)) (fun r22 => some (r22)))
set_option maxRecDepth 20000 in
set_option maxHeartbeats 4000000 in
theorem c_Bounds_complete {l : Launch} {D : va_G} {cs : Nat → ClassId} {b : Nat} {M : oz_M} {vz : Int32} {Mz : oz_M} (hF : f_Bounds_complete M = some (vz, Mz)) : oz_Met l D cs b y_Bounds_complete prog_3_method_6_code 3 (some .boolean) (oz_rm 3) [.ref (b + 14)] M (some (.int vz)) Mz := by
  refine oz_enter (by decide) (Nat.le_of_ble_eq_true rfl) (fun G cx hR e1 hRm e2 e3 e4 hnL => ?_)
  subst e1; subst e2; subst e3; subst e4
  refine (?_ : oz_R G 0 [(0, .ref (oz_b G + 14))] [] M (f_Bounds_complete  M) (fun x => x = (vz, Mz))) _ hF rfl
  unfold f_Bounds_complete
  refine oz_iconst (q := 1) cx d_Bounds_complete_0 rfl (v := 0) rfl ?_
  refine oz_istore_n (q := 2) cx d_Bounds_complete_1 rfl rfl (by rw [hnL]; decide) (lv2 := [(1, .int 0), (0, .ref (oz_b G + 14))]) rfl ?_
  refine oz_lv [1, 0] rfl ?_
  refine oz_seqE (p2 := 92) (lv2 := fun (y21 : Int32 × oz_M) => []) (M2 := fun y21 => y21.2) (fun x => x = (vz, Mz)) ?_ (fun y21 => ?_) (fun _ _ hx hK => by cases hx; exact hK)
  · refine oz_loop (Y := (Int32 × oz_M) ⊕ (Int32 × oz_M)) 2 (fun (s1 : Int32 × oz_M) => [(0, .ref (oz_b G + 14)), (1, .int s1.1)]) (fun (s1 : Int32 × oz_M) => s1.2) (0, M) (fun s1 => ?_)
    refine oz_iload_n (q := 3) cx d_Bounds_complete_2 rfl rfl 1 rfl ?_
    refine oz_aload_n (q := 4) cx d_Bounds_complete_3 rfl rfl 0 rfl ?_
    refine oz_get (q := 7) cx 14 0 (by decide) (ci := 4) rfl rfl tin_Bounds (by decide) rfl rfl tw_123 d_Bounds_complete_4 rfl ?_
    refine oz_get (q := 10) cx 6 0 (by decide) (ci := 3) rfl rfl tin_Order (by decide) rfl rfl tw_73 d_Bounds_complete_7 rfl ?_
    refine oz_icmp_ge (q := 13) cx d_Bounds_complete_10 rfl rfl (fun h20 => ?_) (fun h20 => ?_)
    · exact oz_lv [] rfl (oz_leaf (fun h => h))
    · refine oz_iconst (q := 14) cx d_Bounds_complete_13 rfl (v := 0) rfl ?_
      refine oz_istore_n (q := 15) cx d_Bounds_complete_14 rfl rfl (by rw [hnL]; decide) (lv2 := [(2, .int 0), (0, .ref (oz_b G + 14)), (1, .int s1.1)]) rfl ?_
      refine oz_lv [1, 2, 0] rfl ?_
      refine oz_seqE (p2 := 86) (lv2 := fun (y18 : Int32 × oz_M) => [(0, .ref (oz_b G + 14)), (1, .int s1.1)]) (M2 := fun y18 => y18.2) (fun x => x = (vz, Mz)) ?_ (fun y18 => ?_) (fun _ _ hx hK => by cases hx; exact hK)
      · refine oz_loop (Y := (Int32 × oz_M) ⊕ (Int32 × oz_M)) 15 (fun (s2 : Int32 × oz_M) => [(0, .ref (oz_b G + 14)), (1, .int s1.1), (2, .int s2.1)]) (fun (s2 : Int32 × oz_M) => s2.2) (0, s1.2) (fun s2 => ?_)
        refine oz_iload_n (q := 16) cx d_Bounds_complete_15 rfl rfl 2 rfl ?_
        refine oz_aload_n (q := 17) cx d_Bounds_complete_16 rfl rfl 0 rfl ?_
        refine oz_get (q := 20) cx 14 0 (by decide) (ci := 4) rfl rfl tin_Bounds (by decide) rfl rfl tw_123 d_Bounds_complete_17 rfl ?_
        refine oz_get (q := 23) cx 6 0 (by decide) (ci := 3) rfl rfl tin_Order (by decide) rfl rfl tw_73 d_Bounds_complete_20 rfl ?_
        refine oz_icmp_ge (q := 26) cx d_Bounds_complete_23 rfl rfl (fun h17 => ?_) (fun h17 => ?_)
        · exact oz_lv [0, 1] rfl (oz_leaf (fun h => h))
        · refine oz_aload_n (q := 27) cx d_Bounds_complete_26 rfl rfl 0 rfl ?_
          refine oz_get (q := 30) cx 14 1 (by decide) (ci := 4) rfl rfl tin_Bounds (by decide) rfl rfl tw_124 d_Bounds_complete_27 rfl ?_
          refine oz_iload_n (q := 31) cx d_Bounds_complete_30 rfl rfl 1 rfl ?_
          refine oz_aald (q := 32) cx 15 14 16 (by decide) rfl d_Bounds_complete_31 rfl (fun j3 hj3 => ?_)
          refine oz_iload_n (q := 33) cx d_Bounds_complete_32 rfl rfl 2 rfl ?_
          refine oz_aload_n (q := 34) cx d_Bounds_complete_33 rfl rfl 0 rfl ?_
          refine oz_iload_n (q := 35) cx d_Bounds_complete_34 rfl rfl 1 rfl ?_
          refine oz_iload_n (q := 36) cx d_Bounds_complete_35 rfl rfl 2 rfl ?_
          refine oz_cVip (q := 39) cx 14 [.int s1.1, .int s2.1] 2 4 hRm (by decide) (by decide) (fun _ h => c_Bounds_lower h) ⟨tw_677, tw_651, tw_652, tw_5⟩ tw_653 (by decide +kernel) rfl (by decide) rfl rfl (st := [.int s2.1, .ref (oz_b G + (16 + j3))]) rfl (Nat.le_of_ble_eq_true rfl) d_Bounds_complete_36 rfl (fun v4 hv4 => ?_)
          refine oz_iast (q := 40) cx (16 + j3) 14 (oz_g15l (oz_lt hj3)) (fun _ => (oz_g15 (oz_lt hj3))) d_Bounds_complete_39 rfl (fun j5 hj5 => ?_)
          refine oz_nm (fun M6 hM6 => ?_)
          refine oz_aload_n (q := 41) cx d_Bounds_complete_40 rfl rfl 0 rfl ?_
          refine oz_get (q := 44) cx 14 2 (by decide) (ci := 4) rfl rfl tin_Bounds (by decide) rfl rfl tw_125 d_Bounds_complete_41 rfl ?_
          refine oz_iload_n (q := 45) cx d_Bounds_complete_44 rfl rfl 1 rfl ?_
          refine oz_aald (q := 46) cx 30 14 31 (by decide) rfl d_Bounds_complete_45 rfl (fun j7 hj7 => ?_)
          refine oz_iload_n (q := 47) cx d_Bounds_complete_46 rfl rfl 2 rfl ?_
          refine oz_aload_n (q := 48) cx d_Bounds_complete_47 rfl rfl 0 rfl ?_
          refine oz_iload_n (q := 49) cx d_Bounds_complete_48 rfl rfl 1 rfl ?_
          refine oz_iload_n (q := 50) cx d_Bounds_complete_49 rfl rfl 2 rfl ?_
          refine oz_cVip (q := 53) cx 14 [.int s1.1, .int s2.1] 2 4 hRm (by decide) (by decide) (fun _ h => c_Bounds_upper h) ⟨tw_678, tw_663, tw_664, tw_5⟩ tw_665 (by decide +kernel) rfl (by decide) rfl rfl (st := [.int s2.1, .ref (oz_b G + (31 + j7))]) rfl (Nat.le_of_ble_eq_true rfl) d_Bounds_complete_50 rfl (fun v8 hv8 => ?_)
          refine oz_iast (q := 54) cx (31 + j7) 14 (oz_g30l (oz_lt hj7)) (fun _ => (oz_g30 (oz_lt hj7))) d_Bounds_complete_53 rfl (fun j9 hj9 => ?_)
          refine oz_nm (fun M10 hM10 => ?_)
          refine oz_aload_n (q := 55) cx d_Bounds_complete_54 rfl rfl 0 rfl ?_
          refine oz_get (q := 58) cx 14 1 (by decide) (ci := 4) rfl rfl tin_Bounds (by decide) rfl rfl tw_124 d_Bounds_complete_55 rfl ?_
          refine oz_iload_n (q := 59) cx d_Bounds_complete_58 rfl rfl 1 rfl ?_
          refine oz_aald (q := 60) cx 15 14 16 (by decide) rfl d_Bounds_complete_59 rfl (fun j11 hj11 => ?_)
          refine oz_iload_n (q := 61) cx d_Bounds_complete_60 rfl rfl 2 rfl ?_
          refine oz_iald (q := 62) cx (16 + j11) 14 (oz_g15l (oz_lt hj11)) (oz_g15 (oz_lt hj11)) d_Bounds_complete_61 rfl (fun j12 hj12 => ?_)
          refine oz_iconst (q := 63) cx d_Bounds_complete_62 rfl (v := (-1)) rfl ?_
          refine oz_icmp_eq (q := 66) cx d_Bounds_complete_63 rfl rfl (fun h16 => ?_) (fun h16 => ?_)
          · refine oz_iconst (q := 79) cx d_Bounds_complete_78 rfl (v := 0) rfl ?_
            exact oz_wrapz (oz_zret cx hR d_Bounds_complete_79) (fun _ h => h)
          · refine oz_aload_n (q := 67) cx d_Bounds_complete_66 rfl rfl 0 rfl ?_
            refine oz_get (q := 70) cx 14 2 (by decide) (ci := 4) rfl rfl tin_Bounds (by decide) rfl rfl tw_125 d_Bounds_complete_67 rfl ?_
            refine oz_iload_n (q := 71) cx d_Bounds_complete_70 rfl rfl 1 rfl ?_
            refine oz_aald (q := 72) cx 30 14 31 (by decide) rfl d_Bounds_complete_71 rfl (fun j13 hj13 => ?_)
            refine oz_iload_n (q := 73) cx d_Bounds_complete_72 rfl rfl 2 rfl ?_
            refine oz_iald (q := 74) cx (31 + j13) 14 (oz_g30l (oz_lt hj13)) (oz_g30 (oz_lt hj13)) d_Bounds_complete_73 rfl (fun j14 hj14 => ?_)
            refine oz_iconst (q := 75) cx d_Bounds_complete_74 rfl (v := (-1)) rfl ?_
            refine oz_icmp_ne (q := 78) cx d_Bounds_complete_75 rfl rfl (fun h15 => ?_) (fun h15 => ?_)
            · refine oz_iinc (q := 83) cx (s2.1 + 1) d_Bounds_complete_80 rfl 2 rfl rfl (by rw [hnL]; decide) (lv2 := [(2, .int (s2.1 + 1)), (0, .ref (oz_b G + 14)), (1, .int s1.1)]) rfl ?_
              refine oz_goto cx d_Bounds_complete_83 rfl ?_
              exact oz_lv [1, 2, 0] rfl (oz_leaf (fun h => h))
            · refine oz_iconst (q := 79) cx d_Bounds_complete_78 rfl (v := 0) rfl ?_
              exact oz_wrapz (oz_zret cx hR d_Bounds_complete_79) (fun _ h => h)
      · refine oz_iinc (q := 89) cx (s1.1 + 1) d_Bounds_complete_86 rfl 1 rfl rfl (by rw [hnL]; decide) (lv2 := [(1, .int (s1.1 + 1)), (0, .ref (oz_b G + 14))]) rfl ?_
        refine oz_goto cx d_Bounds_complete_89 rfl ?_
        exact oz_lv [1, 0] rfl (oz_leaf (fun h => h))
  · refine oz_iconst (q := 93) cx d_Bounds_complete_92 rfl (v := 1) rfl ?_
    exact oz_zret cx hR d_Bounds_complete_93
def y_Held_measure : MethodName := ⟨"OrderHall$Held", "measure", "()V"⟩
theorem d_Held_measure_0 : decode prog_4_method_2_code 0 = .ok (.aload_n 0, 1) := by decide +kernel
theorem d_Held_measure_1 : decode prog_4_method_2_code 1 = .ok (.getfield 9, 3) := by decide +kernel
theorem d_Held_measure_4 : decode prog_4_method_2_code 4 = .ok (.ifCond .eq 4, 3) := by decide +kernel
theorem d_Held_measure_7 : decode prog_4_method_2_code 7 = .ok (.return_, 1) := by decide +kernel
theorem d_Held_measure_8 : decode prog_4_method_2_code 8 = .ok (.aload_n 0, 1) := by decide +kernel
theorem d_Held_measure_9 : decode prog_4_method_2_code 9 = .ok (.iconst 0, 1) := by decide +kernel
theorem d_Held_measure_10 : decode prog_4_method_2_code 10 = .ok (.invokevirtual 41, 3) := by decide +kernel
theorem d_Held_measure_13 : decode prog_4_method_2_code 13 = .ok (.aload_n 0, 1) := by decide +kernel
theorem d_Held_measure_14 : decode prog_4_method_2_code 14 = .ok (.iconst 1, 1) := by decide +kernel
theorem d_Held_measure_15 : decode prog_4_method_2_code 15 = .ok (.invokevirtual 41, 3) := by decide +kernel
theorem d_Held_measure_18 : decode prog_4_method_2_code 18 = .ok (.aload_n 0, 1) := by decide +kernel
theorem d_Held_measure_19 : decode prog_4_method_2_code 19 = .ok (.invokevirtual 45, 3) := by decide +kernel
theorem d_Held_measure_22 : decode prog_4_method_2_code 22 = .ok (.aload_n 0, 1) := by decide +kernel
theorem d_Held_measure_23 : decode prog_4_method_2_code 23 = .ok (.iconst 1, 1) := by decide +kernel
theorem d_Held_measure_24 : decode prog_4_method_2_code 24 = .ok (.putfield 9, 3) := by decide +kernel
theorem d_Held_measure_27 : decode prog_4_method_2_code 27 = .ok (.return_, 1) := by decide +kernel
noncomputable def f_Held_measure (M : oz_M) : Option (Unit × oz_M) := if (M.1 45 0) = 0 then (oz_b2 (f_Held_measureKind 0 M) fun v1 M2 => oz_b2 (f_Held_measureKind 1 M2) fun v3 M4 => oz_b2 (f_Held_countAntichains M4) fun v5 M6 => (some (oz_s M6 45 0 1)).bind fun M7 => some ((), M7)) else (some ((), M))
set_option maxRecDepth 20000 in
set_option maxHeartbeats 4000000 in
theorem c_Held_measure {l : Launch} {D : va_G} {cs : Nat → ClassId} {b : Nat} {M : oz_M} {vz : Unit} {Mz : oz_M} (hF : f_Held_measure M = some (vz, Mz)) : oz_Met l D cs b y_Held_measure prog_4_method_2_code 1 none (oz_rm 3) [.ref (b + 45)] M (none) Mz := by
  refine oz_enter (by decide) (Nat.le_of_ble_eq_true rfl) (fun G cx hR e1 hRm e2 e3 e4 hnL => ?_)
  subst e1; subst e2; subst e3; subst e4
  refine (?_ : oz_R G 0 [(0, .ref (oz_b G + 45))] [] M (f_Held_measure  M) (fun x => x = (vz, Mz))) _ hF rfl
  unfold f_Held_measure
  refine oz_aload_n (q := 1) cx d_Held_measure_0 rfl rfl 0 rfl ?_
  refine oz_get (q := 4) cx 45 0 (by decide) (ci := 5) rfl rfl tin_Held (by decide) rfl rfl tw_140 d_Held_measure_1 rfl ?_
  refine oz_if_eq (q := 7) cx d_Held_measure_4 rfl rfl (fun h8 => ?_) (fun h8 => ?_)
  · refine oz_aload_n (q := 9) cx d_Held_measure_8 rfl rfl 0 rfl ?_
    refine oz_iconst (q := 10) cx d_Held_measure_9 rfl (v := 0) rfl ?_
    refine oz_cVv (q := 13) cx 45 [.int 0] 1 5 hRm (by decide) (by decide) (fun _ _ h => c_Held_measureKind h) ⟨tw_543, tw_545, ts_12, tw_6⟩ tw_546 (by decide +kernel) rfl (by decide) rfl rfl (st := []) rfl (Nat.le_of_ble_eq_true rfl) d_Held_measure_10 rfl (fun v1 M2 hv1 => ?_)
    refine oz_aload_n (q := 14) cx d_Held_measure_13 rfl rfl 0 rfl ?_
    refine oz_iconst (q := 15) cx d_Held_measure_14 rfl (v := 1) rfl ?_
    refine oz_cVv (q := 18) cx 45 [.int 1] 1 5 hRm (by decide) (by decide) (fun _ _ h => c_Held_measureKind h) ⟨tw_543, tw_545, ts_12, tw_6⟩ tw_546 (by decide +kernel) rfl (by decide) rfl rfl (st := []) rfl (Nat.le_of_ble_eq_true rfl) d_Held_measure_15 rfl (fun v3 M4 hv3 => ?_)
    refine oz_aload_n (q := 19) cx d_Held_measure_18 rfl rfl 0 rfl ?_
    refine oz_cVv (q := 22) cx 45 [] 0 5 hRm (by decide) (by decide) (fun _ _ h => c_Held_countAntichains h) ⟨tw_562, tw_564, ts_16, tw_6⟩ tw_565 (by decide +kernel) rfl (by decide) rfl rfl (st := []) rfl (Nat.le_of_ble_eq_true rfl) d_Held_measure_19 rfl (fun v5 M6 hv5 => ?_)
    refine oz_aload_n (q := 23) cx d_Held_measure_22 rfl rfl 0 rfl ?_
    refine oz_iconst (q := 24) cx d_Held_measure_23 rfl (v := 1) rfl ?_
    refine oz_put (q := 27) cx 45 0 (by decide) (ci := 5) rfl rfl rfl tin_Held t_Held t_Held_ok n_Held (by decide) (Nat.le_of_ble_eq_true rfl) rfl tw_140 rfl rfl rfl d_Held_measure_24 rfl ?_
    refine oz_nm (fun M7 hM7 => ?_)
    exact oz_vret cx hR d_Held_measure_27
  · exact oz_vret cx hR d_Held_measure_7
def y_Line_total : MethodName := ⟨"OrderHall$Line", "total", "()J"⟩
theorem d_Line_total_0 : decode prog_5_method_2_code 0 = .ok (.aload_n 0, 1) := by decide +kernel
theorem d_Line_total_1 : decode prog_5_method_2_code 1 = .ok (.getfield 9, 3) := by decide +kernel
theorem d_Line_total_4 : decode prog_5_method_2_code 4 = .ok (.ifCond .ne 12, 3) := by decide +kernel
theorem d_Line_total_7 : decode prog_5_method_2_code 7 = .ok (.aload_n 0, 1) := by decide +kernel
theorem d_Line_total_8 : decode prog_5_method_2_code 8 = .ok (.invokevirtual 30, 3) := by decide +kernel
theorem d_Line_total_11 : decode prog_5_method_2_code 11 = .ok (.aload_n 0, 1) := by decide +kernel
theorem d_Line_total_12 : decode prog_5_method_2_code 12 = .ok (.iconst 1, 1) := by decide +kernel
theorem d_Line_total_13 : decode prog_5_method_2_code 13 = .ok (.putfield 9, 3) := by decide +kernel
theorem d_Line_total_16 : decode prog_5_method_2_code 16 = .ok (.aload_n 0, 1) := by decide +kernel
theorem d_Line_total_17 : decode prog_5_method_2_code 17 = .ok (.getfield 22, 3) := by decide +kernel
theorem d_Line_total_20 : decode prog_5_method_2_code 20 = .ok (.iconst 0, 1) := by decide +kernel
theorem d_Line_total_21 : decode prog_5_method_2_code 21 = .ok (.laload, 1) := by decide +kernel
theorem d_Line_total_22 : decode prog_5_method_2_code 22 = .ok (.lreturn, 1) := by decide +kernel
noncomputable def f_Line_total (M : oz_M) : Option (Int64 × oz_M) := (if (M.1 53 0) = 0 then (oz_b2 (f_Line_countWays M) fun v2 M3 => (some (oz_s M3 53 0 1)).bind fun M4 => some M4) else (some M)).bind fun (z1 : oz_M) => (oz_in 0 16384).bind fun j6 => some (z1.2 55 j6, z1)
set_option maxRecDepth 20000 in
set_option maxHeartbeats 4000000 in
theorem c_Line_total {l : Launch} {D : va_G} {cs : Nat → ClassId} {b : Nat} {M : oz_M} {vz : Int64} {Mz : oz_M} (hF : f_Line_total M = some (vz, Mz)) : oz_Met l D cs b y_Line_total prog_5_method_2_code 1 (some .long) (oz_rm 3) [.ref (b + 53)] M (some (.long vz)) Mz := by
  refine oz_enter (by decide) (Nat.le_of_ble_eq_true rfl) (fun G cx hR e1 hRm e2 e3 e4 hnL => ?_)
  subst e1; subst e2; subst e3; subst e4
  refine (?_ : oz_R G 0 [(0, .ref (oz_b G + 53))] [] M (f_Line_total  M) (fun x => x = (vz, Mz))) _ hF rfl
  unfold f_Line_total
  refine oz_aload_n (q := 1) cx d_Line_total_0 rfl rfl 0 rfl ?_
  refine oz_get (q := 4) cx 53 0 (by decide) (ci := 6) rfl rfl tin_Line (by decide) rfl rfl tw_180 d_Line_total_1 rfl ?_
  refine oz_seq (p2 := 16) (lv2 := fun (z1 : oz_M) => [(0, .ref (oz_b G + 53))]) (st2 := fun z1 => []) (M2 := fun z1 => z1) ?_ (fun z1 => ?_)
  · refine oz_if_ne (q := 7) cx d_Line_total_4 rfl rfl (fun h5 => ?_) (fun h5 => ?_)
    · exact oz_lv [0] rfl (oz_leaf (fun h => h))
    · refine oz_aload_n (q := 8) cx d_Line_total_7 rfl rfl 0 rfl ?_
      refine oz_cVv (q := 11) cx 53 [] 0 6 hRm (by decide) (by decide) (fun _ _ h => c_Line_countWays h) ⟨tw_622, tw_624, ts_18, tw_7⟩ tw_625 (by decide +kernel) rfl (by decide) rfl rfl (st := []) rfl (Nat.le_of_ble_eq_true rfl) d_Line_total_8 rfl (fun v2 M3 hv2 => ?_)
      refine oz_aload_n (q := 12) cx d_Line_total_11 rfl rfl 0 rfl ?_
      refine oz_iconst (q := 13) cx d_Line_total_12 rfl (v := 1) rfl ?_
      refine oz_put (q := 16) cx 53 0 (by decide) (ci := 6) rfl rfl rfl tin_Line t_Line t_Line_ok n_Line (by decide) (Nat.le_of_ble_eq_true rfl) rfl tw_180 rfl rfl rfl d_Line_total_13 rfl ?_
      refine oz_nm (fun M4 hM4 => ?_)
      exact oz_lv [0] rfl (oz_leaf (fun h => h))
  · refine oz_aload_n (q := 17) cx d_Line_total_16 rfl rfl 0 rfl ?_
    refine oz_get (q := 20) cx 53 4 (by decide) (ci := 6) rfl rfl tin_Line (by decide) rfl rfl tw_187 d_Line_total_17 rfl ?_
    refine oz_iconst (q := 21) cx d_Line_total_20 rfl (v := 0) rfl ?_
    refine oz_lald (q := 22) cx 55 16384 (by decide) rfl d_Line_total_21 rfl (fun j6 hj6 => ?_)
    exact oz_lret cx hR d_Line_total_22
def y_Order_learn : MethodName := ⟨"OrderHall$Order", "learn", "(LOrderHall$Arcs;)V"⟩
theorem d_Order_learn_0 : decode prog_6_method_2_code 0 = .ok (.aload_n 0, 1) := by decide +kernel
theorem d_Order_learn_1 : decode prog_6_method_2_code 1 = .ok (.aload_n 1, 1) := by decide +kernel
theorem d_Order_learn_2 : decode prog_6_method_2_code 2 = .ok (.getfield 37, 3) := by decide +kernel
theorem d_Order_learn_5 : decode prog_6_method_2_code 5 = .ok (.putfield 9, 3) := by decide +kernel
theorem d_Order_learn_8 : decode prog_6_method_2_code 8 = .ok (.aload_n 0, 1) := by decide +kernel
theorem d_Order_learn_9 : decode prog_6_method_2_code 9 = .ok (.aload_n 1, 1) := by decide +kernel
theorem d_Order_learn_10 : decode prog_6_method_2_code 10 = .ok (.invokevirtual 40, 3) := by decide +kernel
theorem d_Order_learn_13 : decode prog_6_method_2_code 13 = .ok (.iconst 0, 1) := by decide +kernel
theorem d_Order_learn_14 : decode prog_6_method_2_code 14 = .ok (.istore_n 2, 1) := by decide +kernel
theorem d_Order_learn_15 : decode prog_6_method_2_code 15 = .ok (.iload_n 2, 1) := by decide +kernel
theorem d_Order_learn_16 : decode prog_6_method_2_code 16 = .ok (.aload_n 0, 1) := by decide +kernel
theorem d_Order_learn_17 : decode prog_6_method_2_code 17 = .ok (.getfield 9, 3) := by decide +kernel
theorem d_Order_learn_20 : decode prog_6_method_2_code 20 = .ok (.if_icmp .ge 50, 3) := by decide +kernel
theorem d_Order_learn_23 : decode prog_6_method_2_code 23 = .ok (.aload_n 0, 1) := by decide +kernel
theorem d_Order_learn_24 : decode prog_6_method_2_code 24 = .ok (.getfield 15, 3) := by decide +kernel
theorem d_Order_learn_27 : decode prog_6_method_2_code 27 = .ok (.iload_n 2, 1) := by decide +kernel
theorem d_Order_learn_28 : decode prog_6_method_2_code 28 = .ok (.aload_n 0, 1) := by decide +kernel
theorem d_Order_learn_29 : decode prog_6_method_2_code 29 = .ok (.iload_n 2, 1) := by decide +kernel
theorem d_Order_learn_30 : decode prog_6_method_2_code 30 = .ok (.invokevirtual 44, 3) := by decide +kernel
theorem d_Order_learn_33 : decode prog_6_method_2_code 33 = .ok (.iastore, 1) := by decide +kernel
theorem d_Order_learn_34 : decode prog_6_method_2_code 34 = .ok (.aload_n 0, 1) := by decide +kernel
theorem d_Order_learn_35 : decode prog_6_method_2_code 35 = .ok (.getfield 22, 3) := by decide +kernel
theorem d_Order_learn_38 : decode prog_6_method_2_code 38 = .ok (.iload_n 2, 1) := by decide +kernel
theorem d_Order_learn_39 : decode prog_6_method_2_code 39 = .ok (.aload_n 0, 1) := by decide +kernel
theorem d_Order_learn_40 : decode prog_6_method_2_code 40 = .ok (.invokevirtual 48, 3) := by decide +kernel
theorem d_Order_learn_43 : decode prog_6_method_2_code 43 = .ok (.aload_n 0, 1) := by decide +kernel
theorem d_Order_learn_44 : decode prog_6_method_2_code 44 = .ok (.getfield 19, 3) := by decide +kernel
theorem d_Order_learn_47 : decode prog_6_method_2_code 47 = .ok (.iload_n 2, 1) := by decide +kernel
theorem d_Order_learn_48 : decode prog_6_method_2_code 48 = .ok (.iaload, 1) := by decide +kernel
theorem d_Order_learn_49 : decode prog_6_method_2_code 49 = .ok (.aload_n 0, 1) := by decide +kernel
theorem d_Order_learn_50 : decode prog_6_method_2_code 50 = .ok (.getfield 15, 3) := by decide +kernel
theorem d_Order_learn_53 : decode prog_6_method_2_code 53 = .ok (.iload_n 2, 1) := by decide +kernel
theorem d_Order_learn_54 : decode prog_6_method_2_code 54 = .ok (.iaload, 1) := by decide +kernel
theorem d_Order_learn_55 : decode prog_6_method_2_code 55 = .ok (.ior, 1) := by decide +kernel
theorem d_Order_learn_56 : decode prog_6_method_2_code 56 = .ok (.iconst 1, 1) := by decide +kernel
theorem d_Order_learn_57 : decode prog_6_method_2_code 57 = .ok (.iload_n 2, 1) := by decide +kernel
theorem d_Order_learn_58 : decode prog_6_method_2_code 58 = .ok (.ishl, 1) := by decide +kernel
theorem d_Order_learn_59 : decode prog_6_method_2_code 59 = .ok (.ior, 1) := by decide +kernel
theorem d_Order_learn_60 : decode prog_6_method_2_code 60 = .ok (.iconst (-1), 1) := by decide +kernel
theorem d_Order_learn_61 : decode prog_6_method_2_code 61 = .ok (.ixor, 1) := by decide +kernel
theorem d_Order_learn_62 : decode prog_6_method_2_code 62 = .ok (.iand, 1) := by decide +kernel
theorem d_Order_learn_63 : decode prog_6_method_2_code 63 = .ok (.iastore, 1) := by decide +kernel
theorem d_Order_learn_64 : decode prog_6_method_2_code 64 = .ok (.iinc 2 1, 3) := by decide +kernel
theorem d_Order_learn_67 : decode prog_6_method_2_code 67 = .ok (.goto (-52), 3) := by decide +kernel
theorem d_Order_learn_70 : decode prog_6_method_2_code 70 = .ok (.aload_n 0, 1) := by decide +kernel
theorem d_Order_learn_71 : decode prog_6_method_2_code 71 = .ok (.invokevirtual 52, 3) := by decide +kernel
theorem d_Order_learn_74 : decode prog_6_method_2_code 74 = .ok (.aload_n 0, 1) := by decide +kernel
theorem d_Order_learn_75 : decode prog_6_method_2_code 75 = .ok (.invokevirtual 55, 3) := by decide +kernel
theorem d_Order_learn_78 : decode prog_6_method_2_code 78 = .ok (.return_, 1) := by decide +kernel
noncomputable def f_Order_learn (M : oz_M) : Option (Unit × oz_M) := (some (oz_s M 6 0 (M.1 1 0))).bind fun M1 => oz_b2 (f_Order_closeAbove M1) fun v2 M3 => (oz_lp (fun (s4 : Int32 × oz_M) => (if s4.1 < (s4.2.1 6 0) then ((f_Order_belowOf s4.1 s4.2).bind fun v5 => (oz_in s4.1 14).bind fun j6 => (some (oz_s s4.2 7 j6 v5)).bind fun M7 => (f_Order_everything M7).bind fun v8 => (oz_in s4.1 14).bind fun j9 => (oz_in s4.1 14).bind fun j10 => (oz_in s4.1 14).bind fun j11 => (some (oz_s M7 9 j11 (v8 &&& ((((M7.1 8 j9) ||| (M7.1 7 j10)) ||| (1 <<< (s4.1 &&& 31))) ^^^ (-1))))).bind fun M12 => some (.inl (s4.1 + 1, M12))) else (some (.inr (s4.1, s4.2))) : Option ((Int32 × oz_M) ⊕ (Int32 × oz_M)))) (0, M3)).bind fun (y14 : Int32 × oz_M) => oz_b2 (f_Order_sort y14.2) fun v15 M16 => oz_b2 (f_Order_measureLevels M16) fun v17 M18 => some ((), M18)
set_option maxRecDepth 20000 in
set_option maxHeartbeats 4000000 in
theorem c_Order_learn {l : Launch} {D : va_G} {cs : Nat → ClassId} {b : Nat} {M : oz_M} {vz : Unit} {Mz : oz_M} (hF : f_Order_learn M = some (vz, Mz)) : oz_Met l D cs b y_Order_learn prog_6_method_2_code 3 none (oz_rm 3) [.ref (b + 6), .ref (b + 1)] M (none) Mz := by
  refine oz_enter (by decide) (Nat.le_of_ble_eq_true rfl) (fun G cx hR e1 hRm e2 e3 e4 hnL => ?_)
  subst e1; subst e2; subst e3; subst e4
  refine (?_ : oz_R G 0 [(0, .ref (oz_b G + 6)), (1, .ref (oz_b G + 1))] [] M (f_Order_learn  M) (fun x => x = (vz, Mz))) _ hF rfl
  unfold f_Order_learn
  refine oz_aload_n (q := 1) cx d_Order_learn_0 rfl rfl 0 rfl ?_
  refine oz_aload_n (q := 2) cx d_Order_learn_1 rfl rfl 1 rfl ?_
  refine oz_get (q := 5) cx 1 0 (by decide) (ci := 1) rfl rfl tin_Arcs (by decide) rfl rfl tw_33 d_Order_learn_2 rfl ?_
  refine oz_put (q := 8) cx 6 0 (by decide) (ci := 3) rfl rfl rfl tin_Order t_Order t_Order_ok n_Order (by decide) (Nat.le_of_ble_eq_true rfl) rfl tw_69 rfl rfl rfl d_Order_learn_5 rfl ?_
  refine oz_nm (fun M1 hM1 => ?_)
  refine oz_aload_n (q := 9) cx d_Order_learn_8 rfl rfl 0 rfl ?_
  refine oz_aload_n (q := 10) cx d_Order_learn_9 rfl rfl 1 rfl ?_
  refine oz_cVv (q := 13) cx 6 [.ref (oz_b G + 1)] 1 3 hRm (by decide) (by decide) (fun _ _ h => c_Order_closeAbove h) ⟨tw_291, tw_293, ts_4, tw_4⟩ tw_294 (by decide +kernel) rfl (by decide) rfl rfl (st := []) rfl (Nat.le_of_ble_eq_true rfl) d_Order_learn_10 rfl (fun v2 M3 hv2 => ?_)
  refine oz_iconst (q := 14) cx d_Order_learn_13 rfl (v := 0) rfl ?_
  refine oz_istore_n (q := 15) cx d_Order_learn_14 rfl rfl (by rw [hnL]; decide) (lv2 := [(2, .int 0), (0, .ref (oz_b G + 6)), (1, .ref (oz_b G + 1))]) rfl ?_
  refine oz_lv [1, 0] rfl ?_
  refine oz_seq (p2 := 70) (lv2 := fun (y14 : Int32 × oz_M) => [(0, .ref (oz_b G + 6))]) (st2 := fun y14 => []) (M2 := fun y14 => y14.2) ?_ (fun y14 => ?_)
  · refine oz_loop (Y := Int32 × oz_M) 15 (fun (s4 : Int32 × oz_M) => [(0, .ref (oz_b G + 6)), (2, .int s4.1)]) (fun (s4 : Int32 × oz_M) => s4.2) (0, M3) (fun s4 => ?_)
    refine oz_iload_n (q := 16) cx d_Order_learn_15 rfl rfl 1 rfl ?_
    refine oz_aload_n (q := 17) cx d_Order_learn_16 rfl rfl 0 rfl ?_
    refine oz_get (q := 20) cx 6 0 (by decide) (ci := 3) rfl rfl tin_Order (by decide) rfl rfl tw_69 d_Order_learn_17 rfl ?_
    refine oz_icmp_ge (q := 23) cx d_Order_learn_20 rfl rfl (fun h13 => ?_) (fun h13 => ?_)
    · exact oz_lv [0] rfl (oz_leaf (fun h => h))
    · refine oz_aload_n (q := 24) cx d_Order_learn_23 rfl rfl 0 rfl ?_
      refine oz_get (q := 27) cx 6 1 (by decide) (ci := 3) rfl rfl tin_Order (by decide) rfl rfl tw_76 d_Order_learn_24 rfl ?_
      refine oz_iload_n (q := 28) cx d_Order_learn_27 rfl rfl 1 rfl ?_
      refine oz_aload_n (q := 29) cx d_Order_learn_28 rfl rfl 0 rfl ?_
      refine oz_iload_n (q := 30) cx d_Order_learn_29 rfl rfl 1 rfl ?_
      refine oz_cVip (q := 33) cx 6 [.int s4.1] 1 3 hRm (by decide) (by decide) (fun _ h => c_Order_belowOf h) ⟨tw_296, tw_298, ts_5, tw_4⟩ tw_299 (by decide +kernel) rfl (by decide) rfl rfl (st := [.int s4.1, .ref (oz_b G + 7)]) rfl (Nat.le_of_ble_eq_true rfl) d_Order_learn_30 rfl (fun v5 hv5 => ?_)
      refine oz_iast (q := 34) cx 7 14 (by decide) (fun _ => rfl) d_Order_learn_33 rfl (fun j6 hj6 => ?_)
      refine oz_nm (fun M7 hM7 => ?_)
      refine oz_aload_n (q := 35) cx d_Order_learn_34 rfl rfl 0 rfl ?_
      refine oz_get (q := 38) cx 6 3 (by decide) (ci := 3) rfl rfl tin_Order (by decide) rfl rfl tw_88 d_Order_learn_35 rfl ?_
      refine oz_iload_n (q := 39) cx d_Order_learn_38 rfl rfl 1 rfl ?_
      refine oz_aload_n (q := 40) cx d_Order_learn_39 rfl rfl 0 rfl ?_
      refine oz_cVip (q := 43) cx 6 [] 0 3 hRm (by decide) (by decide) (fun _ h => c_Order_everything h) ⟨tw_300, tw_301, tw_302, tw_4⟩ tw_303 (by decide +kernel) rfl (by decide) rfl rfl (st := [.int s4.1, .ref (oz_b G + 9)]) rfl (Nat.le_of_ble_eq_true rfl) d_Order_learn_40 rfl (fun v8 hv8 => ?_)
      refine oz_aload_n (q := 44) cx d_Order_learn_43 rfl rfl 0 rfl ?_
      refine oz_get (q := 47) cx 6 2 (by decide) (ci := 3) rfl rfl tin_Order (by decide) rfl rfl tw_82 d_Order_learn_44 rfl ?_
      refine oz_iload_n (q := 48) cx d_Order_learn_47 rfl rfl 1 rfl ?_
      refine oz_iald (q := 49) cx 8 14 (by decide) rfl d_Order_learn_48 rfl (fun j9 hj9 => ?_)
      refine oz_aload_n (q := 50) cx d_Order_learn_49 rfl rfl 0 rfl ?_
      refine oz_get (q := 53) cx 6 1 (by decide) (ci := 3) rfl rfl tin_Order (by decide) rfl rfl tw_76 d_Order_learn_50 rfl ?_
      refine oz_iload_n (q := 54) cx d_Order_learn_53 rfl rfl 1 rfl ?_
      refine oz_iald (q := 55) cx 7 14 (by decide) rfl d_Order_learn_54 rfl (fun j10 hj10 => ?_)
      refine oz_ior (q := 56) cx d_Order_learn_55 rfl ?_
      refine oz_iconst (q := 57) cx d_Order_learn_56 rfl (v := 1) rfl ?_
      refine oz_iload_n (q := 58) cx d_Order_learn_57 rfl rfl 1 rfl ?_
      refine oz_ishl (q := 59) cx d_Order_learn_58 rfl ?_
      refine oz_ior (q := 60) cx d_Order_learn_59 rfl ?_
      refine oz_iconst (q := 61) cx d_Order_learn_60 rfl (v := (-1)) rfl ?_
      refine oz_ixor (q := 62) cx d_Order_learn_61 rfl ?_
      refine oz_iand (q := 63) cx d_Order_learn_62 rfl ?_
      refine oz_iast (q := 64) cx 9 14 (by decide) (fun _ => rfl) d_Order_learn_63 rfl (fun j11 hj11 => ?_)
      refine oz_nm (fun M12 hM12 => ?_)
      refine oz_iinc (q := 67) cx (s4.1 + 1) d_Order_learn_64 rfl 1 rfl rfl (by rw [hnL]; decide) (lv2 := [(2, .int (s4.1 + 1)), (0, .ref (oz_b G + 6))]) rfl ?_
      refine oz_goto cx d_Order_learn_67 rfl ?_
      exact oz_lv [1, 0] rfl (oz_leaf (fun h => h))
  · refine oz_aload_n (q := 71) cx d_Order_learn_70 rfl rfl 0 rfl ?_
    refine oz_cVv (q := 74) cx 6 [] 0 3 hRm (by decide) (by decide) (fun _ _ h => c_Order_sort h) ⟨tw_304, tw_306, ts_6, tw_4⟩ tw_307 (by decide +kernel) rfl (by decide) rfl rfl (st := []) rfl (Nat.le_of_ble_eq_true rfl) d_Order_learn_71 rfl (fun v15 M16 hv15 => ?_)
    refine oz_aload_n (q := 75) cx d_Order_learn_74 rfl rfl 0 rfl ?_
    refine oz_cVv (q := 78) cx 6 [] 0 3 hRm (by decide) (by decide) (fun _ _ h => c_Order_measureLevels h) ⟨tw_314, tw_316, ts_7, tw_4⟩ tw_317 (by decide +kernel) rfl (by decide) rfl rfl (st := []) rfl (Nat.le_of_ble_eq_true rfl) d_Order_learn_75 rfl (fun v17 M18 hv17 => ?_)
    exact oz_vret cx hR d_Order_learn_78
def y_Parts_split : MethodName := ⟨"OrderHall$Parts", "split", "(II)V"⟩
theorem d_Parts_split_0 : decode prog_7_method_4_code 0 = .ok (.aload_n 0, 1) := by decide +kernel
theorem d_Parts_split_1 : decode prog_7_method_4_code 1 = .ok (.iconst 0, 1) := by decide +kernel
theorem d_Parts_split_2 : decode prog_7_method_4_code 2 = .ok (.putfield 15, 3) := by decide +kernel
theorem d_Parts_split_5 : decode prog_7_method_4_code 5 = .ok (.iload_n 1, 1) := by decide +kernel
theorem d_Parts_split_6 : decode prog_7_method_4_code 6 = .ok (.ifCond .ne 16, 3) := by decide +kernel
theorem d_Parts_split_9 : decode prog_7_method_4_code 9 = .ok (.aload_n 0, 1) := by decide +kernel
theorem d_Parts_split_10 : decode prog_7_method_4_code 10 = .ok (.iload_n 2, 1) := by decide +kernel
theorem d_Parts_split_11 : decode prog_7_method_4_code 11 = .ok (.invokevirtual 66, 3) := by decide +kernel
theorem d_Parts_split_14 : decode prog_7_method_4_code 14 = .ok (.aload_n 0, 1) := by decide +kernel
theorem d_Parts_split_15 : decode prog_7_method_4_code 15 = .ok (.iload_n 2, 1) := by decide +kernel
theorem d_Parts_split_16 : decode prog_7_method_4_code 16 = .ok (.invokevirtual 70, 3) := by decide +kernel
theorem d_Parts_split_19 : decode prog_7_method_4_code 19 = .ok (.goto 8, 3) := by decide +kernel
theorem d_Parts_split_22 : decode prog_7_method_4_code 22 = .ok (.aload_n 0, 1) := by decide +kernel
theorem d_Parts_split_23 : decode prog_7_method_4_code 23 = .ok (.iload_n 2, 1) := by decide +kernel
theorem d_Parts_split_24 : decode prog_7_method_4_code 24 = .ok (.invokevirtual 73, 3) := by decide +kernel
theorem d_Parts_split_27 : decode prog_7_method_4_code 27 = .ok (.aload_n 0, 1) := by decide +kernel
theorem d_Parts_split_28 : decode prog_7_method_4_code 28 = .ok (.getfield 31, 3) := by decide +kernel
theorem d_Parts_split_31 : decode prog_7_method_4_code 31 = .ok (.getfield 35, 3) := by decide +kernel
theorem d_Parts_split_34 : decode prog_7_method_4_code 34 = .ok (.iload_n 2, 1) := by decide +kernel
theorem d_Parts_split_35 : decode prog_7_method_4_code 35 = .ok (.invokestatic 76, 3) := by decide +kernel
theorem d_Parts_split_38 : decode prog_7_method_4_code 38 = .ok (.isub, 1) := by decide +kernel
theorem d_Parts_split_39 : decode prog_7_method_4_code 39 = .ok (.istore_n 3, 1) := by decide +kernel
theorem d_Parts_split_40 : decode prog_7_method_4_code 40 = .ok (.iconst 0, 1) := by decide +kernel
theorem d_Parts_split_41 : decode prog_7_method_4_code 41 = .ok (.istore 4, 2) := by decide +kernel
theorem d_Parts_split_43 : decode prog_7_method_4_code 43 = .ok (.iload 4, 2) := by decide +kernel
theorem d_Parts_split_45 : decode prog_7_method_4_code 45 = .ok (.iload_n 3, 1) := by decide +kernel
theorem d_Parts_split_46 : decode prog_7_method_4_code 46 = .ok (.if_icmp .ge 14, 3) := by decide +kernel
theorem d_Parts_split_49 : decode prog_7_method_4_code 49 = .ok (.aload_n 0, 1) := by decide +kernel
theorem d_Parts_split_50 : decode prog_7_method_4_code 50 = .ok (.iconst 1, 1) := by decide +kernel
theorem d_Parts_split_51 : decode prog_7_method_4_code 51 = .ok (.invokevirtual 81, 3) := by decide +kernel
theorem d_Parts_split_54 : decode prog_7_method_4_code 54 = .ok (.iinc 4 1, 3) := by decide +kernel
theorem d_Parts_split_57 : decode prog_7_method_4_code 57 = .ok (.goto (-14), 3) := by decide +kernel
theorem d_Parts_split_60 : decode prog_7_method_4_code 60 = .ok (.return_, 1) := by decide +kernel
noncomputable def f_Parts_split (a0 : Int32) (a1 : Int32) (M : oz_M) : Option (Unit × oz_M) := (some (oz_s M 56 2 0)).bind fun M1 => (if a0 = 0 then (oz_b2 (f_Parts_linkChains a1 M1) fun v5 M6 => oz_b2 (f_Parts_cutChains a1 M6) fun v7 M8 => some M8) else (oz_b2 (f_Parts_cutLayers a1 M1) fun v3 M4 => some M4)).bind fun (z2 : oz_M) => (f_Integer_bitCount a1 z2).bind fun v10 => (oz_lp (fun (s11 : Int32 × oz_M) => (if s11.1 < ((z2.1 6 0) - v10) then (oz_b2 (f_Parts_addPart 1 s11.2) fun v12 M13 => some (.inl (s11.1 + 1, M13))) else (some (.inr (s11.1, s11.2))) : Option ((Int32 × oz_M) ⊕ (Int32 × oz_M)))) (0, z2)).bind fun (y15 : Int32 × oz_M) => some ((), y15.2)
set_option maxRecDepth 20000 in
set_option maxHeartbeats 4000000 in
theorem c_Parts_split {l : Launch} {D : va_G} {cs : Nat → ClassId} {b : Nat} {a0 : Int32} {a1 : Int32} {M : oz_M} {vz : Unit} {Mz : oz_M} (hF : f_Parts_split a0 a1 M = some (vz, Mz)) : oz_Met l D cs b y_Parts_split prog_7_method_4_code 5 none (oz_rm 3) [.ref (b + 56), .int a0, .int a1] M (none) Mz := by
  refine oz_enter (by decide) (Nat.le_of_ble_eq_true rfl) (fun G cx hR e1 hRm e2 e3 e4 hnL => ?_)
  subst e1; subst e2; subst e3; subst e4
  refine (?_ : oz_R G 0 [(0, .ref (oz_b G + 56)), (1, .int a0), (2, .int a1)] [] M (f_Parts_split a0 a1 M) (fun x => x = (vz, Mz))) _ hF rfl
  unfold f_Parts_split
  refine oz_aload_n (q := 1) cx d_Parts_split_0 rfl rfl 0 rfl ?_
  refine oz_iconst (q := 2) cx d_Parts_split_1 rfl (v := 0) rfl ?_
  refine oz_put (q := 5) cx 56 2 (by decide) (ci := 7) rfl rfl rfl tin_Parts t_Parts t_Parts_ok n_Parts (by decide) (Nat.le_of_ble_eq_true rfl) rfl tw_208 rfl rfl rfl d_Parts_split_2 rfl ?_
  refine oz_nm (fun M1 hM1 => ?_)
  refine oz_iload_n (q := 6) cx d_Parts_split_5 rfl rfl 1 rfl ?_
  refine oz_seq (p2 := 27) (lv2 := fun (z2 : oz_M) => [(0, .ref (oz_b G + 56)), (2, .int a1)]) (st2 := fun z2 => []) (M2 := fun z2 => z2) ?_ (fun z2 => ?_)
  · refine oz_if_ne (q := 9) cx d_Parts_split_6 rfl rfl (fun h9 => ?_) (fun h9 => ?_)
    · refine oz_aload_n (q := 23) cx d_Parts_split_22 rfl rfl 0 rfl ?_
      refine oz_iload_n (q := 24) cx d_Parts_split_23 rfl rfl 2 rfl ?_
      refine oz_cVv (q := 27) cx 56 [.int a1] 1 7 hRm (by decide) (by decide) (fun _ _ h => c_Parts_cutLayers h) ⟨tw_766, tw_768, ts_28, tw_8⟩ tw_769 (by decide +kernel) rfl (by decide) rfl rfl (st := []) rfl (Nat.le_of_ble_eq_true rfl) d_Parts_split_24 rfl (fun v3 M4 hv3 => ?_)
      exact oz_lv [0, 2] rfl (oz_leaf (fun h => h))
    · refine oz_aload_n (q := 10) cx d_Parts_split_9 rfl rfl 0 rfl ?_
      refine oz_iload_n (q := 11) cx d_Parts_split_10 rfl rfl 2 rfl ?_
      refine oz_cVv (q := 14) cx 56 [.int a1] 1 7 hRm (by decide) (by decide) (fun _ _ h => c_Parts_linkChains h) ⟨tw_741, tw_743, ts_22, tw_8⟩ tw_744 (by decide +kernel) rfl (by decide) rfl rfl (st := []) rfl (Nat.le_of_ble_eq_true rfl) d_Parts_split_11 rfl (fun v5 M6 hv5 => ?_)
      refine oz_aload_n (q := 15) cx d_Parts_split_14 rfl rfl 0 rfl ?_
      refine oz_iload_n (q := 16) cx d_Parts_split_15 rfl rfl 2 rfl ?_
      refine oz_cVv (q := 19) cx 56 [.int a1] 1 7 hRm (by decide) (by decide) (fun _ _ h => c_Parts_cutChains h) ⟨tw_754, tw_756, ts_25, tw_8⟩ tw_757 (by decide +kernel) rfl (by decide) rfl rfl (st := []) rfl (Nat.le_of_ble_eq_true rfl) d_Parts_split_16 rfl (fun v7 M8 hv7 => ?_)
      refine oz_goto cx d_Parts_split_19 rfl ?_
      exact oz_lv [0, 2] rfl (oz_leaf (fun h => h))
  · refine oz_aload_n (q := 28) cx d_Parts_split_27 rfl rfl 0 rfl ?_
    refine oz_get (q := 31) cx 56 0 (by decide) (ci := 7) rfl rfl tin_Parts (by decide) rfl rfl tw_206 d_Parts_split_28 rfl ?_
    refine oz_get (q := 34) cx 6 0 (by decide) (ci := 3) rfl rfl tin_Order (by decide) rfl rfl tw_70 d_Parts_split_31 rfl ?_
    refine oz_iload_n (q := 35) cx d_Parts_split_34 rfl rfl 1 rfl ?_
    refine oz_cSip (q := 38) cx [.int a1] 1 hRm (by decide) (by decide) (fun _ h => c_Integer_bitCount h) ⟨tw_771, tw_309, tw_15⟩ tw_310 (by decide +kernel) rfl (st := [.int (z2.1 6 0)]) rfl (Nat.le_of_ble_eq_true rfl) d_Parts_split_35 rfl (fun v10 hv10 => ?_)
    refine oz_isub (q := 39) cx d_Parts_split_38 rfl ?_
    refine oz_istore_n (q := 40) cx d_Parts_split_39 rfl rfl (by rw [hnL]; decide) (lv2 := [(3, .int ((z2.1 6 0) - v10)), (0, .ref (oz_b G + 56)), (2, .int a1)]) rfl ?_
    refine oz_iconst (q := 41) cx d_Parts_split_40 rfl (v := 0) rfl ?_
    refine oz_istore (q := 43) cx d_Parts_split_41 rfl (by rw [hnL]; decide) (lv2 := [(4, .int 0), (3, .int ((z2.1 6 0) - v10)), (0, .ref (oz_b G + 56)), (2, .int a1)]) rfl ?_
    refine oz_lv [2, 1, 0] rfl ?_
    refine oz_seq (p2 := 60) (lv2 := fun (y15 : Int32 × oz_M) => []) (st2 := fun y15 => []) (M2 := fun y15 => y15.2) ?_ (fun y15 => ?_)
    · refine oz_loop (Y := Int32 × oz_M) 43 (fun (s11 : Int32 × oz_M) => [(0, .ref (oz_b G + 56)), (3, .int ((z2.1 6 0) - v10)), (4, .int s11.1)]) (fun (s11 : Int32 × oz_M) => s11.2) (0, z2) (fun s11 => ?_)
      refine oz_iload (q := 45) cx d_Parts_split_43 rfl 2 rfl ?_
      refine oz_iload_n (q := 46) cx d_Parts_split_45 rfl rfl 1 rfl ?_
      refine oz_icmp_ge (q := 49) cx d_Parts_split_46 rfl rfl (fun h14 => ?_) (fun h14 => ?_)
      · exact oz_lv [] rfl (oz_leaf (fun h => h))
      · refine oz_aload_n (q := 50) cx d_Parts_split_49 rfl rfl 0 rfl ?_
        refine oz_iconst (q := 51) cx d_Parts_split_50 rfl (v := 1) rfl ?_
        refine oz_cVv (q := 54) cx 56 [.int 1] 1 7 hRm (by decide) (by decide) (fun _ _ h => c_Parts_addPart h) ⟨tw_762, tw_764, ts_27, tw_8⟩ tw_765 (by decide +kernel) rfl (by decide) rfl rfl (st := []) rfl (Nat.le_of_ble_eq_true rfl) d_Parts_split_51 rfl (fun v12 M13 hv12 => ?_)
        refine oz_iinc (q := 57) cx (s11.1 + 1) d_Parts_split_54 rfl 2 rfl rfl (by rw [hnL]; decide) (lv2 := [(4, .int (s11.1 + 1)), (0, .ref (oz_b G + 56)), (3, .int ((z2.1 6 0) - v10))]) rfl ?_
        refine oz_goto cx d_Parts_split_57 rfl ?_
        exact oz_lv [1, 2, 0] rfl (oz_leaf (fun h => h))
    · exact oz_vret cx hR d_Parts_split_60
def y_Ring_seek : MethodName := ⟨"OrderHall$Ring", "seek", "(LOrderHall$Arcs;)V"⟩
theorem d_Ring_seek_0 : decode prog_8_method_2_code 0 = .ok (.aload_n 0, 1) := by decide +kernel
theorem d_Ring_seek_1 : decode prog_8_method_2_code 1 = .ok (.iconst 0, 1) := by decide +kernel
theorem d_Ring_seek_2 : decode prog_8_method_2_code 2 = .ok (.putfield 9, 3) := by decide +kernel
theorem d_Ring_seek_5 : decode prog_8_method_2_code 5 = .ok (.iconst 0, 1) := by decide +kernel
theorem d_Ring_seek_6 : decode prog_8_method_2_code 6 = .ok (.istore_n 2, 1) := by decide +kernel
theorem d_Ring_seek_7 : decode prog_8_method_2_code 7 = .ok (.iconst 0, 1) := by decide +kernel
theorem d_Ring_seek_8 : decode prog_8_method_2_code 8 = .ok (.istore_n 3, 1) := by decide +kernel
theorem d_Ring_seek_9 : decode prog_8_method_2_code 9 = .ok (.iload_n 3, 1) := by decide +kernel
theorem d_Ring_seek_10 : decode prog_8_method_2_code 10 = .ok (.aload_n 1, 1) := by decide +kernel
theorem d_Ring_seek_11 : decode prog_8_method_2_code 11 = .ok (.getfield 22, 3) := by decide +kernel
theorem d_Ring_seek_14 : decode prog_8_method_2_code 14 = .ok (.if_icmp .ge 54, 3) := by decide +kernel
theorem d_Ring_seek_17 : decode prog_8_method_2_code 17 = .ok (.aload_n 0, 1) := by decide +kernel
theorem d_Ring_seek_18 : decode prog_8_method_2_code 18 = .ok (.getfield 9, 3) := by decide +kernel
theorem d_Ring_seek_21 : decode prog_8_method_2_code 21 = .ok (.ifCond .ne 10, 3) := by decide +kernel
theorem d_Ring_seek_24 : decode prog_8_method_2_code 24 = .ok (.aload_n 1, 1) := by decide +kernel
theorem d_Ring_seek_25 : decode prog_8_method_2_code 25 = .ok (.getfield 22, 3) := by decide +kernel
theorem d_Ring_seek_28 : decode prog_8_method_2_code 28 = .ok (.goto 9, 3) := by decide +kernel
theorem d_Ring_seek_31 : decode prog_8_method_2_code 31 = .ok (.aload_n 0, 1) := by decide +kernel
theorem d_Ring_seek_32 : decode prog_8_method_2_code 32 = .ok (.getfield 9, 3) := by decide +kernel
theorem d_Ring_seek_35 : decode prog_8_method_2_code 35 = .ok (.iconst 1, 1) := by decide +kernel
theorem d_Ring_seek_36 : decode prog_8_method_2_code 36 = .ok (.isub, 1) := by decide +kernel
theorem d_Ring_seek_37 : decode prog_8_method_2_code 37 = .ok (.istore 4, 2) := by decide +kernel
theorem d_Ring_seek_39 : decode prog_8_method_2_code 39 = .ok (.aload_n 0, 1) := by decide +kernel
theorem d_Ring_seek_40 : decode prog_8_method_2_code 40 = .ok (.aload_n 1, 1) := by decide +kernel
theorem d_Ring_seek_41 : decode prog_8_method_2_code 41 = .ok (.iload_n 3, 1) := by decide +kernel
theorem d_Ring_seek_42 : decode prog_8_method_2_code 42 = .ok (.iload 4, 2) := by decide +kernel
theorem d_Ring_seek_44 : decode prog_8_method_2_code 44 = .ok (.invokevirtual 27, 3) := by decide +kernel
theorem d_Ring_seek_47 : decode prog_8_method_2_code 47 = .ok (.istore 5, 2) := by decide +kernel
theorem d_Ring_seek_49 : decode prog_8_method_2_code 49 = .ok (.iload 5, 2) := by decide +kernel
theorem d_Ring_seek_51 : decode prog_8_method_2_code 51 = .ok (.ifCond .le 11, 3) := by decide +kernel
theorem d_Ring_seek_54 : decode prog_8_method_2_code 54 = .ok (.aload_n 0, 1) := by decide +kernel
theorem d_Ring_seek_55 : decode prog_8_method_2_code 55 = .ok (.iload 5, 2) := by decide +kernel
theorem d_Ring_seek_57 : decode prog_8_method_2_code 57 = .ok (.putfield 9, 3) := by decide +kernel
theorem d_Ring_seek_60 : decode prog_8_method_2_code 60 = .ok (.iload_n 3, 1) := by decide +kernel
theorem d_Ring_seek_61 : decode prog_8_method_2_code 61 = .ok (.istore_n 2, 1) := by decide +kernel
theorem d_Ring_seek_62 : decode prog_8_method_2_code 62 = .ok (.iinc 3 1, 3) := by decide +kernel
theorem d_Ring_seek_65 : decode prog_8_method_2_code 65 = .ok (.goto (-56), 3) := by decide +kernel
theorem d_Ring_seek_68 : decode prog_8_method_2_code 68 = .ok (.aload_n 0, 1) := by decide +kernel
theorem d_Ring_seek_69 : decode prog_8_method_2_code 69 = .ok (.getfield 9, 3) := by decide +kernel
theorem d_Ring_seek_72 : decode prog_8_method_2_code 72 = .ok (.ifCond .le 9, 3) := by decide +kernel
theorem d_Ring_seek_75 : decode prog_8_method_2_code 75 = .ok (.aload_n 0, 1) := by decide +kernel
theorem d_Ring_seek_76 : decode prog_8_method_2_code 76 = .ok (.aload_n 1, 1) := by decide +kernel
theorem d_Ring_seek_77 : decode prog_8_method_2_code 77 = .ok (.iload_n 2, 1) := by decide +kernel
theorem d_Ring_seek_78 : decode prog_8_method_2_code 78 = .ok (.invokevirtual 31, 3) := by decide +kernel
theorem d_Ring_seek_81 : decode prog_8_method_2_code 81 = .ok (.return_, 1) := by decide +kernel
noncomputable def f_Ring_seek (M : oz_M) : Option (Unit × oz_M) := (some (oz_s M 3 0 0)).bind fun M1 => (oz_lp (fun (s2 : Int32 × Int32 × oz_M) => (if s2.2.1 < (s2.2.2.1 1 0) then ((if (s2.2.2.1 3 0) = 0 then (some (s2.2.2.1 1 0)) else (some ((s2.2.2.1 3 0) - 1))).bind fun (z3 : Int32) => oz_b2 (f_Ring_stepsRound s2.2.1 z3 s2.2.2) fun v5 M6 => if 0 < v5 then ((some (oz_s M6 3 0 v5)).bind fun M7 => some (.inl (s2.2.1, s2.2.1 + 1, M7))) else (some (.inl (s2.1, s2.2.1 + 1, M6)))) else (some (.inr (s2.1, s2.2.1, s2.2.2))) : Option ((Int32 × Int32 × oz_M) ⊕ (Int32 × Int32 × oz_M)))) (0, 0, M1)).bind fun (y10 : Int32 × Int32 × oz_M) => if 0 < (y10.2.2.1 3 0) then (oz_b2 (f_Ring_write y10.1 y10.2.2) fun v11 M12 => some ((), M12)) else (some ((), y10.2.2))
set_option maxRecDepth 20000 in
set_option maxHeartbeats 4000000 in
theorem c_Ring_seek {l : Launch} {D : va_G} {cs : Nat → ClassId} {b : Nat} {M : oz_M} {vz : Unit} {Mz : oz_M} (hF : f_Ring_seek M = some (vz, Mz)) : oz_Met l D cs b y_Ring_seek prog_8_method_2_code 6 none (oz_rm 3) [.ref (b + 3), .ref (b + 1)] M (none) Mz := by
  refine oz_enter (by decide) (Nat.le_of_ble_eq_true rfl) (fun G cx hR e1 hRm e2 e3 e4 hnL => ?_)
  subst e1; subst e2; subst e3; subst e4
  refine (?_ : oz_R G 0 [(0, .ref (oz_b G + 3)), (1, .ref (oz_b G + 1))] [] M (f_Ring_seek  M) (fun x => x = (vz, Mz))) _ hF rfl
  unfold f_Ring_seek
  refine oz_aload_n (q := 1) cx d_Ring_seek_0 rfl rfl 0 rfl ?_
  refine oz_iconst (q := 2) cx d_Ring_seek_1 rfl (v := 0) rfl ?_
  refine oz_put (q := 5) cx 3 0 (by decide) (ci := 2) rfl rfl rfl tin_Ring t_Ring t_Ring_ok n_Ring (by decide) (Nat.le_of_ble_eq_true rfl) rfl tw_51 rfl rfl rfl d_Ring_seek_2 rfl ?_
  refine oz_nm (fun M1 hM1 => ?_)
  refine oz_iconst (q := 6) cx d_Ring_seek_5 rfl (v := 0) rfl ?_
  refine oz_istore_n (q := 7) cx d_Ring_seek_6 rfl rfl (by rw [hnL]; decide) (lv2 := [(2, .int 0), (0, .ref (oz_b G + 3)), (1, .ref (oz_b G + 1))]) rfl ?_
  refine oz_iconst (q := 8) cx d_Ring_seek_7 rfl (v := 0) rfl ?_
  refine oz_istore_n (q := 9) cx d_Ring_seek_8 rfl rfl (by rw [hnL]; decide) (lv2 := [(3, .int 0), (2, .int 0), (0, .ref (oz_b G + 3)), (1, .ref (oz_b G + 1))]) rfl ?_
  refine oz_lv [2, 3, 1, 0] rfl ?_
  refine oz_seq (p2 := 68) (lv2 := fun (y10 : Int32 × Int32 × oz_M) => [(0, .ref (oz_b G + 3)), (1, .ref (oz_b G + 1)), (2, .int y10.1)]) (st2 := fun y10 => []) (M2 := fun y10 => y10.2.2) ?_ (fun y10 => ?_)
  · refine oz_loop (Y := Int32 × Int32 × oz_M) 9 (fun (s2 : Int32 × Int32 × oz_M) => [(0, .ref (oz_b G + 3)), (1, .ref (oz_b G + 1)), (2, .int s2.1), (3, .int s2.2.1)]) (fun (s2 : Int32 × Int32 × oz_M) => s2.2.2) (0, 0, M1) (fun s2 => ?_)
    refine oz_iload_n (q := 10) cx d_Ring_seek_9 rfl rfl 3 rfl ?_
    refine oz_aload_n (q := 11) cx d_Ring_seek_10 rfl rfl 1 rfl ?_
    refine oz_get (q := 14) cx 1 0 (by decide) (ci := 1) rfl rfl tin_Arcs (by decide) rfl rfl tw_34 d_Ring_seek_11 rfl ?_
    refine oz_icmp_ge (q := 17) cx d_Ring_seek_14 rfl rfl (fun h9 => ?_) (fun h9 => ?_)
    · exact oz_lv [0, 1, 2] rfl (oz_leaf (fun h => h))
    · refine oz_aload_n (q := 18) cx d_Ring_seek_17 rfl rfl 0 rfl ?_
      refine oz_get (q := 21) cx 3 0 (by decide) (ci := 2) rfl rfl tin_Ring (by decide) rfl rfl tw_51 d_Ring_seek_18 rfl ?_
      refine oz_seq (p2 := 37) (lv2 := fun (z3 : Int32) => [(0, .ref (oz_b G + 3)), (1, .ref (oz_b G + 1)), (2, .int s2.1), (3, .int s2.2.1)]) (st2 := fun z3 => [.int z3]) (M2 := fun z3 => s2.2.2) ?_ (fun z3 => ?_)
      · refine oz_if_ne (q := 24) cx d_Ring_seek_21 rfl rfl (fun h4 => ?_) (fun h4 => ?_)
        · refine oz_aload_n (q := 32) cx d_Ring_seek_31 rfl rfl 0 rfl ?_
          refine oz_get (q := 35) cx 3 0 (by decide) (ci := 2) rfl rfl tin_Ring (by decide) rfl rfl tw_51 d_Ring_seek_32 rfl ?_
          refine oz_iconst (q := 36) cx d_Ring_seek_35 rfl (v := 1) rfl ?_
          refine oz_isub (q := 37) cx d_Ring_seek_36 rfl ?_
          exact oz_lv [0, 1, 2, 3] rfl (oz_leaf (fun h => h))
        · refine oz_aload_n (q := 25) cx d_Ring_seek_24 rfl rfl 1 rfl ?_
          refine oz_get (q := 28) cx 1 0 (by decide) (ci := 1) rfl rfl tin_Arcs (by decide) rfl rfl tw_34 d_Ring_seek_25 rfl ?_
          refine oz_goto cx d_Ring_seek_28 rfl ?_
          exact oz_lv [0, 1, 2, 3] rfl (oz_leaf (fun h => h))
      · refine oz_istore (q := 39) cx d_Ring_seek_37 rfl (by rw [hnL]; decide) (lv2 := [(4, .int z3), (0, .ref (oz_b G + 3)), (1, .ref (oz_b G + 1)), (2, .int s2.1), (3, .int s2.2.1)]) rfl ?_
        refine oz_aload_n (q := 40) cx d_Ring_seek_39 rfl rfl 1 rfl ?_
        refine oz_aload_n (q := 41) cx d_Ring_seek_40 rfl rfl 2 rfl ?_
        refine oz_iload_n (q := 42) cx d_Ring_seek_41 rfl rfl 4 rfl ?_
        refine oz_iload (q := 44) cx d_Ring_seek_42 rfl 0 rfl ?_
        refine oz_cVi (q := 47) cx 3 [.ref (oz_b G + 1), .int s2.2.1, .int z3] 3 2 hRm (by decide) (by decide) (fun _ _ h => c_Ring_stepsRound h) ⟨tw_265, tw_267, ts_1, tw_3⟩ tw_268 (by decide +kernel) rfl (by decide) rfl rfl (st := []) rfl (Nat.le_of_ble_eq_true rfl) d_Ring_seek_44 rfl (fun v5 M6 hv5 => ?_)
        refine oz_istore (q := 49) cx d_Ring_seek_47 rfl (by rw [hnL]; decide) (lv2 := [(5, .int v5), (4, .int z3), (0, .ref (oz_b G + 3)), (1, .ref (oz_b G + 1)), (2, .int s2.1), (3, .int s2.2.1)]) rfl ?_
        refine oz_iload (q := 51) cx d_Ring_seek_49 rfl 0 rfl ?_
        refine oz_if_le (q := 54) cx d_Ring_seek_51 rfl rfl (fun h8 => ?_) (fun h8 => ?_)
        · refine oz_iinc (q := 65) cx (s2.2.1 + 1) d_Ring_seek_62 rfl 5 rfl rfl (by rw [hnL]; decide) (lv2 := [(3, .int (s2.2.1 + 1)), (5, .int v5), (4, .int z3), (0, .ref (oz_b G + 3)), (1, .ref (oz_b G + 1)), (2, .int s2.1)]) rfl ?_
          refine oz_goto cx d_Ring_seek_65 rfl ?_
          exact oz_lv [3, 4, 5, 0] rfl (oz_leaf (fun h => h))
        · refine oz_aload_n (q := 55) cx d_Ring_seek_54 rfl rfl 2 rfl ?_
          refine oz_iload (q := 57) cx d_Ring_seek_55 rfl 0 rfl ?_
          refine oz_put (q := 60) cx 3 0 (by decide) (ci := 2) rfl rfl rfl tin_Ring t_Ring t_Ring_ok n_Ring (by decide) (Nat.le_of_ble_eq_true rfl) rfl tw_51 rfl rfl rfl d_Ring_seek_57 rfl ?_
          refine oz_nm (fun M7 hM7 => ?_)
          refine oz_iload_n (q := 61) cx d_Ring_seek_60 rfl rfl 5 rfl ?_
          refine oz_istore_n (q := 62) cx d_Ring_seek_61 rfl rfl (by rw [hnL]; decide) (lv2 := [(2, .int s2.2.1), (5, .int v5), (4, .int z3), (0, .ref (oz_b G + 3)), (1, .ref (oz_b G + 1)), (3, .int s2.2.1)]) rfl ?_
          refine oz_iinc (q := 65) cx (s2.2.1 + 1) d_Ring_seek_62 rfl 5 rfl rfl (by rw [hnL]; decide) (lv2 := [(3, .int (s2.2.1 + 1)), (2, .int s2.2.1), (5, .int v5), (4, .int z3), (0, .ref (oz_b G + 3)), (1, .ref (oz_b G + 1))]) rfl ?_
          refine oz_goto cx d_Ring_seek_65 rfl ?_
          exact oz_lv [4, 5, 1, 0] rfl (oz_leaf (fun h => h))
  · refine oz_aload_n (q := 69) cx d_Ring_seek_68 rfl rfl 0 rfl ?_
    refine oz_get (q := 72) cx 3 0 (by decide) (ci := 2) rfl rfl tin_Ring (by decide) rfl rfl tw_51 d_Ring_seek_69 rfl ?_
    refine oz_if_le (q := 75) cx d_Ring_seek_72 rfl rfl (fun h13 => ?_) (fun h13 => ?_)
    · exact oz_vret cx hR d_Ring_seek_81
    · refine oz_aload_n (q := 76) cx d_Ring_seek_75 rfl rfl 0 rfl ?_
      refine oz_aload_n (q := 77) cx d_Ring_seek_76 rfl rfl 1 rfl ?_
      refine oz_iload_n (q := 78) cx d_Ring_seek_77 rfl rfl 2 rfl ?_
      refine oz_cVv (q := 81) cx 3 [.ref (oz_b G + 1), .int y10.1] 2 2 hRm (by decide) (by decide) (fun _ _ h => c_Ring_write h) ⟨tw_276, tw_278, ts_2, tw_3⟩ tw_279 (by decide +kernel) rfl (by decide) rfl rfl (st := []) rfl (Nat.le_of_ble_eq_true rfl) d_Ring_seek_78 rfl (fun v11 M12 hv11 => ?_)
      exact oz_vret cx hR d_Ring_seek_81
def y_Hall_number : MethodName := ⟨"OrderHall", "number", "()J"⟩
theorem d_Hall_number_0 : decode prog_1_method_19_code 0 = .ok (.aload_n 0, 1) := by decide +kernel
theorem d_Hall_number_1 : decode prog_1_method_19_code 1 = .ok (.getfield 49, 3) := by decide +kernel
theorem d_Hall_number_4 : decode prog_1_method_19_code 4 = .ok (.getfield 175, 3) := by decide +kernel
theorem d_Hall_number_7 : decode prog_1_method_19_code 7 = .ok (.ifCond .eq 13, 3) := by decide +kernel
theorem d_Hall_number_10 : decode prog_1_method_19_code 10 = .ok (.aload_n 0, 1) := by decide +kernel
theorem d_Hall_number_11 : decode prog_1_method_19_code 11 = .ok (.getfield 49, 3) := by decide +kernel
theorem d_Hall_number_14 : decode prog_1_method_19_code 14 = .ok (.invokevirtual 184, 3) := by decide +kernel
theorem d_Hall_number_17 : decode prog_1_method_19_code 17 = .ok (.goto 6, 3) := by decide +kernel
theorem d_Hall_number_20 : decode prog_1_method_19_code 20 = .ok (.ldc2_w 187, 3) := by decide +kernel
theorem d_Hall_number_23 : decode prog_1_method_19_code 23 = .ok (.lreturn, 1) := by decide +kernel
noncomputable def f_Hall_number (M : oz_M) : Option (Int64) := if (M.1 53 1) = 0 then (some (-1)) else ((f_Line_rank M).bind fun v1 => some v1)
set_option maxRecDepth 20000 in
set_option maxHeartbeats 4000000 in
theorem c_Hall_number {l : Launch} {D : va_G} {cs : Nat → ClassId} {b : Nat} {M : oz_M} {vz : Int64} (hF : f_Hall_number M = some vz) : oz_Met l D cs b y_Hall_number prog_1_method_19_code 1 (some .long) (oz_rm 3) [.ref (b + 0)] M (some (.long vz)) M := by
  refine oz_enter (by decide) (Nat.le_of_ble_eq_true rfl) (fun G cx hR e1 hRm e2 e3 e4 hnL => ?_)
  subst e1; subst e2; subst e3; subst e4
  refine (?_ : oz_R G 0 [(0, .ref (oz_b G + 0))] [] M (f_Hall_number  M) (fun x => x = vz)) _ hF rfl
  unfold f_Hall_number
  refine oz_aload_n (q := 1) cx d_Hall_number_0 rfl rfl 0 rfl ?_
  refine oz_get (q := 4) cx 0 5 (by decide) (ci := 0) rfl rfl tin_Hall (by decide) rfl rfl tw_233 d_Hall_number_1 rfl ?_
  refine oz_get (q := 7) cx 53 1 (by decide) (ci := 6) rfl rfl tin_Line (by decide) rfl rfl tw_183 d_Hall_number_4 rfl ?_
  refine oz_if_eq (q := 10) cx d_Hall_number_7 rfl rfl (fun h2 => ?_) (fun h2 => ?_)
  · refine oz_ldc2_w (q := 23) cx (v := (-1)) tw_354 d_Hall_number_20 rfl ?_
    exact oz_lretp cx hR d_Hall_number_23
  · refine oz_aload_n (q := 11) cx d_Hall_number_10 rfl rfl 0 rfl ?_
    refine oz_get (q := 14) cx 0 5 (by decide) (ci := 0) rfl rfl tin_Hall (by decide) rfl rfl tw_233 d_Hall_number_11 rfl ?_
    refine oz_cVlp (q := 17) cx 53 [] 0 6 hRm (by decide) (by decide) (fun _ h => c_Line_rank h) ⟨tw_346, tw_347, tw_348, tw_7⟩ tw_349 (by decide +kernel) rfl (by decide) rfl rfl (st := []) rfl (Nat.le_of_ble_eq_true rfl) d_Hall_number_14 rfl (fun v1 hv1 => ?_)
    refine oz_goto cx d_Hall_number_17 rfl ?_
    exact oz_lretp cx hR d_Hall_number_23
