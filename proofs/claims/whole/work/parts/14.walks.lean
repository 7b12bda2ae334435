def y_Model_boundOf : MethodName := ⟨"OrderHallModel", "boundOf", "(III)I"⟩
theorem d_Model_boundOf_0 : decode prog_10_method_44_code 0 = .ok (.iconst (-1), 1) := by decide +kernel
theorem d_Model_boundOf_1 : decode prog_10_method_44_code 1 = .ok (.istore 4, 2) := by decide +kernel
theorem d_Model_boundOf_3 : decode prog_10_method_44_code 3 = .ok (.iconst 0, 1) := by decide +kernel
theorem d_Model_boundOf_4 : decode prog_10_method_44_code 4 = .ok (.istore 5, 2) := by decide +kernel
theorem d_Model_boundOf_6 : decode prog_10_method_44_code 6 = .ok (.iload 5, 2) := by decide +kernel
theorem d_Model_boundOf_8 : decode prog_10_method_44_code 8 = .ok (.aload_n 0, 1) := by decide +kernel
theorem d_Model_boundOf_9 : decode prog_10_method_44_code 9 = .ok (.getfield 7, 3) := by decide +kernel
theorem d_Model_boundOf_12 : decode prog_10_method_44_code 12 = .ok (.if_icmp .ge 112, 3) := by decide +kernel
theorem d_Model_boundOf_15 : decode prog_10_method_44_code 15 = .ok (.aload_n 0, 1) := by decide +kernel
theorem d_Model_boundOf_16 : decode prog_10_method_44_code 16 = .ok (.iload_n 1, 1) := by decide +kernel
theorem d_Model_boundOf_17 : decode prog_10_method_44_code 17 = .ok (.iload 5, 2) := by decide +kernel
theorem d_Model_boundOf_19 : decode prog_10_method_44_code 19 = .ok (.iload_n 2, 1) := by decide +kernel
theorem d_Model_boundOf_20 : decode prog_10_method_44_code 20 = .ok (.iload_n 3, 1) := by decide +kernel
theorem d_Model_boundOf_21 : decode prog_10_method_44_code 21 = .ok (.invokevirtual 141, 3) := by decide +kernel
theorem d_Model_boundOf_24 : decode prog_10_method_44_code 24 = .ok (.istore 6, 2) := by decide +kernel
theorem d_Model_boundOf_26 : decode prog_10_method_44_code 26 = .ok (.iconst 0, 1) := by decide +kernel
theorem d_Model_boundOf_27 : decode prog_10_method_44_code 27 = .ok (.istore 7, 2) := by decide +kernel
theorem d_Model_boundOf_29 : decode prog_10_method_44_code 29 = .ok (.iload 7, 2) := by decide +kernel
theorem d_Model_boundOf_31 : decode prog_10_method_44_code 31 = .ok (.aload_n 0, 1) := by decide +kernel
theorem d_Model_boundOf_32 : decode prog_10_method_44_code 32 = .ok (.getfield 7, 3) := by decide +kernel
theorem d_Model_boundOf_35 : decode prog_10_method_44_code 35 = .ok (.if_icmp .ge 69, 3) := by decide +kernel
theorem d_Model_boundOf_38 : decode prog_10_method_44_code 38 = .ok (.iload 6, 2) := by decide +kernel
theorem d_Model_boundOf_40 : decode prog_10_method_44_code 40 = .ok (.ifCond .eq 55, 3) := by decide +kernel
theorem d_Model_boundOf_43 : decode prog_10_method_44_code 43 = .ok (.iload 7, 2) := by decide +kernel
theorem d_Model_boundOf_45 : decode prog_10_method_44_code 45 = .ok (.iload 5, 2) := by decide +kernel
theorem d_Model_boundOf_47 : decode prog_10_method_44_code 47 = .ok (.if_icmp .eq 44, 3) := by decide +kernel
theorem d_Model_boundOf_50 : decode prog_10_method_44_code 50 = .ok (.aload_n 0, 1) := by decide +kernel
theorem d_Model_boundOf_51 : decode prog_10_method_44_code 51 = .ok (.iload_n 1, 1) := by decide +kernel
theorem d_Model_boundOf_52 : decode prog_10_method_44_code 52 = .ok (.iload 7, 2) := by decide +kernel
theorem d_Model_boundOf_54 : decode prog_10_method_44_code 54 = .ok (.iload_n 2, 1) := by decide +kernel
theorem d_Model_boundOf_55 : decode prog_10_method_44_code 55 = .ok (.iload_n 3, 1) := by decide +kernel
theorem d_Model_boundOf_56 : decode prog_10_method_44_code 56 = .ok (.invokevirtual 141, 3) := by decide +kernel
theorem d_Model_boundOf_59 : decode prog_10_method_44_code 59 = .ok (.ifCond .eq 32, 3) := by decide +kernel
theorem d_Model_boundOf_62 : decode prog_10_method_44_code 62 = .ok (.iload_n 1, 1) := by decide +kernel
theorem d_Model_boundOf_63 : decode prog_10_method_44_code 63 = .ok (.ifCond .ne 17, 3) := by decide +kernel
theorem d_Model_boundOf_66 : decode prog_10_method_44_code 66 = .ok (.aload_n 0, 1) := by decide +kernel
theorem d_Model_boundOf_67 : decode prog_10_method_44_code 67 = .ok (.iload 7, 2) := by decide +kernel
theorem d_Model_boundOf_69 : decode prog_10_method_44_code 69 = .ok (.iload 5, 2) := by decide +kernel
theorem d_Model_boundOf_71 : decode prog_10_method_44_code 71 = .ok (.invokevirtual 77, 3) := by decide +kernel
theorem d_Model_boundOf_74 : decode prog_10_method_44_code 74 = .ok (.ifCond .eq 21, 3) := by decide +kernel
theorem d_Model_boundOf_77 : decode prog_10_method_44_code 77 = .ok (.goto 14, 3) := by decide +kernel
theorem d_Model_boundOf_80 : decode prog_10_method_44_code 80 = .ok (.aload_n 0, 1) := by decide +kernel
theorem d_Model_boundOf_81 : decode prog_10_method_44_code 81 = .ok (.iload 5, 2) := by decide +kernel
theorem d_Model_boundOf_83 : decode prog_10_method_44_code 83 = .ok (.iload 7, 2) := by decide +kernel
theorem d_Model_boundOf_85 : decode prog_10_method_44_code 85 = .ok (.invokevirtual 77, 3) := by decide +kernel
theorem d_Model_boundOf_88 : decode prog_10_method_44_code 88 = .ok (.ifCond .eq 7, 3) := by decide +kernel
theorem d_Model_boundOf_91 : decode prog_10_method_44_code 91 = .ok (.iconst 1, 1) := by decide +kernel
theorem d_Model_boundOf_92 : decode prog_10_method_44_code 92 = .ok (.goto 4, 3) := by decide +kernel
theorem d_Model_boundOf_95 : decode prog_10_method_44_code 95 = .ok (.iconst 0, 1) := by decide +kernel
theorem d_Model_boundOf_96 : decode prog_10_method_44_code 96 = .ok (.istore 6, 2) := by decide +kernel
theorem d_Model_boundOf_98 : decode prog_10_method_44_code 98 = .ok (.iinc 7 1, 3) := by decide +kernel
theorem d_Model_boundOf_101 : decode prog_10_method_44_code 101 = .ok (.goto (-72), 3) := by decide +kernel
theorem d_Model_boundOf_104 : decode prog_10_method_44_code 104 = .ok (.iload 6, 2) := by decide +kernel
theorem d_Model_boundOf_106 : decode prog_10_method_44_code 106 = .ok (.ifCond .eq 8, 3) := by decide +kernel
theorem d_Model_boundOf_109 : decode prog_10_method_44_code 109 = .ok (.iload 5, 2) := by decide +kernel
theorem d_Model_boundOf_111 : decode prog_10_method_44_code 111 = .ok (.goto 5, 3) := by decide +kernel
theorem d_Model_boundOf_114 : decode prog_10_method_44_code 114 = .ok (.iload 4, 2) := by decide +kernel
theorem d_Model_boundOf_116 : decode prog_10_method_44_code 116 = .ok (.istore 4, 2) := by decide +kernel
theorem d_Model_boundOf_118 : decode prog_10_method_44_code 118 = .ok (.iinc 5 1, 3) := by decide +kernel
theorem d_Model_boundOf_121 : decode prog_10_method_44_code 121 = .ok (.goto (-115), 3) := by decide +kernel
theorem d_Model_boundOf_124 : decode prog_10_method_44_code 124 = .ok (.iload 4, 2) := by decide +kernel
theorem d_Model_boundOf_126 : decode prog_10_method_44_code 126 = .ok (.ireturn, 1) := by decide +kernel
noncomputable def f_Model_boundOf (a0 : Int32) (a1 : Int32) (a2 : Int32) (M : oz_M) : Option (Int32) := (oz_lp (fun (s1 : Int32 × Int32) => (if s1.2 < (M.1 62 1) then ((f_Model_isBound a0 s1.2 a1 a2 M).bind fun v2 => (oz_lp (fun (s3 : Int32 × Int32) => (if s3.2 < (M.1 62 1) then (if s3.1 = 0 then (some (.inl (0, s3.2 + 1))) else (if s3.2 = s1.2 then (some (.inl (1, s3.2 + 1))) else ((f_Model_isBound a0 s3.2 a1 a2 M).bind fun v4 => if v4 = 0 then (some (.inl (1, s3.2 + 1))) else (if a0 = 0 then ((f_Model_isLess s3.2 s1.2 M).bind fun v7 => if v7 = 0 then (some (.inl (0, s3.2 + 1))) else (some (.inl (1, s3.2 + 1)))) else ((f_Model_isLess s1.2 s3.2 M).bind fun v5 => if v5 = 0 then (some (.inl (0, s3.2 + 1))) else (some (.inl (1, s3.2 + 1)))))))) else (some (.inr (s3.1, s3.2))) : Option ((Int32 × Int32) ⊕ (Int32 × Int32)))) (v2, 0)).bind fun (y14 : Int32 × Int32) => if y14.1 = 0 then (some (.inl (s1.1, s1.2 + 1))) else (some (.inl (s1.2, s1.2 + 1)))) else (some (.inr (s1.1, s1.2))) : Option ((Int32 × Int32) ⊕ (Int32 × Int32)))) ((-1), 0)).bind fun (y17 : Int32 × Int32) => some y17.1
set_option maxRecDepth 20000 in
set_option maxHeartbeats 4000000 in
theorem c_Model_boundOf {l : Launch} {D : va_G} {cs : Nat → ClassId} {b : Nat} {a0 : Int32} {a1 : Int32} {a2 : Int32} {M : oz_M} {vz : Int32} (hF : f_Model_boundOf a0 a1 a2 M = some vz) : oz_Met l D cs b y_Model_boundOf prog_10_method_44_code 8 (some .int) (oz_rm 3) [.ref (b + 62), .int a0, .int a1, .int a2] M (some (.int vz)) M := by
  refine oz_enter (by decide) (Nat.le_of_ble_eq_true rfl) (fun G cx hR e1 hRm e2 e3 e4 hnL => ?_)
  subst e1; subst e2; subst e3; subst e4
  refine (?_ : oz_R G 0 [(0, .ref (oz_b G + 62)), (1, .int a0), (2, .int a1), (3, .int a2)] [] M (f_Model_boundOf a0 a1 a2 M) (fun x => x = vz)) _ hF rfl
  unfold f_Model_boundOf
  refine oz_iconst (q := 1) cx d_Model_boundOf_0 rfl (v := (-1)) rfl ?_
  refine oz_istore (q := 3) cx d_Model_boundOf_1 rfl (by rw [hnL]; decide) (lv2 := [(4, .int (-1)), (0, .ref (oz_b G + 62)), (1, .int a0), (2, .int a1), (3, .int a2)]) rfl ?_
  refine oz_iconst (q := 4) cx d_Model_boundOf_3 rfl (v := 0) rfl ?_
  refine oz_istore (q := 6) cx d_Model_boundOf_4 rfl (by rw [hnL]; decide) (lv2 := [(5, .int 0), (4, .int (-1)), (0, .ref (oz_b G + 62)), (1, .int a0), (2, .int a1), (3, .int a2)]) rfl ?_
  refine oz_lv [2, 3, 4, 5, 1, 0] rfl ?_
  refine oz_seq (p2 := 124) (lv2 := fun (y17 : Int32 × Int32) => [(4, .int y17.1)]) (st2 := fun y17 => []) (M2 := fun y17 => M) ?_ (fun y17 => ?_)
  · refine oz_loop (Y := Int32 × Int32) 6 (fun (s1 : Int32 × Int32) => [(0, .ref (oz_b G + 62)), (1, .int a0), (2, .int a1), (3, .int a2), (4, .int s1.1), (5, .int s1.2)]) (fun (s1 : Int32 × Int32) => M) ((-1), 0) (fun s1 => ?_)
    refine oz_iload (q := 8) cx d_Model_boundOf_6 rfl 5 rfl ?_
    refine oz_aload_n (q := 9) cx d_Model_boundOf_8 rfl rfl 0 rfl ?_
    refine oz_get (q := 12) cx 62 1 (by decide) (ci := 8) rfl rfl tin_Model (by decide) rfl rfl tw_787 d_Model_boundOf_9 rfl ?_
    refine oz_icmp_ge (q := 15) cx d_Model_boundOf_12 rfl rfl (fun h16 => ?_) (fun h16 => ?_)
    · exact oz_lv [4] rfl (oz_leaf (fun h => h))
    · refine oz_aload_n (q := 16) cx d_Model_boundOf_15 rfl rfl 0 rfl ?_
      refine oz_iload_n (q := 17) cx d_Model_boundOf_16 rfl rfl 1 rfl ?_
      refine oz_iload (q := 19) cx d_Model_boundOf_17 rfl 5 rfl ?_
      refine oz_iload_n (q := 20) cx d_Model_boundOf_19 rfl rfl 2 rfl ?_
      refine oz_iload_n (q := 21) cx d_Model_boundOf_20 rfl rfl 3 rfl ?_
      refine oz_cVip (q := 24) cx 62 [.int a0, .int s1.2, .int a1, .int a2] 4 8 hRm (by decide) (by decide) (fun _ h => c_Model_isBound h) ⟨tw_1006, tw_1008, ts_50, tw_9⟩ tw_1009 (by decide +kernel) rfl (by decide) rfl rfl (st := []) rfl (Nat.le_of_ble_eq_true rfl) d_Model_boundOf_21 rfl (fun v2 hv2 => ?_)
      refine oz_istore (q := 26) cx d_Model_boundOf_24 rfl (by rw [hnL]; decide) (lv2 := [(6, .int v2), (0, .ref (oz_b G + 62)), (1, .int a0), (2, .int a1), (3, .int a2), (4, .int s1.1), (5, .int s1.2)]) rfl ?_
      refine oz_iconst (q := 27) cx d_Model_boundOf_26 rfl (v := 0) rfl ?_
      refine oz_istore (q := 29) cx d_Model_boundOf_27 rfl (by rw [hnL]; decide) (lv2 := [(7, .int 0), (6, .int v2), (0, .ref (oz_b G + 62)), (1, .int a0), (2, .int a1), (3, .int a2), (4, .int s1.1), (5, .int s1.2)]) rfl ?_
      refine oz_lv [2, 3, 4, 5, 6, 7, 1, 0] rfl ?_
      refine oz_seq (p2 := 104) (lv2 := fun (y14 : Int32 × Int32) => [(0, .ref (oz_b G + 62)), (1, .int a0), (2, .int a1), (3, .int a2), (4, .int s1.1), (5, .int s1.2), (6, .int y14.1)]) (st2 := fun y14 => []) (M2 := fun y14 => M) ?_ (fun y14 => ?_)
      · refine oz_loop (Y := Int32 × Int32) 29 (fun (s3 : Int32 × Int32) => [(0, .ref (oz_b G + 62)), (1, .int a0), (2, .int a1), (3, .int a2), (4, .int s1.1), (5, .int s1.2), (6, .int s3.1), (7, .int s3.2)]) (fun (s3 : Int32 × Int32) => M) (v2, 0) (fun s3 => ?_)
        refine oz_iload (q := 31) cx d_Model_boundOf_29 rfl 7 rfl ?_
        refine oz_aload_n (q := 32) cx d_Model_boundOf_31 rfl rfl 0 rfl ?_
        refine oz_get (q := 35) cx 62 1 (by decide) (ci := 8) rfl rfl tin_Model (by decide) rfl rfl tw_787 d_Model_boundOf_32 rfl ?_
        refine oz_icmp_ge (q := 38) cx d_Model_boundOf_35 rfl rfl (fun h13 => ?_) (fun h13 => ?_)
        · exact oz_lv [0, 1, 2, 3, 4, 5, 6] rfl (oz_leaf (fun h => h))
        · refine oz_iload (q := 40) cx d_Model_boundOf_38 rfl 6 rfl ?_
          refine oz_if_eq (q := 43) cx d_Model_boundOf_40 rfl rfl (fun h12 => ?_) (fun h12 => ?_)
          · refine oz_iconst (q := 96) cx d_Model_boundOf_95 rfl (v := 0) rfl ?_
            refine oz_istore (q := 98) cx d_Model_boundOf_96 rfl (by rw [hnL]; decide) (lv2 := [(6, .int 0), (0, .ref (oz_b G + 62)), (1, .int a0), (2, .int a1), (3, .int a2), (4, .int s1.1), (5, .int s1.2), (7, .int s3.2)]) rfl ?_
            refine oz_iinc (q := 101) cx (s3.2 + 1) d_Model_boundOf_98 rfl 7 rfl rfl (by rw [hnL]; decide) (lv2 := [(7, .int (s3.2 + 1)), (6, .int 0), (0, .ref (oz_b G + 62)), (1, .int a0), (2, .int a1), (3, .int a2), (4, .int s1.1), (5, .int s1.2)]) rfl ?_
            refine oz_goto cx d_Model_boundOf_101 rfl ?_
            exact oz_lv [2, 3, 4, 5, 6, 7, 1, 0] rfl (oz_leaf (fun h => h))
          · refine oz_iload (q := 45) cx d_Model_boundOf_43 rfl 7 rfl ?_
            refine oz_iload (q := 47) cx d_Model_boundOf_45 rfl 5 rfl ?_
            refine oz_icmp_eq (q := 50) cx d_Model_boundOf_47 rfl rfl (fun h11 => ?_) (fun h11 => ?_)
            · refine oz_iconst (q := 92) cx d_Model_boundOf_91 rfl (v := 1) rfl ?_
              refine oz_goto cx d_Model_boundOf_92 rfl ?_
              refine oz_istore (q := 98) cx d_Model_boundOf_96 rfl (by rw [hnL]; decide) (lv2 := [(6, .int 1), (0, .ref (oz_b G + 62)), (1, .int a0), (2, .int a1), (3, .int a2), (4, .int s1.1), (5, .int s1.2), (7, .int s3.2)]) rfl ?_
              refine oz_iinc (q := 101) cx (s3.2 + 1) d_Model_boundOf_98 rfl 7 rfl rfl (by rw [hnL]; decide) (lv2 := [(7, .int (s3.2 + 1)), (6, .int 1), (0, .ref (oz_b G + 62)), (1, .int a0), (2, .int a1), (3, .int a2), (4, .int s1.1), (5, .int s1.2)]) rfl ?_
              refine oz_goto cx d_Model_boundOf_101 rfl ?_
              exact oz_lv [2, 3, 4, 5, 6, 7, 1, 0] rfl (oz_leaf (fun h => h))
            · refine oz_aload_n (q := 51) cx d_Model_boundOf_50 rfl rfl 0 rfl ?_
              refine oz_iload_n (q := 52) cx d_Model_boundOf_51 rfl rfl 1 rfl ?_
              refine oz_iload (q := 54) cx d_Model_boundOf_52 rfl 7 rfl ?_
              refine oz_iload_n (q := 55) cx d_Model_boundOf_54 rfl rfl 2 rfl ?_
              refine oz_iload_n (q := 56) cx d_Model_boundOf_55 rfl rfl 3 rfl ?_
              refine oz_cVip (q := 59) cx 62 [.int a0, .int s3.2, .int a1, .int a2] 4 8 hRm (by decide) (by decide) (fun _ h => c_Model_isBound h) ⟨tw_1006, tw_1008, ts_50, tw_9⟩ tw_1009 (by decide +kernel) rfl (by decide) rfl rfl (st := []) rfl (Nat.le_of_ble_eq_true rfl) d_Model_boundOf_56 rfl (fun v4 hv4 => ?_)
              refine oz_if_eq (q := 62) cx d_Model_boundOf_59 rfl rfl (fun h10 => ?_) (fun h10 => ?_)
              · refine oz_iconst (q := 92) cx d_Model_boundOf_91 rfl (v := 1) rfl ?_
                refine oz_goto cx d_Model_boundOf_92 rfl ?_
                refine oz_istore (q := 98) cx d_Model_boundOf_96 rfl (by rw [hnL]; decide) (lv2 := [(6, .int 1), (0, .ref (oz_b G + 62)), (1, .int a0), (2, .int a1), (3, .int a2), (4, .int s1.1), (5, .int s1.2), (7, .int s3.2)]) rfl ?_
                refine oz_iinc (q := 101) cx (s3.2 + 1) d_Model_boundOf_98 rfl 7 rfl rfl (by rw [hnL]; decide) (lv2 := [(7, .int (s3.2 + 1)), (6, .int 1), (0, .ref (oz_b G + 62)), (1, .int a0), (2, .int a1), (3, .int a2), (4, .int s1.1), (5, .int s1.2)]) rfl ?_
                refine oz_goto cx d_Model_boundOf_101 rfl ?_
                exact oz_lv [2, 3, 4, 5, 6, 7, 1, 0] rfl (oz_leaf (fun h => h))
              · refine oz_iload_n (q := 63) cx d_Model_boundOf_62 rfl rfl 1 rfl ?_
                refine oz_if_ne (q := 66) cx d_Model_boundOf_63 rfl rfl (fun h9 => ?_) (fun h9 => ?_)
                · refine oz_aload_n (q := 81) cx d_Model_boundOf_80 rfl rfl 0 rfl ?_
                  refine oz_iload (q := 83) cx d_Model_boundOf_81 rfl 5 rfl ?_
                  refine oz_iload (q := 85) cx d_Model_boundOf_83 rfl 7 rfl ?_
                  refine oz_cVip (q := 88) cx 62 [.int s1.2, .int s3.2] 2 8 hRm (by decide) (by decide) (fun _ h => c_Model_isLess h) ⟨tw_871, tw_873, ts_33, tw_9⟩ tw_874 (by decide +kernel) rfl (by decide) rfl rfl (st := []) rfl (Nat.le_of_ble_eq_true rfl) d_Model_boundOf_85 rfl (fun v5 hv5 => ?_)
                  refine oz_if_eq (q := 91) cx d_Model_boundOf_88 rfl rfl (fun h6 => ?_) (fun h6 => ?_)
                  · refine oz_iconst (q := 96) cx d_Model_boundOf_95 rfl (v := 0) rfl ?_
                    refine oz_istore (q := 98) cx d_Model_boundOf_96 rfl (by rw [hnL]; decide) (lv2 := [(6, .int 0), (0, .ref (oz_b G + 62)), (1, .int a0), (2, .int a1), (3, .int a2), (4, .int s1.1), (5, .int s1.2), (7, .int s3.2)]) rfl ?_
                    refine oz_iinc (q := 101) cx (s3.2 + 1) d_Model_boundOf_98 rfl 7 rfl rfl (by rw [hnL]; decide) (lv2 := [(7, .int (s3.2 + 1)), (6, .int 0), (0, .ref (oz_b G + 62)), (1, .int a0), (2, .int a1), (3, .int a2), (4, .int s1.1), (5, .int s1.2)]) rfl ?_
                    refine oz_goto cx d_Model_boundOf_101 rfl ?_
                    exact oz_lv [2, 3, 4, 5, 6, 7, 1, 0] rfl (oz_leaf (fun h => h))
                  · refine oz_iconst (q := 92) cx d_Model_boundOf_91 rfl (v := 1) rfl ?_
                    refine oz_goto cx d_Model_boundOf_92 rfl ?_
                    refine oz_istore (q := 98) cx d_Model_boundOf_96 rfl (by rw [hnL]; decide) (lv2 := [(6, .int 1), (0, .ref (oz_b G + 62)), (1, .int a0), (2, .int a1), (3, .int a2), (4, .int s1.1), (5, .int s1.2), (7, .int s3.2)]) rfl ?_
                    refine oz_iinc (q := 101) cx (s3.2 + 1) d_Model_boundOf_98 rfl 7 rfl rfl (by rw [hnL]; decide) (lv2 := [(7, .int (s3.2 + 1)), (6, .int 1), (0, .ref (oz_b G + 62)), (1, .int a0), (2, .int a1), (3, .int a2), (4, .int s1.1), (5, .int s1.2)]) rfl ?_
                    refine oz_goto cx d_Model_boundOf_101 rfl ?_
                    exact oz_lv [2, 3, 4, 5, 6, 7, 1, 0] rfl (oz_leaf (fun h => h))
                · refine oz_aload_n (q := 67) cx d_Model_boundOf_66 rfl rfl 0 rfl ?_
                  refine oz_iload (q := 69) cx d_Model_boundOf_67 rfl 7 rfl ?_
                  refine oz_iload (q := 71) cx d_Model_boundOf_69 rfl 5 rfl ?_
                  refine oz_cVip (q := 74) cx 62 [.int s3.2, .int s1.2] 2 8 hRm (by decide) (by decide) (fun _ h => c_Model_isLess h) ⟨tw_871, tw_873, ts_33, tw_9⟩ tw_874 (by decide +kernel) rfl (by decide) rfl rfl (st := []) rfl (Nat.le_of_ble_eq_true rfl) d_Model_boundOf_71 rfl (fun v7 hv7 => ?_)
                  refine oz_if_eq (q := 77) cx d_Model_boundOf_74 rfl rfl (fun h8 => ?_) (fun h8 => ?_)
                  · refine oz_iconst (q := 96) cx d_Model_boundOf_95 rfl (v := 0) rfl ?_
                    refine oz_istore (q := 98) cx d_Model_boundOf_96 rfl (by rw [hnL]; decide) (lv2 := [(6, .int 0), (0, .ref (oz_b G + 62)), (1, .int a0), (2, .int a1), (3, .int a2), (4, .int s1.1), (5, .int s1.2), (7, .int s3.2)]) rfl ?_
                    refine oz_iinc (q := 101) cx (s3.2 + 1) d_Model_boundOf_98 rfl 7 rfl rfl (by rw [hnL]; decide) (lv2 := [(7, .int (s3.2 + 1)), (6, .int 0), (0, .ref (oz_b G + 62)), (1, .int a0), (2, .int a1), (3, .int a2), (4, .int s1.1), (5, .int s1.2)]) rfl ?_
                    refine oz_goto cx d_Model_boundOf_101 rfl ?_
                    exact oz_lv [2, 3, 4, 5, 6, 7, 1, 0] rfl (oz_leaf (fun h => h))
                  · refine oz_goto cx d_Model_boundOf_77 rfl ?_
                    refine oz_iconst (q := 92) cx d_Model_boundOf_91 rfl (v := 1) rfl ?_
                    refine oz_goto cx d_Model_boundOf_92 rfl ?_
                    refine oz_istore (q := 98) cx d_Model_boundOf_96 rfl (by rw [hnL]; decide) (lv2 := [(6, .int 1), (0, .ref (oz_b G + 62)), (1, .int a0), (2, .int a1), (3, .int a2), (4, .int s1.1), (5, .int s1.2), (7, .int s3.2)]) rfl ?_
                    refine oz_iinc (q := 101) cx (s3.2 + 1) d_Model_boundOf_98 rfl 7 rfl rfl (by rw [hnL]; decide) (lv2 := [(7, .int (s3.2 + 1)), (6, .int 1), (0, .ref (oz_b G + 62)), (1, .int a0), (2, .int a1), (3, .int a2), (4, .int s1.1), (5, .int s1.2)]) rfl ?_
                    refine oz_goto cx d_Model_boundOf_101 rfl ?_
                    exact oz_lv [2, 3, 4, 5, 6, 7, 1, 0] rfl (oz_leaf (fun h => h))
      · refine oz_iload (q := 106) cx d_Model_boundOf_104 rfl 6 rfl ?_
        refine oz_if_eq (q := 109) cx d_Model_boundOf_106 rfl rfl (fun h15 => ?_) (fun h15 => ?_)
        · refine oz_iload (q := 116) cx d_Model_boundOf_114 rfl 4 rfl ?_
          refine oz_istore (q := 118) cx d_Model_boundOf_116 rfl (by rw [hnL]; decide) (lv2 := [(4, .int s1.1), (0, .ref (oz_b G + 62)), (1, .int a0), (2, .int a1), (3, .int a2), (5, .int s1.2), (6, .int y14.1)]) rfl ?_
          refine oz_iinc (q := 121) cx (s1.2 + 1) d_Model_boundOf_118 rfl 5 rfl rfl (by rw [hnL]; decide) (lv2 := [(5, .int (s1.2 + 1)), (4, .int s1.1), (0, .ref (oz_b G + 62)), (1, .int a0), (2, .int a1), (3, .int a2), (6, .int y14.1)]) rfl ?_
          refine oz_goto cx d_Model_boundOf_121 rfl ?_
          exact oz_lv [2, 3, 4, 5, 1, 0] rfl (oz_leaf (fun h => h))
        · refine oz_iload (q := 111) cx d_Model_boundOf_109 rfl 5 rfl ?_
          refine oz_goto cx d_Model_boundOf_111 rfl ?_
          refine oz_istore (q := 118) cx d_Model_boundOf_116 rfl (by rw [hnL]; decide) (lv2 := [(4, .int s1.2), (0, .ref (oz_b G + 62)), (1, .int a0), (2, .int a1), (3, .int a2), (5, .int s1.2), (6, .int y14.1)]) rfl ?_
          refine oz_iinc (q := 121) cx (s1.2 + 1) d_Model_boundOf_118 rfl 5 rfl rfl (by rw [hnL]; decide) (lv2 := [(5, .int (s1.2 + 1)), (4, .int s1.2), (0, .ref (oz_b G + 62)), (1, .int a0), (2, .int a1), (3, .int a2), (6, .int y14.1)]) rfl ?_
          refine oz_goto cx d_Model_boundOf_121 rfl ?_
          exact oz_lv [2, 3, 4, 5, 1, 0] rfl (oz_leaf (fun h => h))
  · refine oz_iload (q := 126) cx d_Model_boundOf_124 rfl 0 rfl ?_
    exact oz_iretp cx hR d_Model_boundOf_126
def y_Model_chains : MethodName := ⟨"OrderHallModel", "chains", "(I)I"⟩
theorem d_Model_chains_0 : decode prog_10_method_36_code 0 = .ok (.aload_n 0, 1) := by decide +kernel
theorem d_Model_chains_1 : decode prog_10_method_36_code 1 = .ok (.aload_n 0, 1) := by decide +kernel
theorem d_Model_chains_2 : decode prog_10_method_36_code 2 = .ok (.getfield 53, 3) := by decide +kernel
theorem d_Model_chains_5 : decode prog_10_method_36_code 5 = .ok (.ifCond .ne 7, 3) := by decide +kernel
theorem d_Model_chains_8 : decode prog_10_method_36_code 8 = .ok (.iconst 1, 1) := by decide +kernel
theorem d_Model_chains_9 : decode prog_10_method_36_code 9 = .ok (.goto 18, 3) := by decide +kernel
theorem d_Model_chains_12 : decode prog_10_method_36_code 12 = .ok (.iload_n 1, 1) := by decide +kernel
theorem d_Model_chains_13 : decode prog_10_method_36_code 13 = .ok (.ifCond .lt 9, 3) := by decide +kernel
theorem d_Model_chains_16 : decode prog_10_method_36_code 16 = .ok (.iload_n 1, 1) := by decide +kernel
theorem d_Model_chains_17 : decode prog_10_method_36_code 17 = .ok (.bipush 14, 2) := by decide +kernel
theorem d_Model_chains_19 : decode prog_10_method_36_code 19 = .ok (.if_icmp .le 7, 3) := by decide +kernel
theorem d_Model_chains_22 : decode prog_10_method_36_code 22 = .ok (.iconst 2, 1) := by decide +kernel
theorem d_Model_chains_23 : decode prog_10_method_36_code 23 = .ok (.goto 4, 3) := by decide +kernel
theorem d_Model_chains_26 : decode prog_10_method_36_code 26 = .ok (.iconst 0, 1) := by decide +kernel
theorem d_Model_chains_27 : decode prog_10_method_36_code 27 = .ok (.putfield 50, 3) := by decide +kernel
theorem d_Model_chains_30 : decode prog_10_method_36_code 30 = .ok (.aload_n 0, 1) := by decide +kernel
theorem d_Model_chains_31 : decode prog_10_method_36_code 31 = .ok (.getfield 50, 3) := by decide +kernel
theorem d_Model_chains_34 : decode prog_10_method_36_code 34 = .ok (.ifCond .le 5, 3) := by decide +kernel
theorem d_Model_chains_37 : decode prog_10_method_36_code 37 = .ok (.iconst 0, 1) := by decide +kernel
theorem d_Model_chains_38 : decode prog_10_method_36_code 38 = .ok (.ireturn, 1) := by decide +kernel
theorem d_Model_chains_39 : decode prog_10_method_36_code 39 = .ok (.iconst 0, 1) := by decide +kernel
theorem d_Model_chains_40 : decode prog_10_method_36_code 40 = .ok (.istore_n 2, 1) := by decide +kernel
theorem d_Model_chains_41 : decode prog_10_method_36_code 41 = .ok (.iconst 0, 1) := by decide +kernel
theorem d_Model_chains_42 : decode prog_10_method_36_code 42 = .ok (.istore_n 3, 1) := by decide +kernel
theorem d_Model_chains_43 : decode prog_10_method_36_code 43 = .ok (.iload_n 3, 1) := by decide +kernel
theorem d_Model_chains_44 : decode prog_10_method_36_code 44 = .ok (.iconst 1, 1) := by decide +kernel
theorem d_Model_chains_45 : decode prog_10_method_36_code 45 = .ok (.aload_n 0, 1) := by decide +kernel
theorem d_Model_chains_46 : decode prog_10_method_36_code 46 = .ok (.getfield 7, 3) := by decide +kernel
theorem d_Model_chains_49 : decode prog_10_method_36_code 49 = .ok (.ishl, 1) := by decide +kernel
theorem d_Model_chains_50 : decode prog_10_method_36_code 50 = .ok (.if_icmp .ge 33, 3) := by decide +kernel
theorem d_Model_chains_53 : decode prog_10_method_36_code 53 = .ok (.iload_n 3, 1) := by decide +kernel
theorem d_Model_chains_54 : decode prog_10_method_36_code 54 = .ok (.invokestatic 103, 3) := by decide +kernel
theorem d_Model_chains_57 : decode prog_10_method_36_code 57 = .ok (.iload_n 1, 1) := by decide +kernel
theorem d_Model_chains_58 : decode prog_10_method_36_code 58 = .ok (.if_icmp .ne 17, 3) := by decide +kernel
theorem d_Model_chains_61 : decode prog_10_method_36_code 61 = .ok (.aload_n 0, 1) := by decide +kernel
theorem d_Model_chains_62 : decode prog_10_method_36_code 62 = .ok (.iload_n 3, 1) := by decide +kernel
theorem d_Model_chains_63 : decode prog_10_method_36_code 63 = .ok (.invokevirtual 106, 3) := by decide +kernel
theorem d_Model_chains_66 : decode prog_10_method_36_code 66 = .ok (.ifCond .eq 9, 3) := by decide +kernel
theorem d_Model_chains_69 : decode prog_10_method_36_code 69 = .ok (.iload_n 2, 1) := by decide +kernel
theorem d_Model_chains_70 : decode prog_10_method_36_code 70 = .ok (.iconst 1, 1) := by decide +kernel
theorem d_Model_chains_71 : decode prog_10_method_36_code 71 = .ok (.iadd, 1) := by decide +kernel
theorem d_Model_chains_72 : decode prog_10_method_36_code 72 = .ok (.goto 4, 3) := by decide +kernel
theorem d_Model_chains_75 : decode prog_10_method_36_code 75 = .ok (.iload_n 2, 1) := by decide +kernel
theorem d_Model_chains_76 : decode prog_10_method_36_code 76 = .ok (.istore_n 2, 1) := by decide +kernel
theorem d_Model_chains_77 : decode prog_10_method_36_code 77 = .ok (.iinc 3 1, 3) := by decide +kernel
theorem d_Model_chains_80 : decode prog_10_method_36_code 80 = .ok (.goto (-37), 3) := by decide +kernel
theorem d_Model_chains_83 : decode prog_10_method_36_code 83 = .ok (.iload_n 2, 1) := by decide +kernel
theorem d_Model_chains_84 : decode prog_10_method_36_code 84 = .ok (.ireturn, 1) := by decide +kernel
noncomputable def f_Model_chains (a0 : Int32) (M : oz_M) : Option (Int32 × oz_M) := (if (M.1 62 2) = 0 then (some 1) else (if a0 < 0 then (some 2) else (if 14 < a0 then (some 2) else (some 0)))).bind fun (z1 : Int32) => (some (oz_s M 62 0 z1)).bind fun M5 => if 0 < (M5.1 62 0) then (some (0, M5)) else ((oz_lp (fun (s6 : Int32 × Int32) => (if s6.2 < (1 <<< ((M5.1 62 1) &&& 31)) then ((f_Model_sizeOf s6.2 M5).bind fun v7 => if v7 = a0 then ((f_Model_isChain s6.2 M5).bind fun v8 => if v8 = 0 then (some (.inl (s6.1, s6.2 + 1))) else (some (.inl (s6.1 + 1, s6.2 + 1)))) else (some (.inl (s6.1, s6.2 + 1)))) else (some (.inr (s6.1, s6.2))) : Option ((Int32 × Int32) ⊕ (Int32 × Int32)))) (0, 0)).bind fun (y12 : Int32 × Int32) => some (y12.1, M5))
set_option maxRecDepth 20000 in
set_option maxHeartbeats 4000000 in
theorem c_Model_chains {l : Launch} {D : va_G} {cs : Nat → ClassId} {b : Nat} {a0 : Int32} {M : oz_M} {vz : Int32} {Mz : oz_M} (hF : f_Model_chains a0 M = some (vz, Mz)) : oz_Met l D cs b y_Model_chains prog_10_method_36_code 4 (some .int) (oz_rm 3) [.ref (b + 62), .int a0] M (some (.int vz)) Mz := by
  refine oz_enter (by decide) (Nat.le_of_ble_eq_true rfl) (fun G cx hR e1 hRm e2 e3 e4 hnL => ?_)
  subst e1; subst e2; subst e3; subst e4
  refine (?_ : oz_R G 0 [(0, .ref (oz_b G + 62)), (1, .int a0)] [] M (f_Model_chains a0 M) (fun x => x = (vz, Mz))) _ hF rfl
  unfold f_Model_chains
  refine oz_aload_n (q := 1) cx d_Model_chains_0 rfl rfl 0 rfl ?_
  refine oz_aload_n (q := 2) cx d_Model_chains_1 rfl rfl 0 rfl ?_
  refine oz_get (q := 5) cx 62 2 (by decide) (ci := 8) rfl rfl tin_Model (by decide) rfl rfl tw_788 d_Model_chains_2 rfl ?_
  refine oz_seq (p2 := 27) (lv2 := fun (z1 : Int32) => [(0, .ref (oz_b G + 62)), (1, .int a0)]) (st2 := fun z1 => [.int z1, .ref (oz_b G + 62)]) (M2 := fun z1 => M) ?_ (fun z1 => ?_)
  · refine oz_if_ne (q := 8) cx d_Model_chains_5 rfl rfl (fun h4 => ?_) (fun h4 => ?_)
    · refine oz_iload_n (q := 13) cx d_Model_chains_12 rfl rfl 1 rfl ?_
      refine oz_if_lt (q := 16) cx d_Model_chains_13 rfl rfl (fun h3 => ?_) (fun h3 => ?_)
      · refine oz_iconst (q := 23) cx d_Model_chains_22 rfl (v := 2) rfl ?_
        refine oz_goto cx d_Model_chains_23 rfl ?_
        exact oz_lv [0, 1] rfl (oz_leaf (fun h => h))
      · refine oz_iload_n (q := 17) cx d_Model_chains_16 rfl rfl 1 rfl ?_
        refine oz_bipush (q := 19) cx d_Model_chains_17 rfl (v := 14) rfl ?_
        refine oz_icmp_le (q := 22) cx d_Model_chains_19 rfl rfl (fun h2 => ?_) (fun h2 => ?_)
        · refine oz_iconst (q := 27) cx d_Model_chains_26 rfl (v := 0) rfl ?_
          exact oz_lv [0, 1] rfl (oz_leaf (fun h => h))
        · refine oz_iconst (q := 23) cx d_Model_chains_22 rfl (v := 2) rfl ?_
          refine oz_goto cx d_Model_chains_23 rfl ?_
          exact oz_lv [0, 1] rfl (oz_leaf (fun h => h))
    · refine oz_iconst (q := 9) cx d_Model_chains_8 rfl (v := 1) rfl ?_
      refine oz_goto cx d_Model_chains_9 rfl ?_
      exact oz_lv [0, 1] rfl (oz_leaf (fun h => h))
  · refine oz_put (q := 30) cx 62 0 (by decide) (ci := 8) rfl rfl rfl tin_Model t_Model t_Model_ok n_Model (by decide) (Nat.le_of_ble_eq_true rfl) rfl tw_786 rfl rfl rfl d_Model_chains_27 rfl ?_
    refine oz_nm (fun M5 hM5 => ?_)
    refine oz_aload_n (q := 31) cx d_Model_chains_30 rfl rfl 0 rfl ?_
    refine oz_get (q := 34) cx 62 0 (by decide) (ci := 8) rfl rfl tin_Model (by decide) rfl rfl tw_786 d_Model_chains_31 rfl ?_
    refine oz_if_le (q := 37) cx d_Model_chains_34 rfl rfl (fun h13 => ?_) (fun h13 => ?_)
    · refine oz_iconst (q := 40) cx d_Model_chains_39 rfl (v := 0) rfl ?_
      refine oz_istore_n (q := 41) cx d_Model_chains_40 rfl rfl (by rw [hnL]; decide) (lv2 := [(2, .int 0), (0, .ref (oz_b G + 62)), (1, .int a0)]) rfl ?_
      refine oz_iconst (q := 42) cx d_Model_chains_41 rfl (v := 0) rfl ?_
      refine oz_istore_n (q := 43) cx d_Model_chains_42 rfl rfl (by rw [hnL]; decide) (lv2 := [(3, .int 0), (2, .int 0), (0, .ref (oz_b G + 62)), (1, .int a0)]) rfl ?_
      refine oz_lv [2, 3, 1, 0] rfl ?_
      refine oz_seq (p2 := 83) (lv2 := fun (y12 : Int32 × Int32) => [(2, .int y12.1)]) (st2 := fun y12 => []) (M2 := fun y12 => M5) ?_ (fun y12 => ?_)
      · refine oz_loop (Y := Int32 × Int32) 43 (fun (s6 : Int32 × Int32) => [(0, .ref (oz_b G + 62)), (1, .int a0), (2, .int s6.1), (3, .int s6.2)]) (fun (s6 : Int32 × Int32) => M5) (0, 0) (fun s6 => ?_)
        refine oz_iload_n (q := 44) cx d_Model_chains_43 rfl rfl 3 rfl ?_
        refine oz_iconst (q := 45) cx d_Model_chains_44 rfl (v := 1) rfl ?_
        refine oz_aload_n (q := 46) cx d_Model_chains_45 rfl rfl 0 rfl ?_
        refine oz_get (q := 49) cx 62 1 (by decide) (ci := 8) rfl rfl tin_Model (by decide) rfl rfl tw_787 d_Model_chains_46 rfl ?_
        refine oz_ishl (q := 50) cx d_Model_chains_49 rfl ?_
        refine oz_icmp_ge (q := 53) cx d_Model_chains_50 rfl rfl (fun h11 => ?_) (fun h11 => ?_)
        · exact oz_lv [2] rfl (oz_leaf (fun h => h))
        · refine oz_iload_n (q := 54) cx d_Model_chains_53 rfl rfl 3 rfl ?_
          refine oz_cSip (q := 57) cx [.int s6.2] 1 hRm (by decide) (by decide) (fun _ h => c_Model_sizeOf h) ⟨tw_919, tw_920, tw_9⟩ tw_921 (by decide +kernel) rfl (st := []) rfl (Nat.le_of_ble_eq_true rfl) d_Model_chains_54 rfl (fun v7 hv7 => ?_)
          refine oz_iload_n (q := 58) cx d_Model_chains_57 rfl rfl 1 rfl ?_
          refine oz_icmp_ne (q := 61) cx d_Model_chains_58 rfl rfl (fun h10 => ?_) (fun h10 => ?_)
          · refine oz_iload_n (q := 76) cx d_Model_chains_75 rfl rfl 2 rfl ?_
            refine oz_istore_n (q := 77) cx d_Model_chains_76 rfl rfl (by rw [hnL]; decide) (lv2 := [(2, .int s6.1), (0, .ref (oz_b G + 62)), (1, .int a0), (3, .int s6.2)]) rfl ?_
            refine oz_iinc (q := 80) cx (s6.2 + 1) d_Model_chains_77 rfl 3 rfl rfl (by rw [hnL]; decide) (lv2 := [(3, .int (s6.2 + 1)), (2, .int s6.1), (0, .ref (oz_b G + 62)), (1, .int a0)]) rfl ?_
            refine oz_goto cx d_Model_chains_80 rfl ?_
            exact oz_lv [2, 3, 1, 0] rfl (oz_leaf (fun h => h))
          · refine oz_aload_n (q := 62) cx d_Model_chains_61 rfl rfl 0 rfl ?_
            refine oz_iload_n (q := 63) cx d_Model_chains_62 rfl rfl 3 rfl ?_
            refine oz_cVip (q := 66) cx 62 [.int s6.2] 1 8 hRm (by decide) (by decide) (fun _ h => c_Model_isChain h) ⟨tw_925, tw_927, ts_41, tw_9⟩ tw_928 (by decide +kernel) rfl (by decide) rfl rfl (st := []) rfl (Nat.le_of_ble_eq_true rfl) d_Model_chains_63 rfl (fun v8 hv8 => ?_)
            refine oz_if_eq (q := 69) cx d_Model_chains_66 rfl rfl (fun h9 => ?_) (fun h9 => ?_)
            · refine oz_iload_n (q := 76) cx d_Model_chains_75 rfl rfl 2 rfl ?_
              refine oz_istore_n (q := 77) cx d_Model_chains_76 rfl rfl (by rw [hnL]; decide) (lv2 := [(2, .int s6.1), (0, .ref (oz_b G + 62)), (1, .int a0), (3, .int s6.2)]) rfl ?_
              refine oz_iinc (q := 80) cx (s6.2 + 1) d_Model_chains_77 rfl 3 rfl rfl (by rw [hnL]; decide) (lv2 := [(3, .int (s6.2 + 1)), (2, .int s6.1), (0, .ref (oz_b G + 62)), (1, .int a0)]) rfl ?_
              refine oz_goto cx d_Model_chains_80 rfl ?_
              exact oz_lv [2, 3, 1, 0] rfl (oz_leaf (fun h => h))
            · refine oz_iload_n (q := 70) cx d_Model_chains_69 rfl rfl 2 rfl ?_
              refine oz_iconst (q := 71) cx d_Model_chains_70 rfl (v := 1) rfl ?_
              refine oz_iadd (q := 72) cx d_Model_chains_71 rfl ?_
              refine oz_goto cx d_Model_chains_72 rfl ?_
              refine oz_istore_n (q := 77) cx d_Model_chains_76 rfl rfl (by rw [hnL]; decide) (lv2 := [(2, .int (s6.1 + 1)), (0, .ref (oz_b G + 62)), (1, .int a0), (3, .int s6.2)]) rfl ?_
              refine oz_iinc (q := 80) cx (s6.2 + 1) d_Model_chains_77 rfl 3 rfl rfl (by rw [hnL]; decide) (lv2 := [(3, .int (s6.2 + 1)), (2, .int (s6.1 + 1)), (0, .ref (oz_b G + 62)), (1, .int a0)]) rfl ?_
              refine oz_goto cx d_Model_chains_80 rfl ?_
              exact oz_lv [2, 3, 1, 0] rfl (oz_leaf (fun h => h))
      · refine oz_iload_n (q := 84) cx d_Model_chains_83 rfl rfl 0 rfl ?_
        exact oz_iret cx hR d_Model_chains_84
    · refine oz_iconst (q := 38) cx d_Model_chains_37 rfl (v := 0) rfl ?_
      exact oz_iret cx hR d_Model_chains_38
def y_Model_findRing : MethodName := ⟨"OrderHallModel", "findRing", "(I)Z"⟩
theorem d_Model_findRing_0 : decode prog_10_method_14_code 0 = .ok (.iconst 0, 1) := by decide +kernel
theorem d_Model_findRing_1 : decode prog_10_method_14_code 1 = .ok (.istore_n 2, 1) := by decide +kernel
theorem d_Model_findRing_2 : decode prog_10_method_14_code 2 = .ok (.iload_n 2, 1) := by decide +kernel
theorem d_Model_findRing_3 : decode prog_10_method_14_code 3 = .ok (.aload_n 0, 1) := by decide +kernel
theorem d_Model_findRing_4 : decode prog_10_method_14_code 4 = .ok (.getfield 7, 3) := by decide +kernel
theorem d_Model_findRing_7 : decode prog_10_method_14_code 7 = .ok (.if_icmp .ge 20, 3) := by decide +kernel
theorem d_Model_findRing_10 : decode prog_10_method_14_code 10 = .ok (.aload_n 0, 1) := by decide +kernel
theorem d_Model_findRing_11 : decode prog_10_method_14_code 11 = .ok (.iload_n 2, 1) := by decide +kernel
theorem d_Model_findRing_12 : decode prog_10_method_14_code 12 = .ok (.iload_n 1, 1) := by decide +kernel
theorem d_Model_findRing_13 : decode prog_10_method_14_code 13 = .ok (.invokevirtual 88, 3) := by decide +kernel
theorem d_Model_findRing_16 : decode prog_10_method_14_code 16 = .ok (.ifCond .eq 5, 3) := by decide +kernel
theorem d_Model_findRing_19 : decode prog_10_method_14_code 19 = .ok (.iconst 1, 1) := by decide +kernel
theorem d_Model_findRing_20 : decode prog_10_method_14_code 20 = .ok (.ireturn, 1) := by decide +kernel
theorem d_Model_findRing_21 : decode prog_10_method_14_code 21 = .ok (.iinc 2 1, 3) := by decide +kernel
theorem d_Model_findRing_24 : decode prog_10_method_14_code 24 = .ok (.goto (-22), 3) := by decide +kernel
theorem d_Model_findRing_27 : decode prog_10_method_14_code 27 = .ok (.iconst 0, 1) := by decide +kernel
theorem d_Model_findRing_28 : decode prog_10_method_14_code 28 = .ok (.ireturn, 1) := by decide +kernel
noncomputable def f_Model_findRing (a0 : Int32) (M : oz_M) : Option (Int32 × oz_M) := (oz_lp (fun (s1 : Int32 × oz_M) => (if s1.1 < (s1.2.1 62 1) then (oz_b2 (f_Model_closes s1.1 a0 s1.2) fun v2 M3 => if v2 = 0 then (some (.inl (s1.1 + 1, M3))) else (((oz_z 1).bind fun z => some (z, M3)).bind fun z => some (.inr (.inr z)))) else (some (.inr (.inl (s1.1, s1.2)))) : Option ((Int32 × oz_M) ⊕ ((Int32 × oz_M) ⊕ (Int32 × oz_M))))) (0, M)).bind (oz_el (fun (y6 : Int32 × oz_M) => (oz_z 0).bind fun z => some (z, y6.2)) (fun r7 => some (r7)))
set_option maxRecDepth 20000 in
set_option maxHeartbeats 4000000 in
theorem c_Model_findRing {l : Launch} {D : va_G} {cs : Nat → ClassId} {b : Nat} {a0 : Int32} {M : oz_M} {vz : Int32} {Mz : oz_M} (hF : f_Model_findRing a0 M = some (vz, Mz)) : oz_Met l D cs b y_Model_findRing prog_10_method_14_code 3 (some .boolean) (oz_rm 3) [.ref (b + 62), .int a0] M (some (.int vz)) Mz := by
  refine oz_enter (by decide) (Nat.le_of_ble_eq_true rfl) (fun G cx hR e1 hRm e2 e3 e4 hnL => ?_)
  subst e1; subst e2; subst e3; subst e4
  refine (?_ : oz_R G 0 [(0, .ref (oz_b G + 62)), (1, .int a0)] [] M (f_Model_findRing a0 M) (fun x => x = (vz, Mz))) _ hF rfl
  unfold f_Model_findRing
  refine oz_iconst (q := 1) cx d_Model_findRing_0 rfl (v := 0) rfl ?_
  refine oz_istore_n (q := 2) cx d_Model_findRing_1 rfl rfl (by rw [hnL]; decide) (lv2 := [(2, .int 0), (0, .ref (oz_b G + 62)), (1, .int a0)]) rfl ?_
  refine oz_lv [1, 2, 0] rfl ?_
  refine oz_seqE (p2 := 27) (lv2 := fun (y6 : Int32 × oz_M) => []) (M2 := fun y6 => y6.2) (fun x => x = (vz, Mz)) ?_ (fun y6 => ?_) (fun _ _ hx hK => by cases hx; exact hK)
  · refine oz_loop (Y := (Int32 × oz_M) ⊕ (Int32 × oz_M)) 2 (fun (s1 : Int32 × oz_M) => [(0, .ref (oz_b G + 62)), (1, .int a0), (2, .int s1.1)]) (fun (s1 : Int32 × oz_M) => s1.2) (0, M) (fun s1 => ?_)
    refine oz_iload_n (q := 3) cx d_Model_findRing_2 rfl rfl 2 rfl ?_
    refine oz_aload_n (q := 4) cx d_Model_findRing_3 rfl rfl 0 rfl ?_
    refine oz_get (q := 7) cx 62 1 (by decide) (ci := 8) rfl rfl tin_Model (by decide) rfl rfl tw_787 d_Model_findRing_4 rfl ?_
    refine oz_icmp_ge (q := 10) cx d_Model_findRing_7 rfl rfl (fun h5 => ?_) (fun h5 => ?_)
    · exact oz_lv [] rfl (oz_leaf (fun h => h))
    · refine oz_aload_n (q := 11) cx d_Model_findRing_10 rfl rfl 0 rfl ?_
      refine oz_iload_n (q := 12) cx d_Model_findRing_11 rfl rfl 2 rfl ?_
      refine oz_iload_n (q := 13) cx d_Model_findRing_12 rfl rfl 1 rfl ?_
      refine oz_cVi (q := 16) cx 62 [.int s1.1, .int a0] 2 8 hRm (by decide) (by decide) (fun _ _ h => c_Model_closes h) ⟨tw_879, tw_881, ts_35, tw_9⟩ tw_882 (by decide +kernel) rfl (by decide) rfl rfl (st := []) rfl (Nat.le_of_ble_eq_true rfl) d_Model_findRing_13 rfl (fun v2 M3 hv2 => ?_)
      refine oz_if_eq (q := 19) cx d_Model_findRing_16 rfl rfl (fun h4 => ?_) (fun h4 => ?_)
      · refine oz_iinc (q := 24) cx (s1.1 + 1) d_Model_findRing_21 rfl 2 rfl rfl (by rw [hnL]; decide) (lv2 := [(2, .int (s1.1 + 1)), (0, .ref (oz_b G + 62)), (1, .int a0)]) rfl ?_
        refine oz_goto cx d_Model_findRing_24 rfl ?_
        exact oz_lv [1, 2, 0] rfl (oz_leaf (fun h => h))
      · refine oz_iconst (q := 20) cx d_Model_findRing_19 rfl (v := 1) rfl ?_
        exact oz_wrapz (oz_zret cx hR d_Model_findRing_20) (fun _ h => h)
  · refine oz_iconst (q := 28) cx d_Model_findRing_27 rfl (v := 0) rfl ?_
    exact oz_zret cx hR d_Model_findRing_28
def y_Model_know : MethodName := ⟨"OrderHallModel", "know", "()V"⟩
theorem d_Model_know_0 : decode prog_10_method_24_code 0 = .ok (.aload_n 0, 1) := by decide +kernel
theorem d_Model_know_1 : decode prog_10_method_24_code 1 = .ok (.getfield 60, 3) := by decide +kernel
theorem d_Model_know_4 : decode prog_10_method_24_code 4 = .ok (.ifCond .eq 4, 3) := by decide +kernel
theorem d_Model_know_7 : decode prog_10_method_24_code 7 = .ok (.return_, 1) := by decide +kernel
theorem d_Model_know_8 : decode prog_10_method_24_code 8 = .ok (.iconst 1, 1) := by decide +kernel
theorem d_Model_know_9 : decode prog_10_method_24_code 9 = .ok (.aload_n 0, 1) := by decide +kernel
theorem d_Model_know_10 : decode prog_10_method_24_code 10 = .ok (.getfield 7, 3) := by decide +kernel
theorem d_Model_know_13 : decode prog_10_method_24_code 13 = .ok (.ishl, 1) := by decide +kernel
theorem d_Model_know_14 : decode prog_10_method_24_code 14 = .ok (.istore_n 1, 1) := by decide +kernel
theorem d_Model_know_15 : decode prog_10_method_24_code 15 = .ok (.iconst 0, 1) := by decide +kernel
theorem d_Model_know_16 : decode prog_10_method_24_code 16 = .ok (.istore_n 2, 1) := by decide +kernel
theorem d_Model_know_17 : decode prog_10_method_24_code 17 = .ok (.iload_n 2, 1) := by decide +kernel
theorem d_Model_know_18 : decode prog_10_method_24_code 18 = .ok (.iload_n 1, 1) := by decide +kernel
theorem d_Model_know_19 : decode prog_10_method_24_code 19 = .ok (.if_icmp .ge 151, 3) := by decide +kernel
theorem d_Model_know_22 : decode prog_10_method_24_code 22 = .ok (.iload_n 2, 1) := by decide +kernel
theorem d_Model_know_23 : decode prog_10_method_24_code 23 = .ok (.invokestatic 103, 3) := by decide +kernel
theorem d_Model_know_26 : decode prog_10_method_24_code 26 = .ok (.istore_n 3, 1) := by decide +kernel
theorem d_Model_know_27 : decode prog_10_method_24_code 27 = .ok (.aload_n 0, 1) := by decide +kernel
theorem d_Model_know_28 : decode prog_10_method_24_code 28 = .ok (.iload_n 2, 1) := by decide +kernel
theorem d_Model_know_29 : decode prog_10_method_24_code 29 = .ok (.invokevirtual 106, 3) := by decide +kernel
theorem d_Model_know_32 : decode prog_10_method_24_code 32 = .ok (.ifCond .eq 7, 3) := by decide +kernel
theorem d_Model_know_35 : decode prog_10_method_24_code 35 = .ok (.iload_n 3, 1) := by decide +kernel
theorem d_Model_know_36 : decode prog_10_method_24_code 36 = .ok (.goto 4, 3) := by decide +kernel
theorem d_Model_know_39 : decode prog_10_method_24_code 39 = .ok (.iconst 0, 1) := by decide +kernel
theorem d_Model_know_40 : decode prog_10_method_24_code 40 = .ok (.istore 4, 2) := by decide +kernel
theorem d_Model_know_42 : decode prog_10_method_24_code 42 = .ok (.aload_n 0, 1) := by decide +kernel
theorem d_Model_know_43 : decode prog_10_method_24_code 43 = .ok (.iload_n 2, 1) := by decide +kernel
theorem d_Model_know_44 : decode prog_10_method_24_code 44 = .ok (.invokevirtual 109, 3) := by decide +kernel
theorem d_Model_know_47 : decode prog_10_method_24_code 47 = .ok (.ifCond .eq 7, 3) := by decide +kernel
theorem d_Model_know_50 : decode prog_10_method_24_code 50 = .ok (.iload_n 3, 1) := by decide +kernel
theorem d_Model_know_51 : decode prog_10_method_24_code 51 = .ok (.goto 4, 3) := by decide +kernel
theorem d_Model_know_54 : decode prog_10_method_24_code 54 = .ok (.iconst 0, 1) := by decide +kernel
theorem d_Model_know_55 : decode prog_10_method_24_code 55 = .ok (.istore 5, 2) := by decide +kernel
theorem d_Model_know_57 : decode prog_10_method_24_code 57 = .ok (.iconst 0, 1) := by decide +kernel
theorem d_Model_know_58 : decode prog_10_method_24_code 58 = .ok (.istore 6, 2) := by decide +kernel
theorem d_Model_know_60 : decode prog_10_method_24_code 60 = .ok (.iload 6, 2) := by decide +kernel
theorem d_Model_know_62 : decode prog_10_method_24_code 62 = .ok (.aload_n 0, 1) := by decide +kernel
theorem d_Model_know_63 : decode prog_10_method_24_code 63 = .ok (.getfield 7, 3) := by decide +kernel
theorem d_Model_know_66 : decode prog_10_method_24_code 66 = .ok (.if_icmp .ge 80, 3) := by decide +kernel
theorem d_Model_know_69 : decode prog_10_method_24_code 69 = .ok (.iload_n 2, 1) := by decide +kernel
theorem d_Model_know_70 : decode prog_10_method_24_code 70 = .ok (.iload 6, 2) := by decide +kernel
theorem d_Model_know_72 : decode prog_10_method_24_code 72 = .ok (.invokestatic 100, 3) := by decide +kernel
theorem d_Model_know_75 : decode prog_10_method_24_code 75 = .ok (.ifCond .eq 65, 3) := by decide +kernel
theorem d_Model_know_78 : decode prog_10_method_24_code 78 = .ok (.iload_n 2, 1) := by decide +kernel
theorem d_Model_know_79 : decode prog_10_method_24_code 79 = .ok (.iconst 1, 1) := by decide +kernel
theorem d_Model_know_80 : decode prog_10_method_24_code 80 = .ok (.iload 6, 2) := by decide +kernel
theorem d_Model_know_82 : decode prog_10_method_24_code 82 = .ok (.ishl, 1) := by decide +kernel
theorem d_Model_know_83 : decode prog_10_method_24_code 83 = .ok (.iconst (-1), 1) := by decide +kernel
theorem d_Model_know_84 : decode prog_10_method_24_code 84 = .ok (.ixor, 1) := by decide +kernel
theorem d_Model_know_85 : decode prog_10_method_24_code 85 = .ok (.iand, 1) := by decide +kernel
theorem d_Model_know_86 : decode prog_10_method_24_code 86 = .ok (.istore 7, 2) := by decide +kernel
theorem d_Model_know_88 : decode prog_10_method_24_code 88 = .ok (.aload_n 0, 1) := by decide +kernel
theorem d_Model_know_89 : decode prog_10_method_24_code 89 = .ok (.getfield 24, 3) := by decide +kernel
theorem d_Model_know_92 : decode prog_10_method_24_code 92 = .ok (.iload 7, 2) := by decide +kernel
theorem d_Model_know_94 : decode prog_10_method_24_code 94 = .ok (.baload, 1) := by decide +kernel
theorem d_Model_know_95 : decode prog_10_method_24_code 95 = .ok (.iload 4, 2) := by decide +kernel
theorem d_Model_know_97 : decode prog_10_method_24_code 97 = .ok (.if_icmp .le 13, 3) := by decide +kernel
theorem d_Model_know_100 : decode prog_10_method_24_code 100 = .ok (.aload_n 0, 1) := by decide +kernel
theorem d_Model_know_101 : decode prog_10_method_24_code 101 = .ok (.getfield 24, 3) := by decide +kernel
theorem d_Model_know_104 : decode prog_10_method_24_code 104 = .ok (.iload 7, 2) := by decide +kernel
theorem d_Model_know_106 : decode prog_10_method_24_code 106 = .ok (.baload, 1) := by decide +kernel
theorem d_Model_know_107 : decode prog_10_method_24_code 107 = .ok (.goto 5, 3) := by decide +kernel
theorem d_Model_know_110 : decode prog_10_method_24_code 110 = .ok (.iload 4, 2) := by decide +kernel
theorem d_Model_know_112 : decode prog_10_method_24_code 112 = .ok (.istore 4, 2) := by decide +kernel
theorem d_Model_know_114 : decode prog_10_method_24_code 114 = .ok (.aload_n 0, 1) := by decide +kernel
theorem d_Model_know_115 : decode prog_10_method_24_code 115 = .ok (.getfield 28, 3) := by decide +kernel
theorem d_Model_know_118 : decode prog_10_method_24_code 118 = .ok (.iload 7, 2) := by decide +kernel
theorem d_Model_know_120 : decode prog_10_method_24_code 120 = .ok (.baload, 1) := by decide +kernel
theorem d_Model_know_121 : decode prog_10_method_24_code 121 = .ok (.iload 5, 2) := by decide +kernel
theorem d_Model_know_123 : decode prog_10_method_24_code 123 = .ok (.if_icmp .le 13, 3) := by decide +kernel
theorem d_Model_know_126 : decode prog_10_method_24_code 126 = .ok (.aload_n 0, 1) := by decide +kernel
theorem d_Model_know_127 : decode prog_10_method_24_code 127 = .ok (.getfield 28, 3) := by decide +kernel
theorem d_Model_know_130 : decode prog_10_method_24_code 130 = .ok (.iload 7, 2) := by decide +kernel
theorem d_Model_know_132 : decode prog_10_method_24_code 132 = .ok (.baload, 1) := by decide +kernel
theorem d_Model_know_133 : decode prog_10_method_24_code 133 = .ok (.goto 5, 3) := by decide +kernel
theorem d_Model_know_136 : decode prog_10_method_24_code 136 = .ok (.iload 5, 2) := by decide +kernel
theorem d_Model_know_138 : decode prog_10_method_24_code 138 = .ok (.istore 5, 2) := by decide +kernel
theorem d_Model_know_140 : decode prog_10_method_24_code 140 = .ok (.iinc 6 1, 3) := by decide +kernel
theorem d_Model_know_143 : decode prog_10_method_24_code 143 = .ok (.goto (-83), 3) := by decide +kernel
theorem d_Model_know_146 : decode prog_10_method_24_code 146 = .ok (.aload_n 0, 1) := by decide +kernel
theorem d_Model_know_147 : decode prog_10_method_24_code 147 = .ok (.getfield 24, 3) := by decide +kernel
theorem d_Model_know_150 : decode prog_10_method_24_code 150 = .ok (.iload_n 2, 1) := by decide +kernel
theorem d_Model_know_151 : decode prog_10_method_24_code 151 = .ok (.iload 4, 2) := by decide +kernel
theorem d_Model_know_153 : decode prog_10_method_24_code 153 = .ok (.i2b, 1) := by decide +kernel
theorem d_Model_know_154 : decode prog_10_method_24_code 154 = .ok (.bastore, 1) := by decide +kernel
theorem d_Model_know_155 : decode prog_10_method_24_code 155 = .ok (.aload_n 0, 1) := by decide +kernel
theorem d_Model_know_156 : decode prog_10_method_24_code 156 = .ok (.getfield 28, 3) := by decide +kernel
theorem d_Model_know_159 : decode prog_10_method_24_code 159 = .ok (.iload_n 2, 1) := by decide +kernel
theorem d_Model_know_160 : decode prog_10_method_24_code 160 = .ok (.iload 5, 2) := by decide +kernel
theorem d_Model_know_162 : decode prog_10_method_24_code 162 = .ok (.i2b, 1) := by decide +kernel
theorem d_Model_know_163 : decode prog_10_method_24_code 163 = .ok (.bastore, 1) := by decide +kernel
theorem d_Model_know_164 : decode prog_10_method_24_code 164 = .ok (.iinc 2 1, 3) := by decide +kernel
theorem d_Model_know_167 : decode prog_10_method_24_code 167 = .ok (.goto (-150), 3) := by decide +kernel
theorem d_Model_know_170 : decode prog_10_method_24_code 170 = .ok (.iload_n 1, 1) := by decide +kernel
theorem d_Model_know_171 : decode prog_10_method_24_code 171 = .ok (.iconst 1, 1) := by decide +kernel
theorem d_Model_know_172 : decode prog_10_method_24_code 172 = .ok (.isub, 1) := by decide +kernel
theorem d_Model_know_173 : decode prog_10_method_24_code 173 = .ok (.istore_n 2, 1) := by decide +kernel
theorem d_Model_know_174 : decode prog_10_method_24_code 174 = .ok (.iload_n 2, 1) := by decide +kernel
theorem d_Model_know_175 : decode prog_10_method_24_code 175 = .ok (.ifCond .lt 75, 3) := by decide +kernel
theorem d_Model_know_178 : decode prog_10_method_24_code 178 = .ok (.iload_n 2, 1) := by decide +kernel
theorem d_Model_know_179 : decode prog_10_method_24_code 179 = .ok (.iload_n 1, 1) := by decide +kernel
theorem d_Model_know_180 : decode prog_10_method_24_code 180 = .ok (.iconst 1, 1) := by decide +kernel
theorem d_Model_know_181 : decode prog_10_method_24_code 181 = .ok (.isub, 1) := by decide +kernel
theorem d_Model_know_182 : decode prog_10_method_24_code 182 = .ok (.if_icmp .ne 7, 3) := by decide +kernel
theorem d_Model_know_185 : decode prog_10_method_24_code 185 = .ok (.lconst 1, 1) := by decide +kernel
theorem d_Model_know_186 : decode prog_10_method_24_code 186 = .ok (.goto 4, 3) := by decide +kernel
theorem d_Model_know_189 : decode prog_10_method_24_code 189 = .ok (.lconst 0, 1) := by decide +kernel
theorem d_Model_know_190 : decode prog_10_method_24_code 190 = .ok (.lstore_n 3, 1) := by decide +kernel
theorem d_Model_know_191 : decode prog_10_method_24_code 191 = .ok (.iconst 0, 1) := by decide +kernel
theorem d_Model_know_192 : decode prog_10_method_24_code 192 = .ok (.istore 5, 2) := by decide +kernel
theorem d_Model_know_194 : decode prog_10_method_24_code 194 = .ok (.iload 5, 2) := by decide +kernel
theorem d_Model_know_196 : decode prog_10_method_24_code 196 = .ok (.aload_n 0, 1) := by decide +kernel
theorem d_Model_know_197 : decode prog_10_method_24_code 197 = .ok (.getfield 7, 3) := by decide +kernel
theorem d_Model_know_200 : decode prog_10_method_24_code 200 = .ok (.if_icmp .ge 37, 3) := by decide +kernel
theorem d_Model_know_203 : decode prog_10_method_24_code 203 = .ok (.aload_n 0, 1) := by decide +kernel
theorem d_Model_know_204 : decode prog_10_method_24_code 204 = .ok (.iload 5, 2) := by decide +kernel
theorem d_Model_know_206 : decode prog_10_method_24_code 206 = .ok (.iload_n 2, 1) := by decide +kernel
theorem d_Model_know_207 : decode prog_10_method_24_code 207 = .ok (.invokevirtual 112, 3) := by decide +kernel
theorem d_Model_know_210 : decode prog_10_method_24_code 210 = .ok (.ifCond .eq 19, 3) := by decide +kernel
theorem d_Model_know_213 : decode prog_10_method_24_code 213 = .ok (.lload_n 3, 1) := by decide +kernel
theorem d_Model_know_214 : decode prog_10_method_24_code 214 = .ok (.aload_n 0, 1) := by decide +kernel
theorem d_Model_know_215 : decode prog_10_method_24_code 215 = .ok (.getfield 31, 3) := by decide +kernel
theorem d_Model_know_218 : decode prog_10_method_24_code 218 = .ok (.iload_n 2, 1) := by decide +kernel
theorem d_Model_know_219 : decode prog_10_method_24_code 219 = .ok (.iconst 1, 1) := by decide +kernel
theorem d_Model_know_220 : decode prog_10_method_24_code 220 = .ok (.iload 5, 2) := by decide +kernel
theorem d_Model_know_222 : decode prog_10_method_24_code 222 = .ok (.ishl, 1) := by decide +kernel
theorem d_Model_know_223 : decode prog_10_method_24_code 223 = .ok (.ior, 1) := by decide +kernel
theorem d_Model_know_224 : decode prog_10_method_24_code 224 = .ok (.laload, 1) := by decide +kernel
theorem d_Model_know_225 : decode prog_10_method_24_code 225 = .ok (.ladd, 1) := by decide +kernel
theorem d_Model_know_226 : decode prog_10_method_24_code 226 = .ok (.goto 4, 3) := by decide +kernel
theorem d_Model_know_229 : decode prog_10_method_24_code 229 = .ok (.lload_n 3, 1) := by decide +kernel
theorem d_Model_know_230 : decode prog_10_method_24_code 230 = .ok (.lstore_n 3, 1) := by decide +kernel
theorem d_Model_know_231 : decode prog_10_method_24_code 231 = .ok (.iinc 5 1, 3) := by decide +kernel
theorem d_Model_know_234 : decode prog_10_method_24_code 234 = .ok (.goto (-40), 3) := by decide +kernel
theorem d_Model_know_237 : decode prog_10_method_24_code 237 = .ok (.aload_n 0, 1) := by decide +kernel
theorem d_Model_know_238 : decode prog_10_method_24_code 238 = .ok (.getfield 31, 3) := by decide +kernel
theorem d_Model_know_241 : decode prog_10_method_24_code 241 = .ok (.iload_n 2, 1) := by decide +kernel
theorem d_Model_know_242 : decode prog_10_method_24_code 242 = .ok (.lload_n 3, 1) := by decide +kernel
theorem d_Model_know_243 : decode prog_10_method_24_code 243 = .ok (.lastore, 1) := by decide +kernel
theorem d_Model_know_244 : decode prog_10_method_24_code 244 = .ok (.iinc 2 (-1), 3) := by decide +kernel
theorem d_Model_know_247 : decode prog_10_method_24_code 247 = .ok (.goto (-73), 3) := by decide +kernel
theorem d_Model_know_250 : decode prog_10_method_24_code 250 = .ok (.aload_n 0, 1) := by decide +kernel
theorem d_Model_know_251 : decode prog_10_method_24_code 251 = .ok (.iconst 1, 1) := by decide +kernel
theorem d_Model_know_252 : decode prog_10_method_24_code 252 = .ok (.putfield 60, 3) := by decide +kernel
theorem d_Model_know_255 : decode prog_10_method_24_code 255 = .ok (.return_, 1) := by decide +kernel
noncomputable def f_Model_know (M : oz_M) : Option (Unit × oz_M) := if (M.1 62 10) = 0 then ((oz_lp (fun (s1 : Int32 × oz_M) => (if s1.1 < (1 <<< ((M.1 62 1) &&& 31)) then ((f_Model_sizeOf s1.1 s1.2).bind fun v2 => (f_Model_isChain s1.1 s1.2).bind fun v3 => (if v3 = 0 then (some 0) else (some v2)).bind fun (z4 : Int32) => (f_Model_isAntichain s1.1 s1.2).bind fun v6 => (if v6 = 0 then (some 0) else (some v2)).bind fun (z7 : Int32) => (oz_lp (fun (s9 : Int32 × Int32 × Int32) => (if s9.2.2 < (s1.2.1 62 1) then ((f_Model_has s1.1 s9.2.2 s1.2).bind fun v10 => if v10 = 0 then (some (.inl (s9.1, s9.2.1, s9.2.2 + 1))) else ((oz_in (s1.1 &&& ((1 <<< (s9.2.2 &&& 31)) ^^^ (-1))) 16384).bind fun j11 => (if s9.1 < (s1.2.1 66 j11) then ((oz_in (s1.1 &&& ((1 <<< (s9.2.2 &&& 31)) ^^^ (-1))) 16384).bind fun j13 => some (s1.2.1 66 j13)) else (some s9.1)).bind fun (z12 : Int32) => (oz_in (s1.1 &&& ((1 <<< (s9.2.2 &&& 31)) ^^^ (-1))) 16384).bind fun j15 => if s9.2.1 < (s1.2.1 67 j15) then ((oz_in (s1.1 &&& ((1 <<< (s9.2.2 &&& 31)) ^^^ (-1))) 16384).bind fun j16 => some (.inl (z12, s1.2.1 67 j16, s9.2.2 + 1))) else (some (.inl (z12, s9.2.1, s9.2.2 + 1))))) else (some (.inr (s9.1, s9.2.1, s9.2.2))) : Option ((Int32 × Int32 × Int32) ⊕ (Int32 × Int32 × Int32)))) (z4, z7, 0)).bind fun (y20 : Int32 × Int32 × Int32) => (oz_in s1.1 16384).bind fun j21 => (some (oz_s s1.2 66 j21 (vp_nar .byte y20.1.toInt8.toInt32))).bind fun M22 => (oz_in s1.1 16384).bind fun j23 => (some (oz_s M22 67 j23 (vp_nar .byte y20.2.1.toInt8.toInt32))).bind fun M24 => some (.inl (s1.1 + 1, M24))) else (some (.inr (s1.1, s1.2))) : Option ((Int32 × oz_M) ⊕ (Int32 × oz_M)))) (0, M)).bind fun (y26 : Int32 × oz_M) => (oz_lp (fun (s27 : Int32 × oz_M) => (if s27.1 < 0 then (some (.inr (s27.1, s27.2))) else ((if s27.1 = ((1 <<< ((M.1 62 1) &&& 31)) - 1) then (some 1) else (some 0)).bind fun (z28 : Int64) => (oz_lp (fun (s30 : Int64 × Int32) => (if s30.2 < (s27.2.1 62 1) then ((f_Model_mayCome s30.2 s27.1 s27.2).bind fun v31 => if v31 = 0 then (some (.inl (s30.1, s30.2 + 1))) else ((oz_in (s27.1 ||| (1 <<< (s30.2 &&& 31))) 16384).bind fun j32 => some (.inl (s30.1 + (s27.2.2 68 j32), s30.2 + 1)))) else (some (.inr (s30.1, s30.2))) : Option ((Int64 × Int32) ⊕ (Int64 × Int32)))) (z28, 0)).bind fun (y35 : Int64 × Int32) => (oz_in s27.1 16384).bind fun j36 => (some (oz_l s27.2 68 j36 y35.1)).bind fun M37 => some (.inl (s27.1 + (-1), M37))) : Option ((Int32 × oz_M) ⊕ (Int32 × oz_M)))) ((1 <<< ((M.1 62 1) &&& 31)) - 1, y26.2)).bind fun (y39 : Int32 × oz_M) => (some (oz_s y39.2 62 10 1)).bind fun M40 => some ((), M40)) else (some ((), M))
set_option maxRecDepth 20000 in
set_option maxHeartbeats 4000000 in
theorem c_Model_know {l : Launch} {D : va_G} {cs : Nat → ClassId} {b : Nat} {M : oz_M} {vz : Unit} {Mz : oz_M} (hF : f_Model_know M = some (vz, Mz)) : oz_Met l D cs b y_Model_know prog_10_method_24_code 8 none (oz_rm 3) [.ref (b + 62)] M (none) Mz := by
  refine oz_enter (by decide) (Nat.le_of_ble_eq_true rfl) (fun G cx hR e1 hRm e2 e3 e4 hnL => ?_)
  subst e1; subst e2; subst e3; subst e4
  refine (?_ : oz_R G 0 [(0, .ref (oz_b G + 62))] [] M (f_Model_know  M) (fun x => x = (vz, Mz))) _ hF rfl
  unfold f_Model_know
  refine oz_aload_n (q := 1) cx d_Model_know_0 rfl rfl 0 rfl ?_
  refine oz_get (q := 4) cx 62 10 (by decide) (ci := 8) rfl rfl tin_Model (by decide) rfl rfl tw_796 d_Model_know_1 rfl ?_
  refine oz_if_eq (q := 7) cx d_Model_know_4 rfl rfl (fun h41 => ?_) (fun h41 => ?_)
  · refine oz_iconst (q := 9) cx d_Model_know_8 rfl (v := 1) rfl ?_
    refine oz_aload_n (q := 10) cx d_Model_know_9 rfl rfl 0 rfl ?_
    refine oz_get (q := 13) cx 62 1 (by decide) (ci := 8) rfl rfl tin_Model (by decide) rfl rfl tw_787 d_Model_know_10 rfl ?_
    refine oz_ishl (q := 14) cx d_Model_know_13 rfl ?_
    refine oz_istore_n (q := 15) cx d_Model_know_14 rfl rfl (by rw [hnL]; decide) (lv2 := [(1, .int (1 <<< ((M.1 62 1) &&& 31))), (0, .ref (oz_b G + 62))]) rfl ?_
    refine oz_iconst (q := 16) cx d_Model_know_15 rfl (v := 0) rfl ?_
    refine oz_istore_n (q := 17) cx d_Model_know_16 rfl rfl (by rw [hnL]; decide) (lv2 := [(2, .int 0), (1, .int (1 <<< ((M.1 62 1) &&& 31))), (0, .ref (oz_b G + 62))]) rfl ?_
    refine oz_lv [2, 1, 0] rfl ?_
    refine oz_seq (p2 := 170) (lv2 := fun (y26 : Int32 × oz_M) => [(0, .ref (oz_b G + 62)), (1, .int (1 <<< ((M.1 62 1) &&& 31)))]) (st2 := fun y26 => []) (M2 := fun y26 => y26.2) ?_ (fun y26 => ?_)
    · refine oz_loop (Y := Int32 × oz_M) 17 (fun (s1 : Int32 × oz_M) => [(0, .ref (oz_b G + 62)), (1, .int (1 <<< ((M.1 62 1) &&& 31))), (2, .int s1.1)]) (fun (s1 : Int32 × oz_M) => s1.2) (0, M) (fun s1 => ?_)
      refine oz_iload_n (q := 18) cx d_Model_know_17 rfl rfl 2 rfl ?_
      refine oz_iload_n (q := 19) cx d_Model_know_18 rfl rfl 1 rfl ?_
      refine oz_icmp_ge (q := 22) cx d_Model_know_19 rfl rfl (fun h25 => ?_) (fun h25 => ?_)
      · exact oz_lv [0, 1] rfl (oz_leaf (fun h => h))
      · refine oz_iload_n (q := 23) cx d_Model_know_22 rfl rfl 2 rfl ?_
        refine oz_cSip (q := 26) cx [.int s1.1] 1 hRm (by decide) (by decide) (fun _ h => c_Model_sizeOf h) ⟨tw_919, tw_920, tw_9⟩ tw_921 (by decide +kernel) rfl (st := []) rfl (Nat.le_of_ble_eq_true rfl) d_Model_know_23 rfl (fun v2 hv2 => ?_)
        refine oz_istore_n (q := 27) cx d_Model_know_26 rfl rfl (by rw [hnL]; decide) (lv2 := [(3, .int v2), (0, .ref (oz_b G + 62)), (1, .int (1 <<< ((M.1 62 1) &&& 31))), (2, .int s1.1)]) rfl ?_
        refine oz_aload_n (q := 28) cx d_Model_know_27 rfl rfl 1 rfl ?_
        refine oz_iload_n (q := 29) cx d_Model_know_28 rfl rfl 3 rfl ?_
        refine oz_cVip (q := 32) cx 62 [.int s1.1] 1 8 hRm (by decide) (by decide) (fun _ h => c_Model_isChain h) ⟨tw_925, tw_927, ts_41, tw_9⟩ tw_928 (by decide +kernel) rfl (by decide) rfl rfl (st := []) rfl (Nat.le_of_ble_eq_true rfl) d_Model_know_29 rfl (fun v3 hv3 => ?_)
        refine oz_seq (p2 := 40) (lv2 := fun (z4 : Int32) => [(0, .ref (oz_b G + 62)), (1, .int (1 <<< ((M.1 62 1) &&& 31))), (2, .int s1.1), (3, .int v2)]) (st2 := fun z4 => [.int z4]) (M2 := fun z4 => s1.2) ?_ (fun z4 => ?_)
        · refine oz_if_eq (q := 35) cx d_Model_know_32 rfl rfl (fun h5 => ?_) (fun h5 => ?_)
          · refine oz_iconst (q := 40) cx d_Model_know_39 rfl (v := 0) rfl ?_
            exact oz_lv [1, 2, 3, 0] rfl (oz_leaf (fun h => h))
          · refine oz_iload_n (q := 36) cx d_Model_know_35 rfl rfl 0 rfl ?_
            refine oz_goto cx d_Model_know_36 rfl ?_
            exact oz_lv [1, 2, 3, 0] rfl (oz_leaf (fun h => h))
        · refine oz_istore (q := 42) cx d_Model_know_40 rfl (by rw [hnL]; decide) (lv2 := [(4, .int z4), (0, .ref (oz_b G + 62)), (1, .int (1 <<< ((M.1 62 1) &&& 31))), (2, .int s1.1), (3, .int v2)]) rfl ?_
          refine oz_aload_n (q := 43) cx d_Model_know_42 rfl rfl 1 rfl ?_
          refine oz_iload_n (q := 44) cx d_Model_know_43 rfl rfl 3 rfl ?_
          refine oz_cVip (q := 47) cx 62 [.int s1.1] 1 8 hRm (by decide) (by decide) (fun _ h => c_Model_isAntichain h) ⟨tw_929, tw_931, ts_42, tw_9⟩ tw_932 (by decide +kernel) rfl (by decide) rfl rfl (st := []) rfl (Nat.le_of_ble_eq_true rfl) d_Model_know_44 rfl (fun v6 hv6 => ?_)
          refine oz_seq (p2 := 55) (lv2 := fun (z7 : Int32) => [(0, .ref (oz_b G + 62)), (1, .int (1 <<< ((M.1 62 1) &&& 31))), (2, .int s1.1), (4, .int z4)]) (st2 := fun z7 => [.int z7]) (M2 := fun z7 => s1.2) ?_ (fun z7 => ?_)
          · refine oz_if_eq (q := 50) cx d_Model_know_47 rfl rfl (fun h8 => ?_) (fun h8 => ?_)
            · refine oz_iconst (q := 55) cx d_Model_know_54 rfl (v := 0) rfl ?_
              exact oz_lv [1, 2, 3, 0] rfl (oz_leaf (fun h => h))
            · refine oz_iload_n (q := 51) cx d_Model_know_50 rfl rfl 4 rfl ?_
              refine oz_goto cx d_Model_know_51 rfl ?_
              exact oz_lv [1, 2, 3, 0] rfl (oz_leaf (fun h => h))
          · refine oz_istore (q := 57) cx d_Model_know_55 rfl (by rw [hnL]; decide) (lv2 := [(5, .int z7), (0, .ref (oz_b G + 62)), (1, .int (1 <<< ((M.1 62 1) &&& 31))), (2, .int s1.1), (4, .int z4)]) rfl ?_
            refine oz_iconst (q := 58) cx d_Model_know_57 rfl (v := 0) rfl ?_
            refine oz_istore (q := 60) cx d_Model_know_58 rfl (by rw [hnL]; decide) (lv2 := [(6, .int 0), (5, .int z7), (0, .ref (oz_b G + 62)), (1, .int (1 <<< ((M.1 62 1) &&& 31))), (2, .int s1.1), (4, .int z4)]) rfl ?_
            refine oz_lv [2, 3, 4, 5, 1, 0] rfl ?_
            refine oz_seq (p2 := 146) (lv2 := fun (y20 : Int32 × Int32 × Int32) => [(0, .ref (oz_b G + 62)), (1, .int (1 <<< ((M.1 62 1) &&& 31))), (2, .int s1.1), (4, .int y20.1), (5, .int y20.2.1)]) (st2 := fun y20 => []) (M2 := fun y20 => s1.2) ?_ (fun y20 => ?_)
            · refine oz_loop (Y := Int32 × Int32 × Int32) 60 (fun (s9 : Int32 × Int32 × Int32) => [(0, .ref (oz_b G + 62)), (1, .int (1 <<< ((M.1 62 1) &&& 31))), (2, .int s1.1), (4, .int s9.1), (5, .int s9.2.1), (6, .int s9.2.2)]) (fun (s9 : Int32 × Int32 × Int32) => s1.2) (z4, z7, 0) (fun s9 => ?_)
              refine oz_iload (q := 62) cx d_Model_know_60 rfl 5 rfl ?_
              refine oz_aload_n (q := 63) cx d_Model_know_62 rfl rfl 0 rfl ?_
              refine oz_get (q := 66) cx 62 1 (by decide) (ci := 8) rfl rfl tin_Model (by decide) rfl rfl tw_787 d_Model_know_63 rfl ?_
              refine oz_icmp_ge (q := 69) cx d_Model_know_66 rfl rfl (fun h19 => ?_) (fun h19 => ?_)
              · exact oz_lv [0, 1, 2, 3, 4] rfl (oz_leaf (fun h => h))
              · refine oz_iload_n (q := 70) cx d_Model_know_69 rfl rfl 2 rfl ?_
                refine oz_iload (q := 72) cx d_Model_know_70 rfl 5 rfl ?_
                refine oz_cSip (q := 75) cx [.int s1.1, .int s9.2.2] 2 hRm (by decide) (by decide) (fun _ h => c_Model_has h) ⟨tw_922, tw_923, tw_9⟩ tw_924 (by decide +kernel) rfl (st := []) rfl (Nat.le_of_ble_eq_true rfl) d_Model_know_72 rfl (fun v10 hv10 => ?_)
                refine oz_if_eq (q := 78) cx d_Model_know_75 rfl rfl (fun h18 => ?_) (fun h18 => ?_)
                · refine oz_iinc (q := 143) cx (s9.2.2 + 1) d_Model_know_140 rfl 5 rfl rfl (by rw [hnL]; decide) (lv2 := [(6, .int (s9.2.2 + 1)), (0, .ref (oz_b G + 62)), (1, .int (1 <<< ((M.1 62 1) &&& 31))), (2, .int s1.1), (4, .int s9.1), (5, .int s9.2.1)]) rfl ?_
                  refine oz_goto cx d_Model_know_143 rfl ?_
                  exact oz_lv [1, 2, 3, 4, 5, 0] rfl (oz_leaf (fun h => h))
                · refine oz_iload_n (q := 79) cx d_Model_know_78 rfl rfl 2 rfl ?_
                  refine oz_iconst (q := 80) cx d_Model_know_79 rfl (v := 1) rfl ?_
                  refine oz_iload (q := 82) cx d_Model_know_80 rfl 5 rfl ?_
                  refine oz_ishl (q := 83) cx d_Model_know_82 rfl ?_
                  refine oz_iconst (q := 84) cx d_Model_know_83 rfl (v := (-1)) rfl ?_
                  refine oz_ixor (q := 85) cx d_Model_know_84 rfl ?_
                  refine oz_iand (q := 86) cx d_Model_know_85 rfl ?_
                  refine oz_istore (q := 88) cx d_Model_know_86 rfl (by rw [hnL]; decide) (lv2 := [(7, .int (s1.1 &&& ((1 <<< (s9.2.2 &&& 31)) ^^^ (-1)))), (0, .ref (oz_b G + 62)), (1, .int (1 <<< ((M.1 62 1) &&& 31))), (2, .int s1.1), (4, .int s9.1), (5, .int s9.2.1), (6, .int s9.2.2)]) rfl ?_
                  refine oz_aload_n (q := 89) cx d_Model_know_88 rfl rfl 1 rfl ?_
                  refine oz_get (q := 92) cx 62 7 (by decide) (ci := 8) rfl rfl tin_Model (by decide) rfl rfl tw_793 d_Model_know_89 rfl ?_
                  refine oz_iload (q := 94) cx d_Model_know_92 rfl 0 rfl ?_
                  refine oz_bald (q := 95) cx 66 16384 (by decide) rfl d_Model_know_94 rfl (fun j11 hj11 => ?_)
                  refine oz_iload (q := 97) cx d_Model_know_95 rfl 4 rfl ?_
                  refine oz_seq (p2 := 112) (lv2 := fun (z12 : Int32) => [(0, .ref (oz_b G + 62)), (1, .int (1 <<< ((M.1 62 1) &&& 31))), (2, .int s1.1), (5, .int s9.2.1), (6, .int s9.2.2), (7, .int (s1.1 &&& ((1 <<< (s9.2.2 &&& 31)) ^^^ (-1))))]) (st2 := fun z12 => [.int z12]) (M2 := fun z12 => s1.2) ?_ (fun z12 => ?_)
                  · refine oz_icmp_le (q := 100) cx d_Model_know_97 rfl rfl (fun h14 => ?_) (fun h14 => ?_)
                    · refine oz_iload (q := 112) cx d_Model_know_110 rfl 4 rfl ?_
                      exact oz_lv [1, 2, 3, 5, 6, 0] rfl (oz_leaf (fun h => h))
                    · refine oz_aload_n (q := 101) cx d_Model_know_100 rfl rfl 1 rfl ?_
                      refine oz_get (q := 104) cx 62 7 (by decide) (ci := 8) rfl rfl tin_Model (by decide) rfl rfl tw_793 d_Model_know_101 rfl ?_
                      refine oz_iload (q := 106) cx d_Model_know_104 rfl 0 rfl ?_
                      refine oz_bald (q := 107) cx 66 16384 (by decide) rfl d_Model_know_106 rfl (fun j13 hj13 => ?_)
                      refine oz_goto cx d_Model_know_107 rfl ?_
                      exact oz_lv [1, 2, 3, 5, 6, 0] rfl (oz_leaf (fun h => h))
                  · refine oz_istore (q := 114) cx d_Model_know_112 rfl (by rw [hnL]; decide) (lv2 := [(4, .int z12), (0, .ref (oz_b G + 62)), (1, .int (1 <<< ((M.1 62 1) &&& 31))), (2, .int s1.1), (5, .int s9.2.1), (6, .int s9.2.2), (7, .int (s1.1 &&& ((1 <<< (s9.2.2 &&& 31)) ^^^ (-1))))]) rfl ?_
                    refine oz_aload_n (q := 115) cx d_Model_know_114 rfl rfl 1 rfl ?_
                    refine oz_get (q := 118) cx 62 8 (by decide) (ci := 8) rfl rfl tin_Model (by decide) rfl rfl tw_794 d_Model_know_115 rfl ?_
                    refine oz_iload (q := 120) cx d_Model_know_118 rfl 6 rfl ?_
                    refine oz_bald (q := 121) cx 67 16384 (by decide) rfl d_Model_know_120 rfl (fun j15 hj15 => ?_)
                    refine oz_iload (q := 123) cx d_Model_know_121 rfl 4 rfl ?_
                    refine oz_icmp_le (q := 126) cx d_Model_know_123 rfl rfl (fun h17 => ?_) (fun h17 => ?_)
                    · refine oz_iload (q := 138) cx d_Model_know_136 rfl 4 rfl ?_
                      refine oz_istore (q := 140) cx d_Model_know_138 rfl (by rw [hnL]; decide) (lv2 := [(5, .int s9.2.1), (4, .int z12), (0, .ref (oz_b G + 62)), (1, .int (1 <<< ((M.1 62 1) &&& 31))), (2, .int s1.1), (6, .int s9.2.2), (7, .int (s1.1 &&& ((1 <<< (s9.2.2 &&& 31)) ^^^ (-1))))]) rfl ?_
                      refine oz_iinc (q := 143) cx (s9.2.2 + 1) d_Model_know_140 rfl 5 rfl rfl (by rw [hnL]; decide) (lv2 := [(6, .int (s9.2.2 + 1)), (5, .int s9.2.1), (4, .int z12), (0, .ref (oz_b G + 62)), (1, .int (1 <<< ((M.1 62 1) &&& 31))), (2, .int s1.1), (7, .int (s1.1 &&& ((1 <<< (s9.2.2 &&& 31)) ^^^ (-1))))]) rfl ?_
                      refine oz_goto cx d_Model_know_143 rfl ?_
                      exact oz_lv [3, 4, 5, 2, 1, 0] rfl (oz_leaf (fun h => h))
                    · refine oz_aload_n (q := 127) cx d_Model_know_126 rfl rfl 1 rfl ?_
                      refine oz_get (q := 130) cx 62 8 (by decide) (ci := 8) rfl rfl tin_Model (by decide) rfl rfl tw_794 d_Model_know_127 rfl ?_
                      refine oz_iload (q := 132) cx d_Model_know_130 rfl 6 rfl ?_
                      refine oz_bald (q := 133) cx 67 16384 (by decide) rfl d_Model_know_132 rfl (fun j16 hj16 => ?_)
                      refine oz_goto cx d_Model_know_133 rfl ?_
                      refine oz_istore (q := 140) cx d_Model_know_138 rfl (by rw [hnL]; decide) (lv2 := [(5, .int (s1.2.1 67 j16)), (4, .int z12), (0, .ref (oz_b G + 62)), (1, .int (1 <<< ((M.1 62 1) &&& 31))), (2, .int s1.1), (6, .int s9.2.2), (7, .int (s1.1 &&& ((1 <<< (s9.2.2 &&& 31)) ^^^ (-1))))]) rfl ?_
                      refine oz_iinc (q := 143) cx (s9.2.2 + 1) d_Model_know_140 rfl 5 rfl rfl (by rw [hnL]; decide) (lv2 := [(6, .int (s9.2.2 + 1)), (5, .int (s1.2.1 67 j16)), (4, .int z12), (0, .ref (oz_b G + 62)), (1, .int (1 <<< ((M.1 62 1) &&& 31))), (2, .int s1.1), (7, .int (s1.1 &&& ((1 <<< (s9.2.2 &&& 31)) ^^^ (-1))))]) rfl ?_
                      refine oz_goto cx d_Model_know_143 rfl ?_
                      exact oz_lv [3, 4, 5, 2, 1, 0] rfl (oz_leaf (fun h => h))
            · refine oz_aload_n (q := 147) cx d_Model_know_146 rfl rfl 0 rfl ?_
              refine oz_get (q := 150) cx 62 7 (by decide) (ci := 8) rfl rfl tin_Model (by decide) rfl rfl tw_793 d_Model_know_147 rfl ?_
              refine oz_iload_n (q := 151) cx d_Model_know_150 rfl rfl 2 rfl ?_
              refine oz_iload (q := 153) cx d_Model_know_151 rfl 3 rfl ?_
              refine oz_i2b (q := 154) cx d_Model_know_153 rfl ?_
              refine oz_bast (q := 155) cx 66 16384 (by decide) (fun _ => rfl) d_Model_know_154 rfl (fun j21 hj21 => ?_)
              refine oz_nm (fun M22 hM22 => ?_)
              refine oz_aload_n (q := 156) cx d_Model_know_155 rfl rfl 0 rfl ?_
              refine oz_get (q := 159) cx 62 8 (by decide) (ci := 8) rfl rfl tin_Model (by decide) rfl rfl tw_794 d_Model_know_156 rfl ?_
              refine oz_iload_n (q := 160) cx d_Model_know_159 rfl rfl 2 rfl ?_
              refine oz_iload (q := 162) cx d_Model_know_160 rfl 4 rfl ?_
              refine oz_i2b (q := 163) cx d_Model_know_162 rfl ?_
              refine oz_bast (q := 164) cx 67 16384 (by decide) (fun _ => rfl) d_Model_know_163 rfl (fun j23 hj23 => ?_)
              refine oz_nm (fun M24 hM24 => ?_)
              refine oz_iinc (q := 167) cx (s1.1 + 1) d_Model_know_164 rfl 2 rfl rfl (by rw [hnL]; decide) (lv2 := [(2, .int (s1.1 + 1)), (0, .ref (oz_b G + 62)), (1, .int (1 <<< ((M.1 62 1) &&& 31))), (4, .int y20.1), (5, .int y20.2.1)]) rfl ?_
              refine oz_goto cx d_Model_know_167 rfl ?_
              exact oz_lv [1, 2, 0] rfl (oz_leaf (fun h => h))
    · refine oz_iload_n (q := 171) cx d_Model_know_170 rfl rfl 1 rfl ?_
      refine oz_iconst (q := 172) cx d_Model_know_171 rfl (v := 1) rfl ?_
      refine oz_isub (q := 173) cx d_Model_know_172 rfl ?_
      refine oz_istore_n (q := 174) cx d_Model_know_173 rfl rfl (by rw [hnL]; decide) (lv2 := [(2, .int ((1 <<< ((M.1 62 1) &&& 31)) - 1)), (0, .ref (oz_b G + 62)), (1, .int (1 <<< ((M.1 62 1) &&& 31)))]) rfl ?_
      refine oz_lv [1, 2, 0] rfl ?_
      refine oz_seq (p2 := 250) (lv2 := fun (y39 : Int32 × oz_M) => [(0, .ref (oz_b G + 62))]) (st2 := fun y39 => []) (M2 := fun y39 => y39.2) ?_ (fun y39 => ?_)
      · refine oz_loop (Y := Int32 × oz_M) 174 (fun (s27 : Int32 × oz_M) => [(0, .ref (oz_b G + 62)), (1, .int (1 <<< ((M.1 62 1) &&& 31))), (2, .int s27.1)]) (fun (s27 : Int32 × oz_M) => s27.2) ((1 <<< ((M.1 62 1) &&& 31)) - 1, y26.2) (fun s27 => ?_)
        refine oz_iload_n (q := 175) cx d_Model_know_174 rfl rfl 2 rfl ?_
        refine oz_if_lt (q := 178) cx d_Model_know_175 rfl rfl (fun h38 => ?_) (fun h38 => ?_)
        · exact oz_lv [0] rfl (oz_leaf (fun h => h))
        · refine oz_iload_n (q := 179) cx d_Model_know_178 rfl rfl 2 rfl ?_
          refine oz_iload_n (q := 180) cx d_Model_know_179 rfl rfl 1 rfl ?_
          refine oz_iconst (q := 181) cx d_Model_know_180 rfl (v := 1) rfl ?_
          refine oz_isub (q := 182) cx d_Model_know_181 rfl ?_
          refine oz_seq (p2 := 190) (lv2 := fun (z28 : Int64) => [(0, .ref (oz_b G + 62)), (1, .int (1 <<< ((M.1 62 1) &&& 31))), (2, .int s27.1)]) (st2 := fun z28 => [.long z28]) (M2 := fun z28 => s27.2) ?_ (fun z28 => ?_)
          · refine oz_icmp_ne (q := 185) cx d_Model_know_182 rfl rfl (fun h29 => ?_) (fun h29 => ?_)
            · refine oz_lconst (q := 190) cx d_Model_know_189 rfl (v := 0) rfl ?_
              exact oz_lv [0, 1, 2] rfl (oz_leaf (fun h => h))
            · refine oz_lconst (q := 186) cx d_Model_know_185 rfl (v := 1) rfl ?_
              refine oz_goto cx d_Model_know_186 rfl ?_
              exact oz_lv [0, 1, 2] rfl (oz_leaf (fun h => h))
          · refine oz_lstore_n (q := 191) cx d_Model_know_190 rfl rfl (by rw [hnL]; decide) (lv2 := [(3, .long z28), (0, .ref (oz_b G + 62)), (1, .int (1 <<< ((M.1 62 1) &&& 31))), (2, .int s27.1)]) rfl ?_
            refine oz_iconst (q := 192) cx d_Model_know_191 rfl (v := 0) rfl ?_
            refine oz_istore (q := 194) cx d_Model_know_192 rfl (by rw [hnL]; decide) (lv2 := [(5, .int 0), (3, .long z28), (0, .ref (oz_b G + 62)), (1, .int (1 <<< ((M.1 62 1) &&& 31))), (2, .int s27.1)]) rfl ?_
            refine oz_lv [2, 3, 4, 1, 0] rfl ?_
            refine oz_seq (p2 := 237) (lv2 := fun (y35 : Int64 × Int32) => [(0, .ref (oz_b G + 62)), (1, .int (1 <<< ((M.1 62 1) &&& 31))), (2, .int s27.1), (3, .long y35.1)]) (st2 := fun y35 => []) (M2 := fun y35 => s27.2) ?_ (fun y35 => ?_)
            · refine oz_loop (Y := Int64 × Int32) 194 (fun (s30 : Int64 × Int32) => [(0, .ref (oz_b G + 62)), (1, .int (1 <<< ((M.1 62 1) &&& 31))), (2, .int s27.1), (3, .long s30.1), (5, .int s30.2)]) (fun (s30 : Int64 × Int32) => s27.2) (z28, 0) (fun s30 => ?_)
              refine oz_iload (q := 196) cx d_Model_know_194 rfl 4 rfl ?_
              refine oz_aload_n (q := 197) cx d_Model_know_196 rfl rfl 0 rfl ?_
              refine oz_get (q := 200) cx 62 1 (by decide) (ci := 8) rfl rfl tin_Model (by decide) rfl rfl tw_787 d_Model_know_197 rfl ?_
              refine oz_icmp_ge (q := 203) cx d_Model_know_200 rfl rfl (fun h34 => ?_) (fun h34 => ?_)
              · exact oz_lv [0, 1, 2, 3] rfl (oz_leaf (fun h => h))
              · refine oz_aload_n (q := 204) cx d_Model_know_203 rfl rfl 0 rfl ?_
                refine oz_iload (q := 206) cx d_Model_know_204 rfl 4 rfl ?_
                refine oz_iload_n (q := 207) cx d_Model_know_206 rfl rfl 2 rfl ?_
                refine oz_cVip (q := 210) cx 62 [.int s30.2, .int s27.1] 2 8 hRm (by decide) (by decide) (fun _ h => c_Model_mayCome h) ⟨tw_933, tw_935, ts_43, tw_9⟩ tw_936 (by decide +kernel) rfl (by decide) rfl rfl (st := []) rfl (Nat.le_of_ble_eq_true rfl) d_Model_know_207 rfl (fun v31 hv31 => ?_)
                refine oz_if_eq (q := 213) cx d_Model_know_210 rfl rfl (fun h33 => ?_) (fun h33 => ?_)
                · refine oz_lload_n (q := 230) cx d_Model_know_229 rfl rfl 3 rfl ?_
                  refine oz_lstore_n (q := 231) cx d_Model_know_230 rfl rfl (by rw [hnL]; decide) (lv2 := [(3, .long s30.1), (0, .ref (oz_b G + 62)), (1, .int (1 <<< ((M.1 62 1) &&& 31))), (2, .int s27.1), (5, .int s30.2)]) rfl ?_
                  refine oz_iinc (q := 234) cx (s30.2 + 1) d_Model_know_231 rfl 4 rfl rfl (by rw [hnL]; decide) (lv2 := [(5, .int (s30.2 + 1)), (3, .long s30.1), (0, .ref (oz_b G + 62)), (1, .int (1 <<< ((M.1 62 1) &&& 31))), (2, .int s27.1)]) rfl ?_
                  refine oz_goto cx d_Model_know_234 rfl ?_
                  exact oz_lv [2, 3, 4, 1, 0] rfl (oz_leaf (fun h => h))
                · refine oz_lload_n (q := 214) cx d_Model_know_213 rfl rfl 3 rfl ?_
                  refine oz_aload_n (q := 215) cx d_Model_know_214 rfl rfl 0 rfl ?_
                  refine oz_get (q := 218) cx 62 9 (by decide) (ci := 8) rfl rfl tin_Model (by decide) rfl rfl tw_795 d_Model_know_215 rfl ?_
                  refine oz_iload_n (q := 219) cx d_Model_know_218 rfl rfl 2 rfl ?_
                  refine oz_iconst (q := 220) cx d_Model_know_219 rfl (v := 1) rfl ?_
                  refine oz_iload (q := 222) cx d_Model_know_220 rfl 4 rfl ?_
                  refine oz_ishl (q := 223) cx d_Model_know_222 rfl ?_
                  refine oz_ior (q := 224) cx d_Model_know_223 rfl ?_
                  refine oz_lald (q := 225) cx 68 16384 (by decide) rfl d_Model_know_224 rfl (fun j32 hj32 => ?_)
                  refine oz_ladd (q := 226) cx d_Model_know_225 rfl ?_
                  refine oz_goto cx d_Model_know_226 rfl ?_
                  refine oz_lstore_n (q := 231) cx d_Model_know_230 rfl rfl (by rw [hnL]; decide) (lv2 := [(3, .long (s30.1 + (s27.2.2 68 j32))), (0, .ref (oz_b G + 62)), (1, .int (1 <<< ((M.1 62 1) &&& 31))), (2, .int s27.1), (5, .int s30.2)]) rfl ?_
                  refine oz_iinc (q := 234) cx (s30.2 + 1) d_Model_know_231 rfl 4 rfl rfl (by rw [hnL]; decide) (lv2 := [(5, .int (s30.2 + 1)), (3, .long (s30.1 + (s27.2.2 68 j32))), (0, .ref (oz_b G + 62)), (1, .int (1 <<< ((M.1 62 1) &&& 31))), (2, .int s27.1)]) rfl ?_
                  refine oz_goto cx d_Model_know_234 rfl ?_
                  exact oz_lv [2, 3, 4, 1, 0] rfl (oz_leaf (fun h => h))
            · refine oz_aload_n (q := 238) cx d_Model_know_237 rfl rfl 0 rfl ?_
              refine oz_get (q := 241) cx 62 9 (by decide) (ci := 8) rfl rfl tin_Model (by decide) rfl rfl tw_795 d_Model_know_238 rfl ?_
              refine oz_iload_n (q := 242) cx d_Model_know_241 rfl rfl 2 rfl ?_
              refine oz_lload_n (q := 243) cx d_Model_know_242 rfl rfl 3 rfl ?_
              refine oz_last (q := 244) cx 68 16384 (by decide) (fun _ => rfl) d_Model_know_243 rfl (fun j36 hj36 => ?_)
              refine oz_nm (fun M37 hM37 => ?_)
              refine oz_iinc (q := 247) cx (s27.1 + (-1)) d_Model_know_244 rfl 2 rfl rfl (by rw [hnL]; decide) (lv2 := [(2, .int (s27.1 + (-1))), (0, .ref (oz_b G + 62)), (1, .int (1 <<< ((M.1 62 1) &&& 31))), (3, .long y35.1)]) rfl ?_
              refine oz_goto cx d_Model_know_247 rfl ?_
              exact oz_lv [1, 2, 0] rfl (oz_leaf (fun h => h))
      · refine oz_aload_n (q := 251) cx d_Model_know_250 rfl rfl 0 rfl ?_
        refine oz_iconst (q := 252) cx d_Model_know_251 rfl (v := 1) rfl ?_
        refine oz_put (q := 255) cx 62 10 (by decide) (ci := 8) rfl rfl rfl tin_Model t_Model t_Model_ok n_Model (by decide) (Nat.le_of_ble_eq_true rfl) rfl tw_796 rfl rfl rfl d_Model_know_252 rfl ?_
        refine oz_nm (fun M40 hM40 => ?_)
        exact oz_vret cx hR d_Model_know_255
  · exact oz_vret cx hR d_Model_know_7
def y_Model_sign : MethodName := ⟨"OrderHallModel", "sign", "(II)I"⟩
theorem d_Model_sign_0 : decode prog_10_method_47_code 0 = .ok (.aload_n 0, 1) := by decide +kernel
theorem d_Model_sign_1 : decode prog_10_method_47_code 1 = .ok (.aload_n 0, 1) := by decide +kernel
theorem d_Model_sign_2 : decode prog_10_method_47_code 2 = .ok (.getfield 53, 3) := by decide +kernel
theorem d_Model_sign_5 : decode prog_10_method_47_code 5 = .ok (.ifCond .ne 7, 3) := by decide +kernel
theorem d_Model_sign_8 : decode prog_10_method_47_code 8 = .ok (.iconst 1, 1) := by decide +kernel
theorem d_Model_sign_9 : decode prog_10_method_47_code 9 = .ok (.goto 24, 3) := by decide +kernel
theorem d_Model_sign_12 : decode prog_10_method_47_code 12 = .ok (.aload_n 0, 1) := by decide +kernel
theorem d_Model_sign_13 : decode prog_10_method_47_code 13 = .ok (.iload_n 1, 1) := by decide +kernel
theorem d_Model_sign_14 : decode prog_10_method_47_code 14 = .ok (.invokevirtual 69, 3) := by decide +kernel
theorem d_Model_sign_17 : decode prog_10_method_47_code 17 = .ok (.ifCond .eq 11, 3) := by decide +kernel
theorem d_Model_sign_20 : decode prog_10_method_47_code 20 = .ok (.aload_n 0, 1) := by decide +kernel
theorem d_Model_sign_21 : decode prog_10_method_47_code 21 = .ok (.iload_n 2, 1) := by decide +kernel
theorem d_Model_sign_22 : decode prog_10_method_47_code 22 = .ok (.invokevirtual 69, 3) := by decide +kernel
theorem d_Model_sign_25 : decode prog_10_method_47_code 25 = .ok (.ifCond .ne 7, 3) := by decide +kernel
theorem d_Model_sign_28 : decode prog_10_method_47_code 28 = .ok (.iconst 2, 1) := by decide +kernel
theorem d_Model_sign_29 : decode prog_10_method_47_code 29 = .ok (.goto 4, 3) := by decide +kernel
theorem d_Model_sign_32 : decode prog_10_method_47_code 32 = .ok (.iconst 0, 1) := by decide +kernel
theorem d_Model_sign_33 : decode prog_10_method_47_code 33 = .ok (.putfield 50, 3) := by decide +kernel
theorem d_Model_sign_36 : decode prog_10_method_47_code 36 = .ok (.aload_n 0, 1) := by decide +kernel
theorem d_Model_sign_37 : decode prog_10_method_47_code 37 = .ok (.getfield 50, 3) := by decide +kernel
theorem d_Model_sign_40 : decode prog_10_method_47_code 40 = .ok (.ifCond .gt 12, 3) := by decide +kernel
theorem d_Model_sign_43 : decode prog_10_method_47_code 43 = .ok (.aload_n 0, 1) := by decide +kernel
theorem d_Model_sign_44 : decode prog_10_method_47_code 44 = .ok (.iload_n 1, 1) := by decide +kernel
theorem d_Model_sign_45 : decode prog_10_method_47_code 45 = .ok (.iload_n 2, 1) := by decide +kernel
theorem d_Model_sign_46 : decode prog_10_method_47_code 46 = .ok (.invokevirtual 138, 3) := by decide +kernel
theorem d_Model_sign_49 : decode prog_10_method_47_code 49 = .ok (.ifCond .ne 5, 3) := by decide +kernel
theorem d_Model_sign_52 : decode prog_10_method_47_code 52 = .ok (.iconst 0, 1) := by decide +kernel
theorem d_Model_sign_53 : decode prog_10_method_47_code 53 = .ok (.ireturn, 1) := by decide +kernel
theorem d_Model_sign_54 : decode prog_10_method_47_code 54 = .ok (.iconst 0, 1) := by decide +kernel
theorem d_Model_sign_55 : decode prog_10_method_47_code 55 = .ok (.istore_n 3, 1) := by decide +kernel
theorem d_Model_sign_56 : decode prog_10_method_47_code 56 = .ok (.iload_n 3, 1) := by decide +kernel
theorem d_Model_sign_57 : decode prog_10_method_47_code 57 = .ok (.aload_n 0, 1) := by decide +kernel
theorem d_Model_sign_58 : decode prog_10_method_47_code 58 = .ok (.getfield 7, 3) := by decide +kernel
theorem d_Model_sign_61 : decode prog_10_method_47_code 61 = .ok (.if_icmp .ge 41, 3) := by decide +kernel
theorem d_Model_sign_64 : decode prog_10_method_47_code 64 = .ok (.aload_n 0, 1) := by decide +kernel
theorem d_Model_sign_65 : decode prog_10_method_47_code 65 = .ok (.getfield 44, 3) := by decide +kernel
theorem d_Model_sign_68 : decode prog_10_method_47_code 68 = .ok (.iload_n 3, 1) := by decide +kernel
theorem d_Model_sign_69 : decode prog_10_method_47_code 69 = .ok (.iload_n 3, 1) := by decide +kernel
theorem d_Model_sign_70 : decode prog_10_method_47_code 70 = .ok (.iload_n 1, 1) := by decide +kernel
theorem d_Model_sign_71 : decode prog_10_method_47_code 71 = .ok (.if_icmp .ne 7, 3) := by decide +kernel
theorem d_Model_sign_74 : decode prog_10_method_47_code 74 = .ok (.iconst 1, 1) := by decide +kernel
theorem d_Model_sign_75 : decode prog_10_method_47_code 75 = .ok (.goto 4, 3) := by decide +kernel
theorem d_Model_sign_78 : decode prog_10_method_47_code 78 = .ok (.iconst 0, 1) := by decide +kernel
theorem d_Model_sign_79 : decode prog_10_method_47_code 79 = .ok (.bastore, 1) := by decide +kernel
theorem d_Model_sign_80 : decode prog_10_method_47_code 80 = .ok (.aload_n 0, 1) := by decide +kernel
theorem d_Model_sign_81 : decode prog_10_method_47_code 81 = .ok (.getfield 41, 3) := by decide +kernel
theorem d_Model_sign_84 : decode prog_10_method_47_code 84 = .ok (.iload_n 3, 1) := by decide +kernel
theorem d_Model_sign_85 : decode prog_10_method_47_code 85 = .ok (.iload_n 3, 1) := by decide +kernel
theorem d_Model_sign_86 : decode prog_10_method_47_code 86 = .ok (.iload_n 1, 1) := by decide +kernel
theorem d_Model_sign_87 : decode prog_10_method_47_code 87 = .ok (.if_icmp .ne 7, 3) := by decide +kernel
theorem d_Model_sign_90 : decode prog_10_method_47_code 90 = .ok (.iconst 1, 1) := by decide +kernel
theorem d_Model_sign_91 : decode prog_10_method_47_code 91 = .ok (.goto 4, 3) := by decide +kernel
theorem d_Model_sign_94 : decode prog_10_method_47_code 94 = .ok (.iconst 0, 1) := by decide +kernel
theorem d_Model_sign_95 : decode prog_10_method_47_code 95 = .ok (.iastore, 1) := by decide +kernel
theorem d_Model_sign_96 : decode prog_10_method_47_code 96 = .ok (.iinc 3 1, 3) := by decide +kernel
theorem d_Model_sign_99 : decode prog_10_method_47_code 99 = .ok (.goto (-43), 3) := by decide +kernel
theorem d_Model_sign_102 : decode prog_10_method_47_code 102 = .ok (.aload_n 0, 1) := by decide +kernel
theorem d_Model_sign_103 : decode prog_10_method_47_code 103 = .ok (.getfield 44, 3) := by decide +kernel
theorem d_Model_sign_106 : decode prog_10_method_47_code 106 = .ok (.iload_n 2, 1) := by decide +kernel
theorem d_Model_sign_107 : decode prog_10_method_47_code 107 = .ok (.baload, 1) := by decide +kernel
theorem d_Model_sign_108 : decode prog_10_method_47_code 108 = .ok (.ifCond .ne 28, 3) := by decide +kernel
theorem d_Model_sign_111 : decode prog_10_method_47_code 111 = .ok (.iconst 0, 1) := by decide +kernel
theorem d_Model_sign_112 : decode prog_10_method_47_code 112 = .ok (.istore_n 3, 1) := by decide +kernel
theorem d_Model_sign_113 : decode prog_10_method_47_code 113 = .ok (.iload_n 3, 1) := by decide +kernel
theorem d_Model_sign_114 : decode prog_10_method_47_code 114 = .ok (.aload_n 0, 1) := by decide +kernel
theorem d_Model_sign_115 : decode prog_10_method_47_code 115 = .ok (.getfield 7, 3) := by decide +kernel
theorem d_Model_sign_118 : decode prog_10_method_47_code 118 = .ok (.if_icmp .ge 15, 3) := by decide +kernel
theorem d_Model_sign_121 : decode prog_10_method_47_code 121 = .ok (.aload_n 0, 1) := by decide +kernel
theorem d_Model_sign_122 : decode prog_10_method_47_code 122 = .ok (.iload_n 1, 1) := by decide +kernel
theorem d_Model_sign_123 : decode prog_10_method_47_code 123 = .ok (.iload_n 3, 1) := by decide +kernel
theorem d_Model_sign_124 : decode prog_10_method_47_code 124 = .ok (.invokevirtual 149, 3) := by decide +kernel
theorem d_Model_sign_127 : decode prog_10_method_47_code 127 = .ok (.iinc 3 1, 3) := by decide +kernel
theorem d_Model_sign_130 : decode prog_10_method_47_code 130 = .ok (.goto (-17), 3) := by decide +kernel
theorem d_Model_sign_133 : decode prog_10_method_47_code 133 = .ok (.goto (-31), 3) := by decide +kernel
theorem d_Model_sign_136 : decode prog_10_method_47_code 136 = .ok (.aload_n 0, 1) := by decide +kernel
theorem d_Model_sign_137 : decode prog_10_method_47_code 137 = .ok (.getfield 41, 3) := by decide +kernel
theorem d_Model_sign_140 : decode prog_10_method_47_code 140 = .ok (.iload_n 2, 1) := by decide +kernel
theorem d_Model_sign_141 : decode prog_10_method_47_code 141 = .ok (.iaload, 1) := by decide +kernel
theorem d_Model_sign_142 : decode prog_10_method_47_code 142 = .ok (.ireturn, 1) := by decide +kernel
noncomputable def f_Model_sign (a0 : Int32) (a1 : Int32) (M : oz_M) : Option (Int32 × oz_M) := (if (M.1 62 2) = 0 then (some 1) else ((f_Model_isElement a0 M).bind fun v2 => if v2 = 0 then (some 2) else ((f_Model_isElement a1 M).bind fun v3 => if v3 = 0 then (some 2) else (some 0)))).bind fun (z1 : Int32) => (some (oz_s M 62 0 z1)).bind fun M7 => if 0 < (M7.1 62 0) then (some (0, M7)) else ((f_Model_isAtMost a0 a1 M7).bind fun v8 => if v8 = 0 then (some (0, M7)) else ((oz_lp (fun (s9 : Int32 × oz_M) => (if s9.1 < (s9.2.1 62 1) then ((if s9.1 = a0 then (some 1) else (some 0)).bind fun (z10 : Int32) => (oz_in s9.1 14).bind fun j12 => (some (oz_s s9.2 72 j12 (vp_nar .boolean z10))).bind fun M13 => if s9.1 = a0 then ((oz_in s9.1 14).bind fun j16 => (some (oz_s M13 71 j16 1)).bind fun M17 => some (.inl (s9.1 + 1, M17))) else ((oz_in s9.1 14).bind fun j14 => (some (oz_s M13 71 j14 0)).bind fun M15 => some (.inl (s9.1 + 1, M15)))) else (some (.inr (s9.1, s9.2))) : Option ((Int32 × oz_M) ⊕ (Int32 × oz_M)))) (0, M7)).bind fun (y20 : Int32 × oz_M) => (oz_lp (fun (s21 : oz_M) => ((oz_in a1 14).bind fun j22 => if (s21.1 72 j22) = 0 then ((oz_lp (fun (s23 : Int32 × oz_M) => (if s23.1 < (s23.2.1 62 1) then (oz_b2 (f_Model_tell a0 s23.1 s23.2) fun v24 M25 => some (.inl (s23.1 + 1, M25))) else (some (.inr (s23.1, s23.2))) : Option ((Int32 × oz_M) ⊕ (Int32 × oz_M)))) (0, s21)).bind fun (y27 : Int32 × oz_M) => some (.inl y27.2)) else (some (.inr s21)) : Option ((oz_M) ⊕ (oz_M)))) y20.2).bind fun (y29 : oz_M) => (oz_in a1 14).bind fun j30 => some (y29.1 71 j30, y29)))
set_option maxRecDepth 20000 in
set_option maxHeartbeats 4000000 in
theorem c_Model_sign {l : Launch} {D : va_G} {cs : Nat → ClassId} {b : Nat} {a0 : Int32} {a1 : Int32} {M : oz_M} {vz : Int32} {Mz : oz_M} (hF : f_Model_sign a0 a1 M = some (vz, Mz)) : oz_Met l D cs b y_Model_sign prog_10_method_47_code 4 (some .int) (oz_rm 3) [.ref (b + 62), .int a0, .int a1] M (some (.int vz)) Mz := by
  refine oz_enter (by decide) (Nat.le_of_ble_eq_true rfl) (fun G cx hR e1 hRm e2 e3 e4 hnL => ?_)
  subst e1; subst e2; subst e3; subst e4
  refine (?_ : oz_R G 0 [(0, .ref (oz_b G + 62)), (1, .int a0), (2, .int a1)] [] M (f_Model_sign a0 a1 M) (fun x => x = (vz, Mz))) _ hF rfl
  unfold f_Model_sign
  refine oz_aload_n (q := 1) cx d_Model_sign_0 rfl rfl 0 rfl ?_
  refine oz_aload_n (q := 2) cx d_Model_sign_1 rfl rfl 0 rfl ?_
  refine oz_get (q := 5) cx 62 2 (by decide) (ci := 8) rfl rfl tin_Model (by decide) rfl rfl tw_788 d_Model_sign_2 rfl ?_
  refine oz_seq (p2 := 33) (lv2 := fun (z1 : Int32) => [(0, .ref (oz_b G + 62)), (1, .int a0), (2, .int a1)]) (st2 := fun z1 => [.int z1, .ref (oz_b G + 62)]) (M2 := fun z1 => M) ?_ (fun z1 => ?_)
  · refine oz_if_ne (q := 8) cx d_Model_sign_5 rfl rfl (fun h6 => ?_) (fun h6 => ?_)
    · refine oz_aload_n (q := 13) cx d_Model_sign_12 rfl rfl 0 rfl ?_
      refine oz_iload_n (q := 14) cx d_Model_sign_13 rfl rfl 1 rfl ?_
      refine oz_cVip (q := 17) cx 62 [.int a0] 1 8 hRm (by decide) (by decide) (fun _ h => c_Model_isElement h) ⟨tw_859, tw_861, ts_32, tw_9⟩ tw_862 (by decide +kernel) rfl (by decide) rfl rfl (st := [.ref (oz_b G + 62)]) rfl (Nat.le_of_ble_eq_true rfl) d_Model_sign_14 rfl (fun v2 hv2 => ?_)
      refine oz_if_eq (q := 20) cx d_Model_sign_17 rfl rfl (fun h5 => ?_) (fun h5 => ?_)
      · refine oz_iconst (q := 29) cx d_Model_sign_28 rfl (v := 2) rfl ?_
        refine oz_goto cx d_Model_sign_29 rfl ?_
        exact oz_lv [0, 1, 2] rfl (oz_leaf (fun h => h))
      · refine oz_aload_n (q := 21) cx d_Model_sign_20 rfl rfl 0 rfl ?_
        refine oz_iload_n (q := 22) cx d_Model_sign_21 rfl rfl 2 rfl ?_
        refine oz_cVip (q := 25) cx 62 [.int a1] 1 8 hRm (by decide) (by decide) (fun _ h => c_Model_isElement h) ⟨tw_859, tw_861, ts_32, tw_9⟩ tw_862 (by decide +kernel) rfl (by decide) rfl rfl (st := [.ref (oz_b G + 62)]) rfl (Nat.le_of_ble_eq_true rfl) d_Model_sign_22 rfl (fun v3 hv3 => ?_)
        refine oz_if_ne (q := 28) cx d_Model_sign_25 rfl rfl (fun h4 => ?_) (fun h4 => ?_)
        · refine oz_iconst (q := 33) cx d_Model_sign_32 rfl (v := 0) rfl ?_
          exact oz_lv [0, 1, 2] rfl (oz_leaf (fun h => h))
        · refine oz_iconst (q := 29) cx d_Model_sign_28 rfl (v := 2) rfl ?_
          refine oz_goto cx d_Model_sign_29 rfl ?_
          exact oz_lv [0, 1, 2] rfl (oz_leaf (fun h => h))
    · refine oz_iconst (q := 9) cx d_Model_sign_8 rfl (v := 1) rfl ?_
      refine oz_goto cx d_Model_sign_9 rfl ?_
      exact oz_lv [0, 1, 2] rfl (oz_leaf (fun h => h))
  · refine oz_put (q := 36) cx 62 0 (by decide) (ci := 8) rfl rfl rfl tin_Model t_Model t_Model_ok n_Model (by decide) (Nat.le_of_ble_eq_true rfl) rfl tw_786 rfl rfl rfl d_Model_sign_33 rfl ?_
    refine oz_nm (fun M7 hM7 => ?_)
    refine oz_aload_n (q := 37) cx d_Model_sign_36 rfl rfl 0 rfl ?_
    refine oz_get (q := 40) cx 62 0 (by decide) (ci := 8) rfl rfl tin_Model (by decide) rfl rfl tw_786 d_Model_sign_37 rfl ?_
    refine oz_if_gt (q := 43) cx d_Model_sign_40 rfl rfl (fun h32 => ?_) (fun h32 => ?_)
    · refine oz_iconst (q := 53) cx d_Model_sign_52 rfl (v := 0) rfl ?_
      exact oz_iret cx hR d_Model_sign_53
    · refine oz_aload_n (q := 44) cx d_Model_sign_43 rfl rfl 0 rfl ?_
      refine oz_iload_n (q := 45) cx d_Model_sign_44 rfl rfl 1 rfl ?_
      refine oz_iload_n (q := 46) cx d_Model_sign_45 rfl rfl 2 rfl ?_
      refine oz_cVip (q := 49) cx 62 [.int a0, .int a1] 2 8 hRm (by decide) (by decide) (fun _ h => c_Model_isAtMost h) ⟨tw_1010, tw_1012, ts_51, tw_9⟩ tw_1013 (by decide +kernel) rfl (by decide) rfl rfl (st := []) rfl (Nat.le_of_ble_eq_true rfl) d_Model_sign_46 rfl (fun v8 hv8 => ?_)
      refine oz_if_ne (q := 52) cx d_Model_sign_49 rfl rfl (fun h31 => ?_) (fun h31 => ?_)
      · refine oz_iconst (q := 55) cx d_Model_sign_54 rfl (v := 0) rfl ?_
        refine oz_istore_n (q := 56) cx d_Model_sign_55 rfl rfl (by rw [hnL]; decide) (lv2 := [(3, .int 0), (0, .ref (oz_b G + 62)), (1, .int a0), (2, .int a1)]) rfl ?_
        refine oz_lv [1, 2, 3, 0] rfl ?_
        refine oz_seq (p2 := 102) (lv2 := fun (y20 : Int32 × oz_M) => [(0, .ref (oz_b G + 62)), (1, .int a0), (2, .int a1)]) (st2 := fun y20 => []) (M2 := fun y20 => y20.2) ?_ (fun y20 => ?_)
        · refine oz_loop (Y := Int32 × oz_M) 56 (fun (s9 : Int32 × oz_M) => [(0, .ref (oz_b G + 62)), (1, .int a0), (2, .int a1), (3, .int s9.1)]) (fun (s9 : Int32 × oz_M) => s9.2) (0, M7) (fun s9 => ?_)
          refine oz_iload_n (q := 57) cx d_Model_sign_56 rfl rfl 3 rfl ?_
          refine oz_aload_n (q := 58) cx d_Model_sign_57 rfl rfl 0 rfl ?_
          refine oz_get (q := 61) cx 62 1 (by decide) (ci := 8) rfl rfl tin_Model (by decide) rfl rfl tw_787 d_Model_sign_58 rfl ?_
          refine oz_icmp_ge (q := 64) cx d_Model_sign_61 rfl rfl (fun h19 => ?_) (fun h19 => ?_)
          · exact oz_lv [0, 1, 2] rfl (oz_leaf (fun h => h))
          · refine oz_aload_n (q := 65) cx d_Model_sign_64 rfl rfl 0 rfl ?_
            refine oz_get (q := 68) cx 62 15 (by decide) (ci := 8) rfl rfl tin_Model (by decide) rfl rfl tw_801 d_Model_sign_65 rfl ?_
            refine oz_iload_n (q := 69) cx d_Model_sign_68 rfl rfl 3 rfl ?_
            refine oz_iload_n (q := 70) cx d_Model_sign_69 rfl rfl 3 rfl ?_
            refine oz_iload_n (q := 71) cx d_Model_sign_70 rfl rfl 1 rfl ?_
            refine oz_seq (p2 := 79) (lv2 := fun (z10 : Int32) => [(0, .ref (oz_b G + 62)), (1, .int a0), (2, .int a1), (3, .int s9.1)]) (st2 := fun z10 => [.int z10, .int s9.1, .ref (oz_b G + 72)]) (M2 := fun z10 => s9.2) ?_ (fun z10 => ?_)
            · refine oz_icmp_ne (q := 74) cx d_Model_sign_71 rfl rfl (fun h11 => ?_) (fun h11 => ?_)
              · refine oz_iconst (q := 79) cx d_Model_sign_78 rfl (v := 0) rfl ?_
                exact oz_lv [0, 1, 2, 3] rfl (oz_leaf (fun h => h))
              · refine oz_iconst (q := 75) cx d_Model_sign_74 rfl (v := 1) rfl ?_
                refine oz_goto cx d_Model_sign_75 rfl ?_
                exact oz_lv [0, 1, 2, 3] rfl (oz_leaf (fun h => h))
            · refine oz_zast (q := 80) cx 72 14 (by decide) (fun _ => rfl) d_Model_sign_79 rfl (fun j12 hj12 => ?_)
              refine oz_nm (fun M13 hM13 => ?_)
              refine oz_aload_n (q := 81) cx d_Model_sign_80 rfl rfl 0 rfl ?_
              refine oz_get (q := 84) cx 62 14 (by decide) (ci := 8) rfl rfl tin_Model (by decide) rfl rfl tw_800 d_Model_sign_81 rfl ?_
              refine oz_iload_n (q := 85) cx d_Model_sign_84 rfl rfl 3 rfl ?_
              refine oz_iload_n (q := 86) cx d_Model_sign_85 rfl rfl 3 rfl ?_
              refine oz_iload_n (q := 87) cx d_Model_sign_86 rfl rfl 1 rfl ?_
              refine oz_icmp_ne (q := 90) cx d_Model_sign_87 rfl rfl (fun h18 => ?_) (fun h18 => ?_)
              · refine oz_iconst (q := 95) cx d_Model_sign_94 rfl (v := 0) rfl ?_
                refine oz_iast (q := 96) cx 71 14 (by decide) (fun _ => rfl) d_Model_sign_95 rfl (fun j14 hj14 => ?_)
                refine oz_nm (fun M15 hM15 => ?_)
                refine oz_iinc (q := 99) cx (s9.1 + 1) d_Model_sign_96 rfl 3 rfl rfl (by rw [hnL]; decide) (lv2 := [(3, .int (s9.1 + 1)), (0, .ref (oz_b G + 62)), (1, .int a0), (2, .int a1)]) rfl ?_
                refine oz_goto cx d_Model_sign_99 rfl ?_
                exact oz_lv [1, 2, 3, 0] rfl (oz_leaf (fun h => h))
              · refine oz_iconst (q := 91) cx d_Model_sign_90 rfl (v := 1) rfl ?_
                refine oz_goto cx d_Model_sign_91 rfl ?_
                refine oz_iast (q := 96) cx 71 14 (by decide) (fun _ => rfl) d_Model_sign_95 rfl (fun j16 hj16 => ?_)
                refine oz_nm (fun M17 hM17 => ?_)
                refine oz_iinc (q := 99) cx (s9.1 + 1) d_Model_sign_96 rfl 3 rfl rfl (by rw [hnL]; decide) (lv2 := [(3, .int (s9.1 + 1)), (0, .ref (oz_b G + 62)), (1, .int a0), (2, .int a1)]) rfl ?_
                refine oz_goto cx d_Model_sign_99 rfl ?_
                exact oz_lv [1, 2, 3, 0] rfl (oz_leaf (fun h => h))
        · refine oz_lv [0, 1, 2] rfl ?_
          refine oz_seq (p2 := 136) (lv2 := fun (y29 : oz_M) => [(0, .ref (oz_b G + 62)), (2, .int a1)]) (st2 := fun y29 => []) (M2 := fun y29 => y29) ?_ (fun y29 => ?_)
          · refine oz_loop (Y := oz_M) 102 (fun (s21 : oz_M) => [(0, .ref (oz_b G + 62)), (1, .int a0), (2, .int a1)]) (fun (s21 : oz_M) => s21) y20.2 (fun s21 => ?_)
            refine oz_aload_n (q := 103) cx d_Model_sign_102 rfl rfl 0 rfl ?_
            refine oz_get (q := 106) cx 62 15 (by decide) (ci := 8) rfl rfl tin_Model (by decide) rfl rfl tw_801 d_Model_sign_103 rfl ?_
            refine oz_iload_n (q := 107) cx d_Model_sign_106 rfl rfl 2 rfl ?_
            refine oz_zald (q := 108) cx 72 14 (by decide) rfl d_Model_sign_107 rfl (fun j22 hj22 => ?_)
            refine oz_if_ne (q := 111) cx d_Model_sign_108 rfl rfl (fun h28 => ?_) (fun h28 => ?_)
            · exact oz_lv [0, 2] rfl (oz_leaf (fun h => h))
            · refine oz_iconst (q := 112) cx d_Model_sign_111 rfl (v := 0) rfl ?_
              refine oz_istore_n (q := 113) cx d_Model_sign_112 rfl rfl (by rw [hnL]; decide) (lv2 := [(3, .int 0), (0, .ref (oz_b G + 62)), (1, .int a0), (2, .int a1)]) rfl ?_
              refine oz_lv [1, 2, 3, 0] rfl ?_
              refine oz_seq (p2 := 133) (lv2 := fun (y27 : Int32 × oz_M) => [(0, .ref (oz_b G + 62)), (1, .int a0), (2, .int a1)]) (st2 := fun y27 => []) (M2 := fun y27 => y27.2) ?_ (fun y27 => ?_)
              · refine oz_loop (Y := Int32 × oz_M) 113 (fun (s23 : Int32 × oz_M) => [(0, .ref (oz_b G + 62)), (1, .int a0), (2, .int a1), (3, .int s23.1)]) (fun (s23 : Int32 × oz_M) => s23.2) (0, s21) (fun s23 => ?_)
                refine oz_iload_n (q := 114) cx d_Model_sign_113 rfl rfl 3 rfl ?_
                refine oz_aload_n (q := 115) cx d_Model_sign_114 rfl rfl 0 rfl ?_
                refine oz_get (q := 118) cx 62 1 (by decide) (ci := 8) rfl rfl tin_Model (by decide) rfl rfl tw_787 d_Model_sign_115 rfl ?_
                refine oz_icmp_ge (q := 121) cx d_Model_sign_118 rfl rfl (fun h26 => ?_) (fun h26 => ?_)
                · exact oz_lv [0, 1, 2] rfl (oz_leaf (fun h => h))
                · refine oz_aload_n (q := 122) cx d_Model_sign_121 rfl rfl 0 rfl ?_
                  refine oz_iload_n (q := 123) cx d_Model_sign_122 rfl rfl 1 rfl ?_
                  refine oz_iload_n (q := 124) cx d_Model_sign_123 rfl rfl 3 rfl ?_
                  refine oz_cVv (q := 127) cx 62 [.int a0, .int s23.1] 2 8 hRm (by decide) (by decide) (fun _ _ h => c_Model_tell h) ⟨tw_1022, tw_1024, ts_52, tw_9⟩ tw_1025 (by decide +kernel) rfl (by decide) rfl rfl (st := []) rfl (Nat.le_of_ble_eq_true rfl) d_Model_sign_124 rfl (fun v24 M25 hv24 => ?_)
                  refine oz_iinc (q := 130) cx (s23.1 + 1) d_Model_sign_127 rfl 3 rfl rfl (by rw [hnL]; decide) (lv2 := [(3, .int (s23.1 + 1)), (0, .ref (oz_b G + 62)), (1, .int a0), (2, .int a1)]) rfl ?_
                  refine oz_goto cx d_Model_sign_130 rfl ?_
                  exact oz_lv [1, 2, 3, 0] rfl (oz_leaf (fun h => h))
              · refine oz_goto cx d_Model_sign_133 rfl ?_
                exact oz_lv [0, 1, 2] rfl (oz_leaf (fun h => h))
          · refine oz_aload_n (q := 137) cx d_Model_sign_136 rfl rfl 0 rfl ?_
            refine oz_get (q := 140) cx 62 14 (by decide) (ci := 8) rfl rfl tin_Model (by decide) rfl rfl tw_800 d_Model_sign_137 rfl ?_
            refine oz_iload_n (q := 141) cx d_Model_sign_140 rfl rfl 1 rfl ?_
            refine oz_iald (q := 142) cx 71 14 (by decide) rfl d_Model_sign_141 rfl (fun j30 hj30 => ?_)
            exact oz_iret cx hR d_Model_sign_142
      · refine oz_iconst (q := 53) cx d_Model_sign_52 rfl (v := 0) rfl ?_
        exact oz_iret cx hR d_Model_sign_53
def y_Parts_suffice : MethodName := ⟨"OrderHall$Parts", "suffice", "(LOrderHall$Held;I)Z"⟩
theorem d_Parts_suffice_0 : decode prog_7_method_2_code 0 = .ok (.iconst 0, 1) := by decide +kernel
theorem d_Parts_suffice_1 : decode prog_7_method_2_code 1 = .ok (.istore_n 3, 1) := by decide +kernel
theorem d_Parts_suffice_2 : decode prog_7_method_2_code 2 = .ok (.iconst 0, 1) := by decide +kernel
theorem d_Parts_suffice_3 : decode prog_7_method_2_code 3 = .ok (.istore 4, 2) := by decide +kernel
theorem d_Parts_suffice_5 : decode prog_7_method_2_code 5 = .ok (.iload 4, 2) := by decide +kernel
theorem d_Parts_suffice_7 : decode prog_7_method_2_code 7 = .ok (.aload_n 0, 1) := by decide +kernel
theorem d_Parts_suffice_8 : decode prog_7_method_2_code 8 = .ok (.getfield 31, 3) := by decide +kernel
theorem d_Parts_suffice_11 : decode prog_7_method_2_code 11 = .ok (.getfield 35, 3) := by decide +kernel
theorem d_Parts_suffice_14 : decode prog_7_method_2_code 14 = .ok (.if_icmp .gt 71, 3) := by decide +kernel
theorem d_Parts_suffice_17 : decode prog_7_method_2_code 17 = .ok (.aload_n 0, 1) := by decide +kernel
theorem d_Parts_suffice_18 : decode prog_7_method_2_code 18 = .ok (.iload_n 2, 1) := by decide +kernel
theorem d_Parts_suffice_19 : decode prog_7_method_2_code 19 = .ok (.aload_n 1, 1) := by decide +kernel
theorem d_Parts_suffice_20 : decode prog_7_method_2_code 20 = .ok (.getfield 40, 3) := by decide +kernel
theorem d_Parts_suffice_23 : decode prog_7_method_2_code 23 = .ok (.iload_n 2, 1) := by decide +kernel
theorem d_Parts_suffice_24 : decode prog_7_method_2_code 24 = .ok (.aaload, 1) := by decide +kernel
theorem d_Parts_suffice_25 : decode prog_7_method_2_code 25 = .ok (.iload 4, 2) := by decide +kernel
theorem d_Parts_suffice_27 : decode prog_7_method_2_code 27 = .ok (.iaload, 1) := by decide +kernel
theorem d_Parts_suffice_28 : decode prog_7_method_2_code 28 = .ok (.invokevirtual 46, 3) := by decide +kernel
theorem d_Parts_suffice_31 : decode prog_7_method_2_code 31 = .ok (.iconst 1, 1) := by decide +kernel
theorem d_Parts_suffice_32 : decode prog_7_method_2_code 32 = .ok (.istore 5, 2) := by decide +kernel
theorem d_Parts_suffice_34 : decode prog_7_method_2_code 34 = .ok (.iload 5, 2) := by decide +kernel
theorem d_Parts_suffice_36 : decode prog_7_method_2_code 36 = .ok (.aload_n 0, 1) := by decide +kernel
theorem d_Parts_suffice_37 : decode prog_7_method_2_code 37 = .ok (.getfield 31, 3) := by decide +kernel
theorem d_Parts_suffice_40 : decode prog_7_method_2_code 40 = .ok (.getfield 35, 3) := by decide +kernel
theorem d_Parts_suffice_43 : decode prog_7_method_2_code 43 = .ok (.if_icmp .gt 36, 3) := by decide +kernel
theorem d_Parts_suffice_46 : decode prog_7_method_2_code 46 = .ok (.aload_n 0, 1) := by decide +kernel
theorem d_Parts_suffice_47 : decode prog_7_method_2_code 47 = .ok (.iload 5, 2) := by decide +kernel
theorem d_Parts_suffice_49 : decode prog_7_method_2_code 49 = .ok (.invokevirtual 50, 3) := by decide +kernel
theorem d_Parts_suffice_52 : decode prog_7_method_2_code 52 = .ok (.aload_n 1, 1) := by decide +kernel
theorem d_Parts_suffice_53 : decode prog_7_method_2_code 53 = .ok (.getfield 54, 3) := by decide +kernel
theorem d_Parts_suffice_56 : decode prog_7_method_2_code 56 = .ok (.iconst 1, 1) := by decide +kernel
theorem d_Parts_suffice_57 : decode prog_7_method_2_code 57 = .ok (.iload_n 2, 1) := by decide +kernel
theorem d_Parts_suffice_58 : decode prog_7_method_2_code 58 = .ok (.isub, 1) := by decide +kernel
theorem d_Parts_suffice_59 : decode prog_7_method_2_code 59 = .ok (.aaload, 1) := by decide +kernel
theorem d_Parts_suffice_60 : decode prog_7_method_2_code 60 = .ok (.iload 5, 2) := by decide +kernel
theorem d_Parts_suffice_62 : decode prog_7_method_2_code 62 = .ok (.iaload, 1) := by decide +kernel
theorem d_Parts_suffice_63 : decode prog_7_method_2_code 63 = .ok (.if_icmp .ne 10, 3) := by decide +kernel
theorem d_Parts_suffice_66 : decode prog_7_method_2_code 66 = .ok (.iload_n 3, 1) := by decide +kernel
theorem d_Parts_suffice_67 : decode prog_7_method_2_code 67 = .ok (.iconst 1, 1) := by decide +kernel
theorem d_Parts_suffice_68 : decode prog_7_method_2_code 68 = .ok (.iload 5, 2) := by decide +kernel
theorem d_Parts_suffice_70 : decode prog_7_method_2_code 70 = .ok (.ishl, 1) := by decide +kernel
theorem d_Parts_suffice_71 : decode prog_7_method_2_code 71 = .ok (.ior, 1) := by decide +kernel
theorem d_Parts_suffice_72 : decode prog_7_method_2_code 72 = .ok (.istore_n 3, 1) := by decide +kernel
theorem d_Parts_suffice_73 : decode prog_7_method_2_code 73 = .ok (.iinc 5 1, 3) := by decide +kernel
theorem d_Parts_suffice_76 : decode prog_7_method_2_code 76 = .ok (.goto (-42), 3) := by decide +kernel
theorem d_Parts_suffice_79 : decode prog_7_method_2_code 79 = .ok (.iinc 4 1, 3) := by decide +kernel
theorem d_Parts_suffice_82 : decode prog_7_method_2_code 82 = .ok (.goto (-77), 3) := by decide +kernel
theorem d_Parts_suffice_85 : decode prog_7_method_2_code 85 = .ok (.iload_n 3, 1) := by decide +kernel
theorem d_Parts_suffice_86 : decode prog_7_method_2_code 86 = .ok (.aload_n 0, 1) := by decide +kernel
theorem d_Parts_suffice_87 : decode prog_7_method_2_code 87 = .ok (.getfield 31, 3) := by decide +kernel
theorem d_Parts_suffice_90 : decode prog_7_method_2_code 90 = .ok (.invokevirtual 56, 3) := by decide +kernel
theorem d_Parts_suffice_93 : decode prog_7_method_2_code 93 = .ok (.iconst 1, 1) := by decide +kernel
theorem d_Parts_suffice_94 : decode prog_7_method_2_code 94 = .ok (.ishl, 1) := by decide +kernel
theorem d_Parts_suffice_95 : decode prog_7_method_2_code 95 = .ok (.if_icmp .ne 7, 3) := by decide +kernel
theorem d_Parts_suffice_98 : decode prog_7_method_2_code 98 = .ok (.iconst 1, 1) := by decide +kernel
theorem d_Parts_suffice_99 : decode prog_7_method_2_code 99 = .ok (.goto 4, 3) := by decide +kernel
theorem d_Parts_suffice_102 : decode prog_7_method_2_code 102 = .ok (.iconst 0, 1) := by decide +kernel
theorem d_Parts_suffice_103 : decode prog_7_method_2_code 103 = .ok (.ireturn, 1) := by decide +kernel
noncomputable def f_Parts_suffice (a1 : Int32) (M : oz_M) : Option (Int32 × oz_M) := (oz_lp (fun (s1 : Int32 × Int32 × oz_M) => (if (s1.2.2.1 6 0) < s1.2.1 then (some (.inr (s1.1, s1.2.1, s1.2.2))) else ((oz_in a1 2).bind fun j2 => (oz_in s1.2.1 15).bind fun j3 => oz_b2 (f_Parts_split a1 (s1.2.2.1 (50 + j2) j3) s1.2.2) fun v4 M5 => (oz_lp (fun (s6 : Int32 × Int32) => (if (M5.1 6 0) < s6.2 then (some (.inr (s6.1, s6.2))) else ((f_Parts_together s6.2 M5).bind fun v7 => (oz_in (1 - a1) 2).bind fun j8 => (oz_in s6.2 15).bind fun j9 => if v7 = (M5.1 (47 + j8) j9) then (some (.inl (s6.1 ||| (1 <<< (s6.2 &&& 31)), s6.2 + 1))) else (some (.inl (s6.1, s6.2 + 1)))) : Option ((Int32 × Int32) ⊕ (Int32 × Int32)))) (s1.1, 1)).bind fun (y12 : Int32 × Int32) => some (.inl (y12.1, s1.2.1 + 1, M5))) : Option ((Int32 × Int32 × oz_M) ⊕ (Int32 × Int32 × oz_M)))) (0, 0, M)).bind fun (y14 : Int32 × Int32 × oz_M) => (f_Order_everything y14.2.2).bind fun v15 => if y14.1 = (v15 <<< (1 &&& 31)) then ((oz_z 1).bind fun z => some (z, y14.2.2)) else ((oz_z 0).bind fun z => some (z, y14.2.2))
set_option maxRecDepth 20000 in
set_option maxHeartbeats 4000000 in
theorem c_Parts_suffice {l : Launch} {D : va_G} {cs : Nat → ClassId} {b : Nat} {a1 : Int32} {M : oz_M} {vz : Int32} {Mz : oz_M} (hF : f_Parts_suffice a1 M = some (vz, Mz)) : oz_Met l D cs b y_Parts_suffice prog_7_method_2_code 6 (some .boolean) (oz_rm 4) [.ref (b + 56), .ref (b + 45), .int a1] M (some (.int vz)) Mz := by
  refine oz_enter (by decide) (Nat.le_of_ble_eq_true rfl) (fun G cx hR e1 hRm e2 e3 e4 hnL => ?_)
  subst e1; subst e2; subst e3; subst e4
  refine (?_ : oz_R G 0 [(0, .ref (oz_b G + 56)), (1, .ref (oz_b G + 45)), (2, .int a1)] [] M (f_Parts_suffice a1 M) (fun x => x = (vz, Mz))) _ hF rfl
  unfold f_Parts_suffice
  refine oz_iconst (q := 1) cx d_Parts_suffice_0 rfl (v := 0) rfl ?_
  refine oz_istore_n (q := 2) cx d_Parts_suffice_1 rfl rfl (by rw [hnL]; decide) (lv2 := [(3, .int 0), (0, .ref (oz_b G + 56)), (1, .ref (oz_b G + 45)), (2, .int a1)]) rfl ?_
  refine oz_iconst (q := 3) cx d_Parts_suffice_2 rfl (v := 0) rfl ?_
  refine oz_istore (q := 5) cx d_Parts_suffice_3 rfl (by rw [hnL]; decide) (lv2 := [(4, .int 0), (3, .int 0), (0, .ref (oz_b G + 56)), (1, .ref (oz_b G + 45)), (2, .int a1)]) rfl ?_
  refine oz_lv [2, 3, 4, 1, 0] rfl ?_
  refine oz_seq (p2 := 85) (lv2 := fun (y14 : Int32 × Int32 × oz_M) => [(0, .ref (oz_b G + 56)), (3, .int y14.1)]) (st2 := fun y14 => []) (M2 := fun y14 => y14.2.2) ?_ (fun y14 => ?_)
  · refine oz_loop (Y := Int32 × Int32 × oz_M) 5 (fun (s1 : Int32 × Int32 × oz_M) => [(0, .ref (oz_b G + 56)), (1, .ref (oz_b G + 45)), (2, .int a1), (3, .int s1.1), (4, .int s1.2.1)]) (fun (s1 : Int32 × Int32 × oz_M) => s1.2.2) (0, 0, M) (fun s1 => ?_)
    refine oz_iload (q := 7) cx d_Parts_suffice_5 rfl 4 rfl ?_
    refine oz_aload_n (q := 8) cx d_Parts_suffice_7 rfl rfl 0 rfl ?_
    refine oz_get (q := 11) cx 56 0 (by decide) (ci := 7) rfl rfl tin_Parts (by decide) rfl rfl tw_206 d_Parts_suffice_8 rfl ?_
    refine oz_get (q := 14) cx 6 0 (by decide) (ci := 3) rfl rfl tin_Order (by decide) rfl rfl tw_70 d_Parts_suffice_11 rfl ?_
    refine oz_icmp_gt (q := 17) cx d_Parts_suffice_14 rfl rfl (fun h13 => ?_) (fun h13 => ?_)
    · exact oz_lv [0, 3] rfl (oz_leaf (fun h => h))
    · refine oz_aload_n (q := 18) cx d_Parts_suffice_17 rfl rfl 0 rfl ?_
      refine oz_iload_n (q := 19) cx d_Parts_suffice_18 rfl rfl 2 rfl ?_
      refine oz_aload_n (q := 20) cx d_Parts_suffice_19 rfl rfl 1 rfl ?_
      refine oz_get (q := 23) cx 45 2 (by decide) (ci := 5) rfl rfl tin_Held (by decide) rfl rfl tw_146 d_Parts_suffice_20 rfl ?_
      refine oz_iload_n (q := 24) cx d_Parts_suffice_23 rfl rfl 2 rfl ?_
      refine oz_aald (q := 25) cx 49 2 50 (by decide) rfl d_Parts_suffice_24 rfl (fun j2 hj2 => ?_)
      refine oz_iload (q := 27) cx d_Parts_suffice_25 rfl 4 rfl ?_
      refine oz_iald (q := 28) cx (50 + j2) 15 (oz_g49l (oz_lt hj2)) (oz_g49 (oz_lt hj2)) d_Parts_suffice_27 rfl (fun j3 hj3 => ?_)
      refine oz_cVv (q := 31) cx 56 [.int a1, .int (s1.2.2.1 (50 + j2) j3)] 2 7 hRm (by decide) (by decide) (fun _ _ h => c_Parts_split h) ⟨tw_737, tw_739, ts_21, tw_8⟩ tw_740 (by decide +kernel) rfl (by decide) rfl rfl (st := []) rfl (Nat.le_of_ble_eq_true rfl) d_Parts_suffice_28 rfl (fun v4 M5 hv4 => ?_)
      refine oz_iconst (q := 32) cx d_Parts_suffice_31 rfl (v := 1) rfl ?_
      refine oz_istore (q := 34) cx d_Parts_suffice_32 rfl (by rw [hnL]; decide) (lv2 := [(5, .int 1), (0, .ref (oz_b G + 56)), (1, .ref (oz_b G + 45)), (2, .int a1), (3, .int s1.1), (4, .int s1.2.1)]) rfl ?_
      refine oz_lv [1, 2, 3, 4, 5, 0] rfl ?_
      refine oz_seq (p2 := 79) (lv2 := fun (y12 : Int32 × Int32) => [(0, .ref (oz_b G + 56)), (1, .ref (oz_b G + 45)), (2, .int a1), (3, .int y12.1), (4, .int s1.2.1)]) (st2 := fun y12 => []) (M2 := fun y12 => M5) ?_ (fun y12 => ?_)
      · refine oz_loop (Y := Int32 × Int32) 34 (fun (s6 : Int32 × Int32) => [(0, .ref (oz_b G + 56)), (1, .ref (oz_b G + 45)), (2, .int a1), (3, .int s6.1), (4, .int s1.2.1), (5, .int s6.2)]) (fun (s6 : Int32 × Int32) => M5) (s1.1, 1) (fun s6 => ?_)
        refine oz_iload (q := 36) cx d_Parts_suffice_34 rfl 5 rfl ?_
        refine oz_aload_n (q := 37) cx d_Parts_suffice_36 rfl rfl 0 rfl ?_
        refine oz_get (q := 40) cx 56 0 (by decide) (ci := 7) rfl rfl tin_Parts (by decide) rfl rfl tw_206 d_Parts_suffice_37 rfl ?_
        refine oz_get (q := 43) cx 6 0 (by decide) (ci := 3) rfl rfl tin_Order (by decide) rfl rfl tw_70 d_Parts_suffice_40 rfl ?_
        refine oz_icmp_gt (q := 46) cx d_Parts_suffice_43 rfl rfl (fun h11 => ?_) (fun h11 => ?_)
        · exact oz_lv [0, 1, 2, 3, 4] rfl (oz_leaf (fun h => h))
        · refine oz_aload_n (q := 47) cx d_Parts_suffice_46 rfl rfl 0 rfl ?_
          refine oz_iload (q := 49) cx d_Parts_suffice_47 rfl 5 rfl ?_
          refine oz_cVip (q := 52) cx 56 [.int s6.2] 1 7 hRm (by decide) (by decide) (fun _ h => c_Parts_together h) ⟨tw_772, tw_774, ts_29, tw_8⟩ tw_775 (by decide +kernel) rfl (by decide) rfl rfl (st := []) rfl (Nat.le_of_ble_eq_true rfl) d_Parts_suffice_49 rfl (fun v7 hv7 => ?_)
          refine oz_aload_n (q := 53) cx d_Parts_suffice_52 rfl rfl 1 rfl ?_
          refine oz_get (q := 56) cx 45 1 (by decide) (ci := 5) rfl rfl tin_Held (by decide) rfl rfl tw_143 d_Parts_suffice_53 rfl ?_
          refine oz_iconst (q := 57) cx d_Parts_suffice_56 rfl (v := 1) rfl ?_
          refine oz_iload_n (q := 58) cx d_Parts_suffice_57 rfl rfl 2 rfl ?_
          refine oz_isub (q := 59) cx d_Parts_suffice_58 rfl ?_
          refine oz_aald (q := 60) cx 46 2 47 (by decide) rfl d_Parts_suffice_59 rfl (fun j8 hj8 => ?_)
          refine oz_iload (q := 62) cx d_Parts_suffice_60 rfl 5 rfl ?_
          refine oz_iald (q := 63) cx (47 + j8) 15 (oz_g46l (oz_lt hj8)) (oz_g46 (oz_lt hj8)) d_Parts_suffice_62 rfl (fun j9 hj9 => ?_)
          refine oz_icmp_ne (q := 66) cx d_Parts_suffice_63 rfl rfl (fun h10 => ?_) (fun h10 => ?_)
          · refine oz_iinc (q := 76) cx (s6.2 + 1) d_Parts_suffice_73 rfl 5 rfl rfl (by rw [hnL]; decide) (lv2 := [(5, .int (s6.2 + 1)), (0, .ref (oz_b G + 56)), (1, .ref (oz_b G + 45)), (2, .int a1), (3, .int s6.1), (4, .int s1.2.1)]) rfl ?_
            refine oz_goto cx d_Parts_suffice_76 rfl ?_
            exact oz_lv [1, 2, 3, 4, 5, 0] rfl (oz_leaf (fun h => h))
          · refine oz_iload_n (q := 67) cx d_Parts_suffice_66 rfl rfl 3 rfl ?_
            refine oz_iconst (q := 68) cx d_Parts_suffice_67 rfl (v := 1) rfl ?_
            refine oz_iload (q := 70) cx d_Parts_suffice_68 rfl 5 rfl ?_
            refine oz_ishl (q := 71) cx d_Parts_suffice_70 rfl ?_
            refine oz_ior (q := 72) cx d_Parts_suffice_71 rfl ?_
            refine oz_istore_n (q := 73) cx d_Parts_suffice_72 rfl rfl (by rw [hnL]; decide) (lv2 := [(3, .int (s6.1 ||| (1 <<< (s6.2 &&& 31)))), (0, .ref (oz_b G + 56)), (1, .ref (oz_b G + 45)), (2, .int a1), (4, .int s1.2.1), (5, .int s6.2)]) rfl ?_
            refine oz_iinc (q := 76) cx (s6.2 + 1) d_Parts_suffice_73 rfl 5 rfl rfl (by rw [hnL]; decide) (lv2 := [(5, .int (s6.2 + 1)), (3, .int (s6.1 ||| (1 <<< (s6.2 &&& 31)))), (0, .ref (oz_b G + 56)), (1, .ref (oz_b G + 45)), (2, .int a1), (4, .int s1.2.1)]) rfl ?_
            refine oz_goto cx d_Parts_suffice_76 rfl ?_
            exact oz_lv [2, 3, 4, 1, 5, 0] rfl (oz_leaf (fun h => h))
      · refine oz_iinc (q := 82) cx (s1.2.1 + 1) d_Parts_suffice_79 rfl 4 rfl rfl (by rw [hnL]; decide) (lv2 := [(4, .int (s1.2.1 + 1)), (0, .ref (oz_b G + 56)), (1, .ref (oz_b G + 45)), (2, .int a1), (3, .int y12.1)]) rfl ?_
        refine oz_goto cx d_Parts_suffice_82 rfl ?_
        exact oz_lv [1, 2, 3, 4, 0] rfl (oz_leaf (fun h => h))
  · refine oz_iload_n (q := 86) cx d_Parts_suffice_85 rfl rfl 1 rfl ?_
    refine oz_aload_n (q := 87) cx d_Parts_suffice_86 rfl rfl 0 rfl ?_
    refine oz_get (q := 90) cx 56 0 (by decide) (ci := 7) rfl rfl tin_Parts (by decide) rfl rfl tw_206 d_Parts_suffice_87 rfl ?_
    refine oz_cVip (q := 93) cx 6 [] 0 3 hRm (by decide) (by decide) (fun _ h => c_Order_everything h) ⟨tw_779, tw_301, tw_302, tw_4⟩ tw_303 (by decide +kernel) rfl (by decide) rfl rfl (st := [.int y14.1]) rfl (Nat.le_of_ble_eq_true rfl) d_Parts_suffice_90 rfl (fun v15 hv15 => ?_)
    refine oz_iconst (q := 94) cx d_Parts_suffice_93 rfl (v := 1) rfl ?_
    refine oz_ishl (q := 95) cx d_Parts_suffice_94 rfl ?_
    refine oz_icmp_ne (q := 98) cx d_Parts_suffice_95 rfl rfl (fun h16 => ?_) (fun h16 => ?_)
    · refine oz_iconst (q := 103) cx d_Parts_suffice_102 rfl (v := 0) rfl ?_
      exact oz_zret cx hR d_Parts_suffice_103
    · refine oz_iconst (q := 99) cx d_Parts_suffice_98 rfl (v := 1) rfl ?_
      refine oz_goto cx d_Parts_suffice_99 rfl ?_
      exact oz_zret cx hR d_Parts_suffice_103
def y_Hall_adopt : MethodName := ⟨"OrderHall", "adopt", "()V"⟩
theorem d_Hall_adopt_0 : decode prog_1_method_30_code 0 = .ok (.aload_n 0, 1) := by decide +kernel
theorem d_Hall_adopt_1 : decode prog_1_method_30_code 1 = .ok (.getfield 26, 3) := by decide +kernel
theorem d_Hall_adopt_4 : decode prog_1_method_30_code 4 = .ok (.aload_n 0, 1) := by decide +kernel
theorem d_Hall_adopt_5 : decode prog_1_method_30_code 5 = .ok (.getfield 10, 3) := by decide +kernel
theorem d_Hall_adopt_8 : decode prog_1_method_30_code 8 = .ok (.invokevirtual 237, 3) := by decide +kernel
theorem d_Hall_adopt_11 : decode prog_1_method_30_code 11 = .ok (.aload_n 0, 1) := by decide +kernel
theorem d_Hall_adopt_12 : decode prog_1_method_30_code 12 = .ok (.getfield 42, 3) := by decide +kernel
theorem d_Hall_adopt_15 : decode prog_1_method_30_code 15 = .ok (.iconst 0, 1) := by decide +kernel
theorem d_Hall_adopt_16 : decode prog_1_method_30_code 16 = .ok (.putfield 240, 3) := by decide +kernel
theorem d_Hall_adopt_19 : decode prog_1_method_30_code 19 = .ok (.aload_n 0, 1) := by decide +kernel
theorem d_Hall_adopt_20 : decode prog_1_method_30_code 20 = .ok (.getfield 49, 3) := by decide +kernel
theorem d_Hall_adopt_23 : decode prog_1_method_30_code 23 = .ok (.iconst 0, 1) := by decide +kernel
theorem d_Hall_adopt_24 : decode prog_1_method_30_code 24 = .ok (.putfield 243, 3) := by decide +kernel
theorem d_Hall_adopt_27 : decode prog_1_method_30_code 27 = .ok (.aload_n 0, 1) := by decide +kernel
theorem d_Hall_adopt_28 : decode prog_1_method_30_code 28 = .ok (.iconst 1, 1) := by decide +kernel
theorem d_Hall_adopt_29 : decode prog_1_method_30_code 29 = .ok (.putfield 222, 3) := by decide +kernel
theorem d_Hall_adopt_32 : decode prog_1_method_30_code 32 = .ok (.return_, 1) := by decide +kernel
noncomputable def f_Hall_adopt (M : oz_M) : Option (Unit × oz_M) := oz_b2 (f_Order_learn M) fun v1 M2 => (some (oz_s M2 45 0 0)).bind fun M3 => (some (oz_s M3 53 0 0)).bind fun M4 => (some (oz_s M4 0 7 1)).bind fun M5 => some ((), M5)
set_option maxRecDepth 20000 in
set_option maxHeartbeats 4000000 in
theorem c_Hall_adopt {l : Launch} {D : va_G} {cs : Nat → ClassId} {b : Nat} {M : oz_M} {vz : Unit} {Mz : oz_M} (hF : f_Hall_adopt M = some (vz, Mz)) : oz_Met l D cs b y_Hall_adopt prog_1_method_30_code 1 none (oz_rm 4) [.ref (b + 0)] M (none) Mz := by
  refine oz_enter (by decide) (Nat.le_of_ble_eq_true rfl) (fun G cx hR e1 hRm e2 e3 e4 hnL => ?_)
  subst e1; subst e2; subst e3; subst e4
  refine (?_ : oz_R G 0 [(0, .ref (oz_b G + 0))] [] M (f_Hall_adopt  M) (fun x => x = (vz, Mz))) _ hF rfl
  unfold f_Hall_adopt
  refine oz_aload_n (q := 1) cx d_Hall_adopt_0 rfl rfl 0 rfl ?_
  refine oz_get (q := 4) cx 0 2 (by decide) (ci := 0) rfl rfl tin_Hall (by decide) rfl rfl tw_230 d_Hall_adopt_1 rfl ?_
  refine oz_aload_n (q := 5) cx d_Hall_adopt_4 rfl rfl 0 rfl ?_
  refine oz_get (q := 8) cx 0 0 (by decide) (ci := 0) rfl rfl tin_Hall (by decide) rfl rfl tw_228 d_Hall_adopt_5 rfl ?_
  refine oz_cVv (q := 11) cx 6 [.ref (oz_b G + 1)] 1 3 hRm (by decide) (by decide) (fun _ _ h => c_Order_learn h) ⟨tw_287, tw_288, tw_289, tw_4⟩ tw_290 (by decide +kernel) rfl (by decide) rfl rfl (st := []) rfl (Nat.le_of_ble_eq_true rfl) d_Hall_adopt_8 rfl (fun v1 M2 hv1 => ?_)
  refine oz_aload_n (q := 12) cx d_Hall_adopt_11 rfl rfl 0 rfl ?_
  refine oz_get (q := 15) cx 0 4 (by decide) (ci := 0) rfl rfl tin_Hall (by decide) rfl rfl tw_232 d_Hall_adopt_12 rfl ?_
  refine oz_iconst (q := 16) cx d_Hall_adopt_15 rfl (v := 0) rfl ?_
  refine oz_put (q := 19) cx 45 0 (by decide) (ci := 5) rfl rfl rfl tin_Held t_Held t_Held_ok n_Held (by decide) (Nat.le_of_ble_eq_true rfl) rfl tw_141 rfl rfl rfl d_Hall_adopt_16 rfl ?_
  refine oz_nm (fun M3 hM3 => ?_)
  refine oz_aload_n (q := 20) cx d_Hall_adopt_19 rfl rfl 0 rfl ?_
  refine oz_get (q := 23) cx 0 5 (by decide) (ci := 0) rfl rfl tin_Hall (by decide) rfl rfl tw_233 d_Hall_adopt_20 rfl ?_
  refine oz_iconst (q := 24) cx d_Hall_adopt_23 rfl (v := 0) rfl ?_
  refine oz_put (q := 27) cx 53 0 (by decide) (ci := 6) rfl rfl rfl tin_Line t_Line t_Line_ok n_Line (by decide) (Nat.le_of_ble_eq_true rfl) rfl tw_181 rfl rfl rfl d_Hall_adopt_24 rfl ?_
  refine oz_nm (fun M4 hM4 => ?_)
  refine oz_aload_n (q := 28) cx d_Hall_adopt_27 rfl rfl 0 rfl ?_
  refine oz_iconst (q := 29) cx d_Hall_adopt_28 rfl (v := 1) rfl ?_
  refine oz_put (q := 32) cx 0 7 (by decide) (ci := 0) rfl rfl rfl tin_Hall t_Hall t_Hall_ok n_Hall (by decide) (Nat.le_of_ble_eq_true rfl) rfl tw_235 rfl rfl rfl d_Hall_adopt_29 rfl ?_
  refine oz_nm (fun M5 hM5 => ?_)
  exact oz_vret cx hR d_Hall_adopt_32
def y_Model_antichain : MethodName := ⟨"OrderHallModel", "antichain", "(I)I"⟩
theorem d_Model_antichain_0 : decode prog_10_method_30_code 0 = .ok (.aload_n 0, 1) := by decide +kernel
theorem d_Model_antichain_1 : decode prog_10_method_30_code 1 = .ok (.aload_n 0, 1) := by decide +kernel
theorem d_Model_antichain_2 : decode prog_10_method_30_code 2 = .ok (.getfield 53, 3) := by decide +kernel
theorem d_Model_antichain_5 : decode prog_10_method_30_code 5 = .ok (.ifCond .ne 7, 3) := by decide +kernel
theorem d_Model_antichain_8 : decode prog_10_method_30_code 8 = .ok (.iconst 1, 1) := by decide +kernel
theorem d_Model_antichain_9 : decode prog_10_method_30_code 9 = .ok (.goto 17, 3) := by decide +kernel
theorem d_Model_antichain_12 : decode prog_10_method_30_code 12 = .ok (.iload_n 1, 1) := by decide +kernel
theorem d_Model_antichain_13 : decode prog_10_method_30_code 13 = .ok (.ifCond .lt 8, 3) := by decide +kernel
theorem d_Model_antichain_16 : decode prog_10_method_30_code 16 = .ok (.iload_n 1, 1) := by decide +kernel
theorem d_Model_antichain_17 : decode prog_10_method_30_code 17 = .ok (.iconst 1, 1) := by decide +kernel
theorem d_Model_antichain_18 : decode prog_10_method_30_code 18 = .ok (.if_icmp .le 7, 3) := by decide +kernel
theorem d_Model_antichain_21 : decode prog_10_method_30_code 21 = .ok (.iconst 2, 1) := by decide +kernel
theorem d_Model_antichain_22 : decode prog_10_method_30_code 22 = .ok (.goto 4, 3) := by decide +kernel
theorem d_Model_antichain_25 : decode prog_10_method_30_code 25 = .ok (.iconst 0, 1) := by decide +kernel
theorem d_Model_antichain_26 : decode prog_10_method_30_code 26 = .ok (.putfield 50, 3) := by decide +kernel
theorem d_Model_antichain_29 : decode prog_10_method_30_code 29 = .ok (.aload_n 0, 1) := by decide +kernel
theorem d_Model_antichain_30 : decode prog_10_method_30_code 30 = .ok (.getfield 50, 3) := by decide +kernel
theorem d_Model_antichain_33 : decode prog_10_method_30_code 33 = .ok (.ifCond .le 5, 3) := by decide +kernel
theorem d_Model_antichain_36 : decode prog_10_method_30_code 36 = .ok (.iconst 0, 1) := by decide +kernel
theorem d_Model_antichain_37 : decode prog_10_method_30_code 37 = .ok (.ireturn, 1) := by decide +kernel
theorem d_Model_antichain_38 : decode prog_10_method_30_code 38 = .ok (.aload_n 0, 1) := by decide +kernel
theorem d_Model_antichain_39 : decode prog_10_method_30_code 39 = .ok (.invokevirtual 115, 3) := by decide +kernel
theorem d_Model_antichain_42 : decode prog_10_method_30_code 42 = .ok (.iconst 1, 1) := by decide +kernel
theorem d_Model_antichain_43 : decode prog_10_method_30_code 43 = .ok (.aload_n 0, 1) := by decide +kernel
theorem d_Model_antichain_44 : decode prog_10_method_30_code 44 = .ok (.getfield 7, 3) := by decide +kernel
theorem d_Model_antichain_47 : decode prog_10_method_30_code 47 = .ok (.ishl, 1) := by decide +kernel
theorem d_Model_antichain_48 : decode prog_10_method_30_code 48 = .ok (.iconst 1, 1) := by decide +kernel
theorem d_Model_antichain_49 : decode prog_10_method_30_code 49 = .ok (.isub, 1) := by decide +kernel
theorem d_Model_antichain_50 : decode prog_10_method_30_code 50 = .ok (.istore_n 2, 1) := by decide +kernel
theorem d_Model_antichain_51 : decode prog_10_method_30_code 51 = .ok (.iconst (-1), 1) := by decide +kernel
theorem d_Model_antichain_52 : decode prog_10_method_30_code 52 = .ok (.istore_n 3, 1) := by decide +kernel
theorem d_Model_antichain_53 : decode prog_10_method_30_code 53 = .ok (.iconst 0, 1) := by decide +kernel
theorem d_Model_antichain_54 : decode prog_10_method_30_code 54 = .ok (.istore 4, 2) := by decide +kernel
theorem d_Model_antichain_56 : decode prog_10_method_30_code 56 = .ok (.iload 4, 2) := by decide +kernel
theorem d_Model_antichain_58 : decode prog_10_method_30_code 58 = .ok (.iload_n 2, 1) := by decide +kernel
theorem d_Model_antichain_59 : decode prog_10_method_30_code 59 = .ok (.if_icmp .gt 59, 3) := by decide +kernel
theorem d_Model_antichain_62 : decode prog_10_method_30_code 62 = .ok (.iload 4, 2) := by decide +kernel
theorem d_Model_antichain_64 : decode prog_10_method_30_code 64 = .ok (.invokestatic 103, 3) := by decide +kernel
theorem d_Model_antichain_67 : decode prog_10_method_30_code 67 = .ok (.aload_n 0, 1) := by decide +kernel
theorem d_Model_antichain_68 : decode prog_10_method_30_code 68 = .ok (.getfield 28, 3) := by decide +kernel
theorem d_Model_antichain_71 : decode prog_10_method_30_code 71 = .ok (.iload_n 2, 1) := by decide +kernel
theorem d_Model_antichain_72 : decode prog_10_method_30_code 72 = .ok (.baload, 1) := by decide +kernel
theorem d_Model_antichain_73 : decode prog_10_method_30_code 73 = .ok (.if_icmp .ne 39, 3) := by decide +kernel
theorem d_Model_antichain_76 : decode prog_10_method_30_code 76 = .ok (.aload_n 0, 1) := by decide +kernel
theorem d_Model_antichain_77 : decode prog_10_method_30_code 77 = .ok (.iload 4, 2) := by decide +kernel
theorem d_Model_antichain_79 : decode prog_10_method_30_code 79 = .ok (.invokevirtual 109, 3) := by decide +kernel
theorem d_Model_antichain_82 : decode prog_10_method_30_code 82 = .ok (.ifCond .eq 30, 3) := by decide +kernel
theorem d_Model_antichain_85 : decode prog_10_method_30_code 85 = .ok (.iload_n 3, 1) := by decide +kernel
theorem d_Model_antichain_86 : decode prog_10_method_30_code 86 = .ok (.ifCond .lt 23, 3) := by decide +kernel
theorem d_Model_antichain_89 : decode prog_10_method_30_code 89 = .ok (.aload_n 0, 1) := by decide +kernel
theorem d_Model_antichain_90 : decode prog_10_method_30_code 90 = .ok (.iload_n 3, 1) := by decide +kernel
theorem d_Model_antichain_91 : decode prog_10_method_30_code 91 = .ok (.iload 4, 2) := by decide +kernel
theorem d_Model_antichain_93 : decode prog_10_method_30_code 93 = .ok (.iload_n 1, 1) := by decide +kernel
theorem d_Model_antichain_94 : decode prog_10_method_30_code 94 = .ok (.iconst 1, 1) := by decide +kernel
theorem d_Model_antichain_95 : decode prog_10_method_30_code 95 = .ok (.if_icmp .ne 7, 3) := by decide +kernel
theorem d_Model_antichain_98 : decode prog_10_method_30_code 98 = .ok (.iconst 1, 1) := by decide +kernel
theorem d_Model_antichain_99 : decode prog_10_method_30_code 99 = .ok (.goto 4, 3) := by decide +kernel
theorem d_Model_antichain_102 : decode prog_10_method_30_code 102 = .ok (.iconst 0, 1) := by decide +kernel
theorem d_Model_antichain_103 : decode prog_10_method_30_code 103 = .ok (.invokevirtual 121, 3) := by decide +kernel
theorem d_Model_antichain_106 : decode prog_10_method_30_code 106 = .ok (.ifCond .eq 6, 3) := by decide +kernel
theorem d_Model_antichain_109 : decode prog_10_method_30_code 109 = .ok (.iload 4, 2) := by decide +kernel
theorem d_Model_antichain_111 : decode prog_10_method_30_code 111 = .ok (.istore_n 3, 1) := by decide +kernel
theorem d_Model_antichain_112 : decode prog_10_method_30_code 112 = .ok (.iinc 4 1, 3) := by decide +kernel
theorem d_Model_antichain_115 : decode prog_10_method_30_code 115 = .ok (.goto (-59), 3) := by decide +kernel
theorem d_Model_antichain_118 : decode prog_10_method_30_code 118 = .ok (.iload_n 3, 1) := by decide +kernel
theorem d_Model_antichain_119 : decode prog_10_method_30_code 119 = .ok (.ireturn, 1) := by decide +kernel
noncomputable def f_Model_antichain (a0 : Int32) (M : oz_M) : Option (Int32 × oz_M) := (if (M.1 62 2) = 0 then (some 1) else (if a0 < 0 then (some 2) else (if 1 < a0 then (some 2) else (some 0)))).bind fun (z1 : Int32) => (some (oz_s M 62 0 z1)).bind fun M5 => if 0 < (M5.1 62 0) then (some (0, M5)) else (oz_b2 (f_Model_know M5) fun v6 M7 => (oz_lp (fun (s8 : Int32 × Int32) => (if ((1 <<< ((M7.1 62 1) &&& 31)) - 1) < s8.2 then (some (.inr (s8.1, s8.2))) else ((f_Model_sizeOf s8.2 M7).bind fun v9 => (oz_in ((1 <<< ((M7.1 62 1) &&& 31)) - 1) 16384).bind fun j10 => if v9 = (M7.1 67 j10) then ((f_Model_isAntichain s8.2 M7).bind fun v11 => if v11 = 0 then (some (.inl (s8.1, s8.2 + 1))) else (if s8.1 < 0 then (some (.inl (s8.2, s8.2 + 1))) else ((if a0 = 1 then (some 1) else (some 0)).bind fun (z12 : Int32) => (f_Model_isUnder s8.1 s8.2 z12 M7).bind fun v14 => if v14 = 0 then (some (.inl (s8.1, s8.2 + 1))) else (some (.inl (s8.2, s8.2 + 1)))))) else (some (.inl (s8.1, s8.2 + 1)))) : Option ((Int32 × Int32) ⊕ (Int32 × Int32)))) ((-1), 0)).bind fun (y20 : Int32 × Int32) => some (y20.1, M7))
set_option maxRecDepth 20000 in
set_option maxHeartbeats 4000000 in
theorem c_Model_antichain {l : Launch} {D : va_G} {cs : Nat → ClassId} {b : Nat} {a0 : Int32} {M : oz_M} {vz : Int32} {Mz : oz_M} (hF : f_Model_antichain a0 M = some (vz, Mz)) : oz_Met l D cs b y_Model_antichain prog_10_method_30_code 5 (some .int) (oz_rm 4) [.ref (b + 62), .int a0] M (some (.int vz)) Mz := by
  refine oz_enter (by decide) (Nat.le_of_ble_eq_true rfl) (fun G cx hR e1 hRm e2 e3 e4 hnL => ?_)
  subst e1; subst e2; subst e3; subst e4
  refine (?_ : oz_R G 0 [(0, .ref (oz_b G + 62)), (1, .int a0)] [] M (f_Model_antichain a0 M) (fun x => x = (vz, Mz))) _ hF rfl
  unfold f_Model_antichain
  refine oz_aload_n (q := 1) cx d_Model_antichain_0 rfl rfl 0 rfl ?_
  refine oz_aload_n (q := 2) cx d_Model_antichain_1 rfl rfl 0 rfl ?_
  refine oz_get (q := 5) cx 62 2 (by decide) (ci := 8) rfl rfl tin_Model (by decide) rfl rfl tw_788 d_Model_antichain_2 rfl ?_
  refine oz_seq (p2 := 26) (lv2 := fun (z1 : Int32) => [(0, .ref (oz_b G + 62)), (1, .int a0)]) (st2 := fun z1 => [.int z1, .ref (oz_b G + 62)]) (M2 := fun z1 => M) ?_ (fun z1 => ?_)
  · refine oz_if_ne (q := 8) cx d_Model_antichain_5 rfl rfl (fun h4 => ?_) (fun h4 => ?_)
    · refine oz_iload_n (q := 13) cx d_Model_antichain_12 rfl rfl 1 rfl ?_
      refine oz_if_lt (q := 16) cx d_Model_antichain_13 rfl rfl (fun h3 => ?_) (fun h3 => ?_)
      · refine oz_iconst (q := 22) cx d_Model_antichain_21 rfl (v := 2) rfl ?_
        refine oz_goto cx d_Model_antichain_22 rfl ?_
        exact oz_lv [0, 1] rfl (oz_leaf (fun h => h))
      · refine oz_iload_n (q := 17) cx d_Model_antichain_16 rfl rfl 1 rfl ?_
        refine oz_iconst (q := 18) cx d_Model_antichain_17 rfl (v := 1) rfl ?_
        refine oz_icmp_le (q := 21) cx d_Model_antichain_18 rfl rfl (fun h2 => ?_) (fun h2 => ?_)
        · refine oz_iconst (q := 26) cx d_Model_antichain_25 rfl (v := 0) rfl ?_
          exact oz_lv [0, 1] rfl (oz_leaf (fun h => h))
        · refine oz_iconst (q := 22) cx d_Model_antichain_21 rfl (v := 2) rfl ?_
          refine oz_goto cx d_Model_antichain_22 rfl ?_
          exact oz_lv [0, 1] rfl (oz_leaf (fun h => h))
    · refine oz_iconst (q := 9) cx d_Model_antichain_8 rfl (v := 1) rfl ?_
      refine oz_goto cx d_Model_antichain_9 rfl ?_
      exact oz_lv [0, 1] rfl (oz_leaf (fun h => h))
  · refine oz_put (q := 29) cx 62 0 (by decide) (ci := 8) rfl rfl rfl tin_Model t_Model t_Model_ok n_Model (by decide) (Nat.le_of_ble_eq_true rfl) rfl tw_786 rfl rfl rfl d_Model_antichain_26 rfl ?_
    refine oz_nm (fun M5 hM5 => ?_)
    refine oz_aload_n (q := 30) cx d_Model_antichain_29 rfl rfl 0 rfl ?_
    refine oz_get (q := 33) cx 62 0 (by decide) (ci := 8) rfl rfl tin_Model (by decide) rfl rfl tw_786 d_Model_antichain_30 rfl ?_
    refine oz_if_le (q := 36) cx d_Model_antichain_33 rfl rfl (fun h21 => ?_) (fun h21 => ?_)
    · refine oz_aload_n (q := 39) cx d_Model_antichain_38 rfl rfl 0 rfl ?_
      refine oz_cVv (q := 42) cx 62 [] 0 8 hRm (by decide) (by decide) (fun _ _ h => c_Model_know h) ⟨tw_915, tw_917, ts_40, tw_9⟩ tw_918 (by decide +kernel) rfl (by decide) rfl rfl (st := []) rfl (Nat.le_of_ble_eq_true rfl) d_Model_antichain_39 rfl (fun v6 M7 hv6 => ?_)
      refine oz_iconst (q := 43) cx d_Model_antichain_42 rfl (v := 1) rfl ?_
      refine oz_aload_n (q := 44) cx d_Model_antichain_43 rfl rfl 0 rfl ?_
      refine oz_get (q := 47) cx 62 1 (by decide) (ci := 8) rfl rfl tin_Model (by decide) rfl rfl tw_787 d_Model_antichain_44 rfl ?_
      refine oz_ishl (q := 48) cx d_Model_antichain_47 rfl ?_
      refine oz_iconst (q := 49) cx d_Model_antichain_48 rfl (v := 1) rfl ?_
      refine oz_isub (q := 50) cx d_Model_antichain_49 rfl ?_
      refine oz_istore_n (q := 51) cx d_Model_antichain_50 rfl rfl (by rw [hnL]; decide) (lv2 := [(2, .int ((1 <<< ((M7.1 62 1) &&& 31)) - 1)), (0, .ref (oz_b G + 62)), (1, .int a0)]) rfl ?_
      refine oz_iconst (q := 52) cx d_Model_antichain_51 rfl (v := (-1)) rfl ?_
      refine oz_istore_n (q := 53) cx d_Model_antichain_52 rfl rfl (by rw [hnL]; decide) (lv2 := [(3, .int (-1)), (2, .int ((1 <<< ((M7.1 62 1) &&& 31)) - 1)), (0, .ref (oz_b G + 62)), (1, .int a0)]) rfl ?_
      refine oz_iconst (q := 54) cx d_Model_antichain_53 rfl (v := 0) rfl ?_
      refine oz_istore (q := 56) cx d_Model_antichain_54 rfl (by rw [hnL]; decide) (lv2 := [(4, .int 0), (3, .int (-1)), (2, .int ((1 <<< ((M7.1 62 1) &&& 31)) - 1)), (0, .ref (oz_b G + 62)), (1, .int a0)]) rfl ?_
      refine oz_lv [3, 4, 2, 1, 0] rfl ?_
      refine oz_seq (p2 := 118) (lv2 := fun (y20 : Int32 × Int32) => [(3, .int y20.1)]) (st2 := fun y20 => []) (M2 := fun y20 => M7) ?_ (fun y20 => ?_)
      · refine oz_loop (Y := Int32 × Int32) 56 (fun (s8 : Int32 × Int32) => [(0, .ref (oz_b G + 62)), (1, .int a0), (2, .int ((1 <<< ((M7.1 62 1) &&& 31)) - 1)), (3, .int s8.1), (4, .int s8.2)]) (fun (s8 : Int32 × Int32) => M7) ((-1), 0) (fun s8 => ?_)
        refine oz_iload (q := 58) cx d_Model_antichain_56 rfl 4 rfl ?_
        refine oz_iload_n (q := 59) cx d_Model_antichain_58 rfl rfl 2 rfl ?_
        refine oz_icmp_gt (q := 62) cx d_Model_antichain_59 rfl rfl (fun h19 => ?_) (fun h19 => ?_)
        · exact oz_lv [3] rfl (oz_leaf (fun h => h))
        · refine oz_iload (q := 64) cx d_Model_antichain_62 rfl 4 rfl ?_
          refine oz_cSip (q := 67) cx [.int s8.2] 1 hRm (by decide) (by decide) (fun _ h => c_Model_sizeOf h) ⟨tw_919, tw_920, tw_9⟩ tw_921 (by decide +kernel) rfl (st := []) rfl (Nat.le_of_ble_eq_true rfl) d_Model_antichain_64 rfl (fun v9 hv9 => ?_)
          refine oz_aload_n (q := 68) cx d_Model_antichain_67 rfl rfl 0 rfl ?_
          refine oz_get (q := 71) cx 62 8 (by decide) (ci := 8) rfl rfl tin_Model (by decide) rfl rfl tw_794 d_Model_antichain_68 rfl ?_
          refine oz_iload_n (q := 72) cx d_Model_antichain_71 rfl rfl 2 rfl ?_
          refine oz_bald (q := 73) cx 67 16384 (by decide) rfl d_Model_antichain_72 rfl (fun j10 hj10 => ?_)
          refine oz_icmp_ne (q := 76) cx d_Model_antichain_73 rfl rfl (fun h18 => ?_) (fun h18 => ?_)
          · refine oz_iinc (q := 115) cx (s8.2 + 1) d_Model_antichain_112 rfl 4 rfl rfl (by rw [hnL]; decide) (lv2 := [(4, .int (s8.2 + 1)), (0, .ref (oz_b G + 62)), (1, .int a0), (2, .int ((1 <<< ((M7.1 62 1) &&& 31)) - 1)), (3, .int s8.1)]) rfl ?_
            refine oz_goto cx d_Model_antichain_115 rfl ?_
            exact oz_lv [1, 2, 3, 4, 0] rfl (oz_leaf (fun h => h))
          · refine oz_aload_n (q := 77) cx d_Model_antichain_76 rfl rfl 0 rfl ?_
            refine oz_iload (q := 79) cx d_Model_antichain_77 rfl 4 rfl ?_
            refine oz_cVip (q := 82) cx 62 [.int s8.2] 1 8 hRm (by decide) (by decide) (fun _ h => c_Model_isAntichain h) ⟨tw_929, tw_931, ts_42, tw_9⟩ tw_932 (by decide +kernel) rfl (by decide) rfl rfl (st := []) rfl (Nat.le_of_ble_eq_true rfl) d_Model_antichain_79 rfl (fun v11 hv11 => ?_)
            refine oz_if_eq (q := 85) cx d_Model_antichain_82 rfl rfl (fun h17 => ?_) (fun h17 => ?_)
            · refine oz_iinc (q := 115) cx (s8.2 + 1) d_Model_antichain_112 rfl 4 rfl rfl (by rw [hnL]; decide) (lv2 := [(4, .int (s8.2 + 1)), (0, .ref (oz_b G + 62)), (1, .int a0), (2, .int ((1 <<< ((M7.1 62 1) &&& 31)) - 1)), (3, .int s8.1)]) rfl ?_
              refine oz_goto cx d_Model_antichain_115 rfl ?_
              exact oz_lv [1, 2, 3, 4, 0] rfl (oz_leaf (fun h => h))
            · refine oz_iload_n (q := 86) cx d_Model_antichain_85 rfl rfl 3 rfl ?_
              refine oz_if_lt (q := 89) cx d_Model_antichain_86 rfl rfl (fun h16 => ?_) (fun h16 => ?_)
              · refine oz_iload (q := 111) cx d_Model_antichain_109 rfl 4 rfl ?_
                refine oz_istore_n (q := 112) cx d_Model_antichain_111 rfl rfl (by rw [hnL]; decide) (lv2 := [(3, .int s8.2), (0, .ref (oz_b G + 62)), (1, .int a0), (2, .int ((1 <<< ((M7.1 62 1) &&& 31)) - 1)), (4, .int s8.2)]) rfl ?_
                refine oz_iinc (q := 115) cx (s8.2 + 1) d_Model_antichain_112 rfl 4 rfl rfl (by rw [hnL]; decide) (lv2 := [(4, .int (s8.2 + 1)), (3, .int s8.2), (0, .ref (oz_b G + 62)), (1, .int a0), (2, .int ((1 <<< ((M7.1 62 1) &&& 31)) - 1))]) rfl ?_
                refine oz_goto cx d_Model_antichain_115 rfl ?_
                exact oz_lv [2, 3, 4, 1, 0] rfl (oz_leaf (fun h => h))
              · refine oz_aload_n (q := 90) cx d_Model_antichain_89 rfl rfl 0 rfl ?_
                refine oz_iload_n (q := 91) cx d_Model_antichain_90 rfl rfl 3 rfl ?_
                refine oz_iload (q := 93) cx d_Model_antichain_91 rfl 4 rfl ?_
                refine oz_iload_n (q := 94) cx d_Model_antichain_93 rfl rfl 1 rfl ?_
                refine oz_iconst (q := 95) cx d_Model_antichain_94 rfl (v := 1) rfl ?_
                refine oz_seq (p2 := 103) (lv2 := fun (z12 : Int32) => [(0, .ref (oz_b G + 62)), (1, .int a0), (2, .int ((1 <<< ((M7.1 62 1) &&& 31)) - 1)), (3, .int s8.1), (4, .int s8.2)]) (st2 := fun z12 => [.int z12, .int s8.2, .int s8.1, .ref (oz_b G + 62)]) (M2 := fun z12 => M7) ?_ (fun z12 => ?_)
                · refine oz_icmp_ne (q := 98) cx d_Model_antichain_95 rfl rfl (fun h13 => ?_) (fun h13 => ?_)
                  · refine oz_iconst (q := 103) cx d_Model_antichain_102 rfl (v := 0) rfl ?_
                    exact oz_lv [0, 1, 2, 3, 4] rfl (oz_leaf (fun h => h))
                  · refine oz_iconst (q := 99) cx d_Model_antichain_98 rfl (v := 1) rfl ?_
                    refine oz_goto cx d_Model_antichain_99 rfl ?_
                    exact oz_lv [0, 1, 2, 3, 4] rfl (oz_leaf (fun h => h))
                · refine oz_cVip (q := 106) cx 62 [.int s8.1, .int s8.2, .int z12] 3 8 hRm (by decide) (by decide) (fun _ h => c_Model_isUnder h) ⟨tw_949, tw_951, ts_45, tw_9⟩ tw_952 (by decide +kernel) rfl (by decide) rfl rfl (st := []) rfl (Nat.le_of_ble_eq_true rfl) d_Model_antichain_103 rfl (fun v14 hv14 => ?_)
                  refine oz_if_eq (q := 109) cx d_Model_antichain_106 rfl rfl (fun h15 => ?_) (fun h15 => ?_)
                  · refine oz_iinc (q := 115) cx (s8.2 + 1) d_Model_antichain_112 rfl 4 rfl rfl (by rw [hnL]; decide) (lv2 := [(4, .int (s8.2 + 1)), (0, .ref (oz_b G + 62)), (1, .int a0), (2, .int ((1 <<< ((M7.1 62 1) &&& 31)) - 1)), (3, .int s8.1)]) rfl ?_
                    refine oz_goto cx d_Model_antichain_115 rfl ?_
                    exact oz_lv [1, 2, 3, 4, 0] rfl (oz_leaf (fun h => h))
                  · refine oz_iload (q := 111) cx d_Model_antichain_109 rfl 4 rfl ?_
                    refine oz_istore_n (q := 112) cx d_Model_antichain_111 rfl rfl (by rw [hnL]; decide) (lv2 := [(3, .int s8.2), (0, .ref (oz_b G + 62)), (1, .int a0), (2, .int ((1 <<< ((M7.1 62 1) &&& 31)) - 1)), (4, .int s8.2)]) rfl ?_
                    refine oz_iinc (q := 115) cx (s8.2 + 1) d_Model_antichain_112 rfl 4 rfl rfl (by rw [hnL]; decide) (lv2 := [(4, .int (s8.2 + 1)), (3, .int s8.2), (0, .ref (oz_b G + 62)), (1, .int a0), (2, .int ((1 <<< ((M7.1 62 1) &&& 31)) - 1))]) rfl ?_
                    refine oz_goto cx d_Model_antichain_115 rfl ?_
                    exact oz_lv [2, 3, 4, 1, 0] rfl (oz_leaf (fun h => h))
      · refine oz_iload_n (q := 119) cx d_Model_antichain_118 rfl rfl 0 rfl ?_
        exact oz_iret cx hR d_Model_antichain_119
    · refine oz_iconst (q := 37) cx d_Model_antichain_36 rfl (v := 0) rfl ?_
      exact oz_iret cx hR d_Model_antichain_37
def y_Model_bound : MethodName := ⟨"OrderHallModel", "bound", "(III)I"⟩
theorem d_Model_bound_0 : decode prog_10_method_45_code 0 = .ok (.aload_n 0, 1) := by decide +kernel
theorem d_Model_bound_1 : decode prog_10_method_45_code 1 = .ok (.aload_n 0, 1) := by decide +kernel
theorem d_Model_bound_2 : decode prog_10_method_45_code 2 = .ok (.getfield 53, 3) := by decide +kernel
theorem d_Model_bound_5 : decode prog_10_method_45_code 5 = .ok (.ifCond .ne 7, 3) := by decide +kernel
theorem d_Model_bound_8 : decode prog_10_method_45_code 8 = .ok (.iconst 1, 1) := by decide +kernel
theorem d_Model_bound_9 : decode prog_10_method_45_code 9 = .ok (.goto 37, 3) := by decide +kernel
theorem d_Model_bound_12 : decode prog_10_method_45_code 12 = .ok (.aload_n 0, 1) := by decide +kernel
theorem d_Model_bound_13 : decode prog_10_method_45_code 13 = .ok (.iload_n 2, 1) := by decide +kernel
theorem d_Model_bound_14 : decode prog_10_method_45_code 14 = .ok (.invokevirtual 69, 3) := by decide +kernel
theorem d_Model_bound_17 : decode prog_10_method_45_code 17 = .ok (.ifCond .eq 11, 3) := by decide +kernel
theorem d_Model_bound_20 : decode prog_10_method_45_code 20 = .ok (.aload_n 0, 1) := by decide +kernel
theorem d_Model_bound_21 : decode prog_10_method_45_code 21 = .ok (.iload_n 3, 1) := by decide +kernel
theorem d_Model_bound_22 : decode prog_10_method_45_code 22 = .ok (.invokevirtual 69, 3) := by decide +kernel
theorem d_Model_bound_25 : decode prog_10_method_45_code 25 = .ok (.ifCond .ne 7, 3) := by decide +kernel
theorem d_Model_bound_28 : decode prog_10_method_45_code 28 = .ok (.iconst 2, 1) := by decide +kernel
theorem d_Model_bound_29 : decode prog_10_method_45_code 29 = .ok (.goto 17, 3) := by decide +kernel
theorem d_Model_bound_32 : decode prog_10_method_45_code 32 = .ok (.iload_n 1, 1) := by decide +kernel
theorem d_Model_bound_33 : decode prog_10_method_45_code 33 = .ok (.ifCond .lt 8, 3) := by decide +kernel
theorem d_Model_bound_36 : decode prog_10_method_45_code 36 = .ok (.iload_n 1, 1) := by decide +kernel
theorem d_Model_bound_37 : decode prog_10_method_45_code 37 = .ok (.iconst 1, 1) := by decide +kernel
theorem d_Model_bound_38 : decode prog_10_method_45_code 38 = .ok (.if_icmp .le 7, 3) := by decide +kernel
theorem d_Model_bound_41 : decode prog_10_method_45_code 41 = .ok (.iconst 3, 1) := by decide +kernel
theorem d_Model_bound_42 : decode prog_10_method_45_code 42 = .ok (.goto 4, 3) := by decide +kernel
theorem d_Model_bound_45 : decode prog_10_method_45_code 45 = .ok (.iconst 0, 1) := by decide +kernel
theorem d_Model_bound_46 : decode prog_10_method_45_code 46 = .ok (.putfield 50, 3) := by decide +kernel
theorem d_Model_bound_49 : decode prog_10_method_45_code 49 = .ok (.aload_n 0, 1) := by decide +kernel
theorem d_Model_bound_50 : decode prog_10_method_45_code 50 = .ok (.getfield 50, 3) := by decide +kernel
theorem d_Model_bound_53 : decode prog_10_method_45_code 53 = .ok (.ifCond .le 7, 3) := by decide +kernel
theorem d_Model_bound_56 : decode prog_10_method_45_code 56 = .ok (.iconst 0, 1) := by decide +kernel
theorem d_Model_bound_57 : decode prog_10_method_45_code 57 = .ok (.goto 10, 3) := by decide +kernel
theorem d_Model_bound_60 : decode prog_10_method_45_code 60 = .ok (.aload_n 0, 1) := by decide +kernel
theorem d_Model_bound_61 : decode prog_10_method_45_code 61 = .ok (.iload_n 1, 1) := by decide +kernel
theorem d_Model_bound_62 : decode prog_10_method_45_code 62 = .ok (.iload_n 2, 1) := by decide +kernel
theorem d_Model_bound_63 : decode prog_10_method_45_code 63 = .ok (.iload_n 3, 1) := by decide +kernel
theorem d_Model_bound_64 : decode prog_10_method_45_code 64 = .ok (.invokevirtual 145, 3) := by decide +kernel
theorem d_Model_bound_67 : decode prog_10_method_45_code 67 = .ok (.ireturn, 1) := by decide +kernel
noncomputable def f_Model_bound (a0 : Int32) (a1 : Int32) (a2 : Int32) (M : oz_M) : Option (Int32 × oz_M) := (if (M.1 62 2) = 0 then (some 1) else ((f_Model_isElement a1 M).bind fun v2 => if v2 = 0 then (some 2) else ((f_Model_isElement a2 M).bind fun v3 => if v3 = 0 then (some 2) else (if a0 < 0 then (some 3) else (if 1 < a0 then (some 3) else (some 0)))))).bind fun (z1 : Int32) => (some (oz_s M 62 0 z1)).bind fun M9 => if 0 < (M9.1 62 0) then (some (0, M9)) else ((f_Model_boundOf a0 a1 a2 M9).bind fun v10 => some (v10, M9))
set_option maxRecDepth 20000 in
set_option maxHeartbeats 4000000 in
theorem c_Model_bound {l : Launch} {D : va_G} {cs : Nat → ClassId} {b : Nat} {a0 : Int32} {a1 : Int32} {a2 : Int32} {M : oz_M} {vz : Int32} {Mz : oz_M} (hF : f_Model_bound a0 a1 a2 M = some (vz, Mz)) : oz_Met l D cs b y_Model_bound prog_10_method_45_code 4 (some .int) (oz_rm 4) [.ref (b + 62), .int a0, .int a1, .int a2] M (some (.int vz)) Mz := by
  refine oz_enter (by decide) (Nat.le_of_ble_eq_true rfl) (fun G cx hR e1 hRm e2 e3 e4 hnL => ?_)
  subst e1; subst e2; subst e3; subst e4
  refine (?_ : oz_R G 0 [(0, .ref (oz_b G + 62)), (1, .int a0), (2, .int a1), (3, .int a2)] [] M (f_Model_bound a0 a1 a2 M) (fun x => x = (vz, Mz))) _ hF rfl
  unfold f_Model_bound
  refine oz_aload_n (q := 1) cx d_Model_bound_0 rfl rfl 0 rfl ?_
  refine oz_aload_n (q := 2) cx d_Model_bound_1 rfl rfl 0 rfl ?_
  refine oz_get (q := 5) cx 62 2 (by decide) (ci := 8) rfl rfl tin_Model (by decide) rfl rfl tw_788 d_Model_bound_2 rfl ?_
  refine oz_seq (p2 := 46) (lv2 := fun (z1 : Int32) => [(0, .ref (oz_b G + 62)), (1, .int a0), (2, .int a1), (3, .int a2)]) (st2 := fun z1 => [.int z1, .ref (oz_b G + 62)]) (M2 := fun z1 => M) ?_ (fun z1 => ?_)
  · refine oz_if_ne (q := 8) cx d_Model_bound_5 rfl rfl (fun h8 => ?_) (fun h8 => ?_)
    · refine oz_aload_n (q := 13) cx d_Model_bound_12 rfl rfl 0 rfl ?_
      refine oz_iload_n (q := 14) cx d_Model_bound_13 rfl rfl 2 rfl ?_
      refine oz_cVip (q := 17) cx 62 [.int a1] 1 8 hRm (by decide) (by decide) (fun _ h => c_Model_isElement h) ⟨tw_859, tw_861, ts_32, tw_9⟩ tw_862 (by decide +kernel) rfl (by decide) rfl rfl (st := [.ref (oz_b G + 62)]) rfl (Nat.le_of_ble_eq_true rfl) d_Model_bound_14 rfl (fun v2 hv2 => ?_)
      refine oz_if_eq (q := 20) cx d_Model_bound_17 rfl rfl (fun h7 => ?_) (fun h7 => ?_)
      · refine oz_iconst (q := 29) cx d_Model_bound_28 rfl (v := 2) rfl ?_
        refine oz_goto cx d_Model_bound_29 rfl ?_
        exact oz_lv [0, 1, 2, 3] rfl (oz_leaf (fun h => h))
      · refine oz_aload_n (q := 21) cx d_Model_bound_20 rfl rfl 0 rfl ?_
        refine oz_iload_n (q := 22) cx d_Model_bound_21 rfl rfl 3 rfl ?_
        refine oz_cVip (q := 25) cx 62 [.int a2] 1 8 hRm (by decide) (by decide) (fun _ h => c_Model_isElement h) ⟨tw_859, tw_861, ts_32, tw_9⟩ tw_862 (by decide +kernel) rfl (by decide) rfl rfl (st := [.ref (oz_b G + 62)]) rfl (Nat.le_of_ble_eq_true rfl) d_Model_bound_22 rfl (fun v3 hv3 => ?_)
        refine oz_if_ne (q := 28) cx d_Model_bound_25 rfl rfl (fun h6 => ?_) (fun h6 => ?_)
        · refine oz_iload_n (q := 33) cx d_Model_bound_32 rfl rfl 1 rfl ?_
          refine oz_if_lt (q := 36) cx d_Model_bound_33 rfl rfl (fun h5 => ?_) (fun h5 => ?_)
          · refine oz_iconst (q := 42) cx d_Model_bound_41 rfl (v := 3) rfl ?_
            refine oz_goto cx d_Model_bound_42 rfl ?_
            exact oz_lv [0, 1, 2, 3] rfl (oz_leaf (fun h => h))
          · refine oz_iload_n (q := 37) cx d_Model_bound_36 rfl rfl 1 rfl ?_
            refine oz_iconst (q := 38) cx d_Model_bound_37 rfl (v := 1) rfl ?_
            refine oz_icmp_le (q := 41) cx d_Model_bound_38 rfl rfl (fun h4 => ?_) (fun h4 => ?_)
            · refine oz_iconst (q := 46) cx d_Model_bound_45 rfl (v := 0) rfl ?_
              exact oz_lv [0, 1, 2, 3] rfl (oz_leaf (fun h => h))
            · refine oz_iconst (q := 42) cx d_Model_bound_41 rfl (v := 3) rfl ?_
              refine oz_goto cx d_Model_bound_42 rfl ?_
              exact oz_lv [0, 1, 2, 3] rfl (oz_leaf (fun h => h))
        · refine oz_iconst (q := 29) cx d_Model_bound_28 rfl (v := 2) rfl ?_
          refine oz_goto cx d_Model_bound_29 rfl ?_
          exact oz_lv [0, 1, 2, 3] rfl (oz_leaf (fun h => h))
    · refine oz_iconst (q := 9) cx d_Model_bound_8 rfl (v := 1) rfl ?_
      refine oz_goto cx d_Model_bound_9 rfl ?_
      exact oz_lv [0, 1, 2, 3] rfl (oz_leaf (fun h => h))
  · refine oz_put (q := 49) cx 62 0 (by decide) (ci := 8) rfl rfl rfl tin_Model t_Model t_Model_ok n_Model (by decide) (Nat.le_of_ble_eq_true rfl) rfl tw_786 rfl rfl rfl d_Model_bound_46 rfl ?_
    refine oz_nm (fun M9 hM9 => ?_)
    refine oz_aload_n (q := 50) cx d_Model_bound_49 rfl rfl 0 rfl ?_
    refine oz_get (q := 53) cx 62 0 (by decide) (ci := 8) rfl rfl tin_Model (by decide) rfl rfl tw_786 d_Model_bound_50 rfl ?_
    refine oz_if_le (q := 56) cx d_Model_bound_53 rfl rfl (fun h11 => ?_) (fun h11 => ?_)
    · refine oz_aload_n (q := 61) cx d_Model_bound_60 rfl rfl 0 rfl ?_
      refine oz_iload_n (q := 62) cx d_Model_bound_61 rfl rfl 1 rfl ?_
      refine oz_iload_n (q := 63) cx d_Model_bound_62 rfl rfl 2 rfl ?_
      refine oz_iload_n (q := 64) cx d_Model_bound_63 rfl rfl 3 rfl ?_
      refine oz_cVip (q := 67) cx 62 [.int a0, .int a1, .int a2] 3 8 hRm (by decide) (by decide) (fun _ h => c_Model_boundOf h) ⟨tw_1002, tw_1004, ts_49, tw_9⟩ tw_1005 (by decide +kernel) rfl (by decide) rfl rfl (st := []) rfl (Nat.le_of_ble_eq_true rfl) d_Model_bound_64 rfl (fun v10 hv10 => ?_)
      exact oz_iret cx hR d_Model_bound_67
    · refine oz_iconst (q := 57) cx d_Model_bound_56 rfl (v := 0) rfl ?_
      refine oz_goto cx d_Model_bound_57 rfl ?_
      exact oz_iret cx hR d_Model_bound_67
def y_Model_count : MethodName := ⟨"OrderHallModel", "count", "(I)I"⟩
theorem d_Model_count_0 : decode prog_10_method_28_code 0 = .ok (.aload_n 0, 1) := by decide +kernel
theorem d_Model_count_1 : decode prog_10_method_28_code 1 = .ok (.aload_n 0, 1) := by decide +kernel
theorem d_Model_count_2 : decode prog_10_method_28_code 2 = .ok (.getfield 53, 3) := by decide +kernel
theorem d_Model_count_5 : decode prog_10_method_28_code 5 = .ok (.ifCond .ne 7, 3) := by decide +kernel
theorem d_Model_count_8 : decode prog_10_method_28_code 8 = .ok (.iconst 1, 1) := by decide +kernel
theorem d_Model_count_9 : decode prog_10_method_28_code 9 = .ok (.goto 18, 3) := by decide +kernel
theorem d_Model_count_12 : decode prog_10_method_28_code 12 = .ok (.iload_n 1, 1) := by decide +kernel
theorem d_Model_count_13 : decode prog_10_method_28_code 13 = .ok (.ifCond .lt 9, 3) := by decide +kernel
theorem d_Model_count_16 : decode prog_10_method_28_code 16 = .ok (.iload_n 1, 1) := by decide +kernel
theorem d_Model_count_17 : decode prog_10_method_28_code 17 = .ok (.bipush 6, 2) := by decide +kernel
theorem d_Model_count_19 : decode prog_10_method_28_code 19 = .ok (.if_icmp .le 7, 3) := by decide +kernel
theorem d_Model_count_22 : decode prog_10_method_28_code 22 = .ok (.iconst 2, 1) := by decide +kernel
theorem d_Model_count_23 : decode prog_10_method_28_code 23 = .ok (.goto 4, 3) := by decide +kernel
theorem d_Model_count_26 : decode prog_10_method_28_code 26 = .ok (.iconst 0, 1) := by decide +kernel
theorem d_Model_count_27 : decode prog_10_method_28_code 27 = .ok (.putfield 50, 3) := by decide +kernel
theorem d_Model_count_30 : decode prog_10_method_28_code 30 = .ok (.aload_n 0, 1) := by decide +kernel
theorem d_Model_count_31 : decode prog_10_method_28_code 31 = .ok (.getfield 50, 3) := by decide +kernel
theorem d_Model_count_34 : decode prog_10_method_28_code 34 = .ok (.ifCond .le 5, 3) := by decide +kernel
theorem d_Model_count_37 : decode prog_10_method_28_code 37 = .ok (.iconst 0, 1) := by decide +kernel
theorem d_Model_count_38 : decode prog_10_method_28_code 38 = .ok (.ireturn, 1) := by decide +kernel
theorem d_Model_count_39 : decode prog_10_method_28_code 39 = .ok (.aload_n 0, 1) := by decide +kernel
theorem d_Model_count_40 : decode prog_10_method_28_code 40 = .ok (.invokevirtual 115, 3) := by decide +kernel
theorem d_Model_count_43 : decode prog_10_method_28_code 43 = .ok (.iconst 1, 1) := by decide +kernel
theorem d_Model_count_44 : decode prog_10_method_28_code 44 = .ok (.aload_n 0, 1) := by decide +kernel
theorem d_Model_count_45 : decode prog_10_method_28_code 45 = .ok (.getfield 7, 3) := by decide +kernel
theorem d_Model_count_48 : decode prog_10_method_28_code 48 = .ok (.ishl, 1) := by decide +kernel
theorem d_Model_count_49 : decode prog_10_method_28_code 49 = .ok (.iconst 1, 1) := by decide +kernel
theorem d_Model_count_50 : decode prog_10_method_28_code 50 = .ok (.isub, 1) := by decide +kernel
theorem d_Model_count_51 : decode prog_10_method_28_code 51 = .ok (.istore_n 2, 1) := by decide +kernel
theorem d_Model_count_52 : decode prog_10_method_28_code 52 = .ok (.iload_n 1, 1) := by decide +kernel
theorem d_Model_count_53 : decode prog_10_method_28_code 53 = .ok (.iconst 3, 1) := by decide +kernel
theorem d_Model_count_54 : decode prog_10_method_28_code 54 = .ok (.if_icmp .ge 35, 3) := by decide +kernel
theorem d_Model_count_57 : decode prog_10_method_28_code 57 = .ok (.iload_n 1, 1) := by decide +kernel
theorem d_Model_count_58 : decode prog_10_method_28_code 58 = .ok (.ifCond .ne 12, 3) := by decide +kernel
theorem d_Model_count_61 : decode prog_10_method_28_code 61 = .ok (.aload_n 0, 1) := by decide +kernel
theorem d_Model_count_62 : decode prog_10_method_28_code 62 = .ok (.getfield 24, 3) := by decide +kernel
theorem d_Model_count_65 : decode prog_10_method_28_code 65 = .ok (.iload_n 2, 1) := by decide +kernel
theorem d_Model_count_66 : decode prog_10_method_28_code 66 = .ok (.baload, 1) := by decide +kernel
theorem d_Model_count_67 : decode prog_10_method_28_code 67 = .ok (.goto 21, 3) := by decide +kernel
theorem d_Model_count_70 : decode prog_10_method_28_code 70 = .ok (.iload_n 1, 1) := by decide +kernel
theorem d_Model_count_71 : decode prog_10_method_28_code 71 = .ok (.iconst 1, 1) := by decide +kernel
theorem d_Model_count_72 : decode prog_10_method_28_code 72 = .ok (.if_icmp .ne 12, 3) := by decide +kernel
theorem d_Model_count_75 : decode prog_10_method_28_code 75 = .ok (.aload_n 0, 1) := by decide +kernel
theorem d_Model_count_76 : decode prog_10_method_28_code 76 = .ok (.getfield 28, 3) := by decide +kernel
theorem d_Model_count_79 : decode prog_10_method_28_code 79 = .ok (.iload_n 2, 1) := by decide +kernel
theorem d_Model_count_80 : decode prog_10_method_28_code 80 = .ok (.baload, 1) := by decide +kernel
theorem d_Model_count_81 : decode prog_10_method_28_code 81 = .ok (.goto 7, 3) := by decide +kernel
theorem d_Model_count_84 : decode prog_10_method_28_code 84 = .ok (.aload_n 0, 1) := by decide +kernel
theorem d_Model_count_85 : decode prog_10_method_28_code 85 = .ok (.getfield 7, 3) := by decide +kernel
theorem d_Model_count_88 : decode prog_10_method_28_code 88 = .ok (.ireturn, 1) := by decide +kernel
theorem d_Model_count_89 : decode prog_10_method_28_code 89 = .ok (.iconst 0, 1) := by decide +kernel
theorem d_Model_count_90 : decode prog_10_method_28_code 90 = .ok (.istore_n 3, 1) := by decide +kernel
theorem d_Model_count_91 : decode prog_10_method_28_code 91 = .ok (.iload_n 1, 1) := by decide +kernel
theorem d_Model_count_92 : decode prog_10_method_28_code 92 = .ok (.iconst 5, 1) := by decide +kernel
theorem d_Model_count_93 : decode prog_10_method_28_code 93 = .ok (.if_icmp .ge 79, 3) := by decide +kernel
theorem d_Model_count_96 : decode prog_10_method_28_code 96 = .ok (.iconst 0, 1) := by decide +kernel
theorem d_Model_count_97 : decode prog_10_method_28_code 97 = .ok (.istore 4, 2) := by decide +kernel
theorem d_Model_count_99 : decode prog_10_method_28_code 99 = .ok (.iload 4, 2) := by decide +kernel
theorem d_Model_count_101 : decode prog_10_method_28_code 101 = .ok (.aload_n 0, 1) := by decide +kernel
theorem d_Model_count_102 : decode prog_10_method_28_code 102 = .ok (.getfield 7, 3) := by decide +kernel
theorem d_Model_count_105 : decode prog_10_method_28_code 105 = .ok (.if_icmp .ge 65, 3) := by decide +kernel
theorem d_Model_count_108 : decode prog_10_method_28_code 108 = .ok (.iconst 0, 1) := by decide +kernel
theorem d_Model_count_109 : decode prog_10_method_28_code 109 = .ok (.istore 5, 2) := by decide +kernel
theorem d_Model_count_111 : decode prog_10_method_28_code 111 = .ok (.iload 5, 2) := by decide +kernel
theorem d_Model_count_113 : decode prog_10_method_28_code 113 = .ok (.aload_n 0, 1) := by decide +kernel
theorem d_Model_count_114 : decode prog_10_method_28_code 114 = .ok (.getfield 7, 3) := by decide +kernel
theorem d_Model_count_117 : decode prog_10_method_28_code 117 = .ok (.if_icmp .ge 47, 3) := by decide +kernel
theorem d_Model_count_120 : decode prog_10_method_28_code 120 = .ok (.iload_n 1, 1) := by decide +kernel
theorem d_Model_count_121 : decode prog_10_method_28_code 121 = .ok (.iconst 3, 1) := by decide +kernel
theorem d_Model_count_122 : decode prog_10_method_28_code 122 = .ok (.if_icmp .ne 17, 3) := by decide +kernel
theorem d_Model_count_125 : decode prog_10_method_28_code 125 = .ok (.aload_n 0, 1) := by decide +kernel
theorem d_Model_count_126 : decode prog_10_method_28_code 126 = .ok (.iload 4, 2) := by decide +kernel
theorem d_Model_count_128 : decode prog_10_method_28_code 128 = .ok (.iload 5, 2) := by decide +kernel
theorem d_Model_count_130 : decode prog_10_method_28_code 130 = .ok (.invokevirtual 77, 3) := by decide +kernel
theorem d_Model_count_133 : decode prog_10_method_28_code 133 = .ok (.ifCond .eq 23, 3) := by decide +kernel
theorem d_Model_count_136 : decode prog_10_method_28_code 136 = .ok (.goto 14, 3) := by decide +kernel
theorem d_Model_count_139 : decode prog_10_method_28_code 139 = .ok (.aload_n 0, 1) := by decide +kernel
theorem d_Model_count_140 : decode prog_10_method_28_code 140 = .ok (.iload 5, 2) := by decide +kernel
theorem d_Model_count_142 : decode prog_10_method_28_code 142 = .ok (.iload 4, 2) := by decide +kernel
theorem d_Model_count_144 : decode prog_10_method_28_code 144 = .ok (.invokevirtual 94, 3) := by decide +kernel
theorem d_Model_count_147 : decode prog_10_method_28_code 147 = .ok (.ifCond .eq 9, 3) := by decide +kernel
theorem d_Model_count_150 : decode prog_10_method_28_code 150 = .ok (.iload_n 3, 1) := by decide +kernel
theorem d_Model_count_151 : decode prog_10_method_28_code 151 = .ok (.iconst 1, 1) := by decide +kernel
theorem d_Model_count_152 : decode prog_10_method_28_code 152 = .ok (.iadd, 1) := by decide +kernel
theorem d_Model_count_153 : decode prog_10_method_28_code 153 = .ok (.goto 4, 3) := by decide +kernel
theorem d_Model_count_156 : decode prog_10_method_28_code 156 = .ok (.iload_n 3, 1) := by decide +kernel
theorem d_Model_count_157 : decode prog_10_method_28_code 157 = .ok (.istore_n 3, 1) := by decide +kernel
theorem d_Model_count_158 : decode prog_10_method_28_code 158 = .ok (.iinc 5 1, 3) := by decide +kernel
theorem d_Model_count_161 : decode prog_10_method_28_code 161 = .ok (.goto (-50), 3) := by decide +kernel
theorem d_Model_count_164 : decode prog_10_method_28_code 164 = .ok (.iinc 4 1, 3) := by decide +kernel
theorem d_Model_count_167 : decode prog_10_method_28_code 167 = .ok (.goto (-68), 3) := by decide +kernel
theorem d_Model_count_170 : decode prog_10_method_28_code 170 = .ok (.iload_n 3, 1) := by decide +kernel
theorem d_Model_count_171 : decode prog_10_method_28_code 171 = .ok (.ireturn, 1) := by decide +kernel
theorem d_Model_count_172 : decode prog_10_method_28_code 172 = .ok (.iconst 0, 1) := by decide +kernel
theorem d_Model_count_173 : decode prog_10_method_28_code 173 = .ok (.istore 4, 2) := by decide +kernel
theorem d_Model_count_175 : decode prog_10_method_28_code 175 = .ok (.iload 4, 2) := by decide +kernel
theorem d_Model_count_177 : decode prog_10_method_28_code 177 = .ok (.iload_n 2, 1) := by decide +kernel
theorem d_Model_count_178 : decode prog_10_method_28_code 178 = .ok (.if_icmp .gt 66, 3) := by decide +kernel
theorem d_Model_count_181 : decode prog_10_method_28_code 181 = .ok (.iload_n 1, 1) := by decide +kernel
theorem d_Model_count_182 : decode prog_10_method_28_code 182 = .ok (.iconst 5, 1) := by decide +kernel
theorem d_Model_count_183 : decode prog_10_method_28_code 183 = .ok (.if_icmp .ne 12, 3) := by decide +kernel
theorem d_Model_count_186 : decode prog_10_method_28_code 186 = .ok (.aload_n 0, 1) := by decide +kernel
theorem d_Model_count_187 : decode prog_10_method_28_code 187 = .ok (.iload 4, 2) := by decide +kernel
theorem d_Model_count_189 : decode prog_10_method_28_code 189 = .ok (.invokevirtual 118, 3) := by decide +kernel
theorem d_Model_count_192 : decode prog_10_method_28_code 192 = .ok (.goto 31, 3) := by decide +kernel
theorem d_Model_count_195 : decode prog_10_method_28_code 195 = .ok (.iload 4, 2) := by decide +kernel
theorem d_Model_count_197 : decode prog_10_method_28_code 197 = .ok (.invokestatic 103, 3) := by decide +kernel
theorem d_Model_count_200 : decode prog_10_method_28_code 200 = .ok (.aload_n 0, 1) := by decide +kernel
theorem d_Model_count_201 : decode prog_10_method_28_code 201 = .ok (.getfield 28, 3) := by decide +kernel
theorem d_Model_count_204 : decode prog_10_method_28_code 204 = .ok (.iload_n 2, 1) := by decide +kernel
theorem d_Model_count_205 : decode prog_10_method_28_code 205 = .ok (.baload, 1) := by decide +kernel
theorem d_Model_count_206 : decode prog_10_method_28_code 206 = .ok (.if_icmp .ne 16, 3) := by decide +kernel
theorem d_Model_count_209 : decode prog_10_method_28_code 209 = .ok (.aload_n 0, 1) := by decide +kernel
theorem d_Model_count_210 : decode prog_10_method_28_code 210 = .ok (.iload 4, 2) := by decide +kernel
theorem d_Model_count_212 : decode prog_10_method_28_code 212 = .ok (.invokevirtual 109, 3) := by decide +kernel
theorem d_Model_count_215 : decode prog_10_method_28_code 215 = .ok (.ifCond .eq 7, 3) := by decide +kernel
theorem d_Model_count_218 : decode prog_10_method_28_code 218 = .ok (.iconst 1, 1) := by decide +kernel
theorem d_Model_count_219 : decode prog_10_method_28_code 219 = .ok (.goto 4, 3) := by decide +kernel
theorem d_Model_count_222 : decode prog_10_method_28_code 222 = .ok (.iconst 0, 1) := by decide +kernel
theorem d_Model_count_223 : decode prog_10_method_28_code 223 = .ok (.istore 5, 2) := by decide +kernel
theorem d_Model_count_225 : decode prog_10_method_28_code 225 = .ok (.iload 5, 2) := by decide +kernel
theorem d_Model_count_227 : decode prog_10_method_28_code 227 = .ok (.ifCond .eq 9, 3) := by decide +kernel
theorem d_Model_count_230 : decode prog_10_method_28_code 230 = .ok (.iload_n 3, 1) := by decide +kernel
theorem d_Model_count_231 : decode prog_10_method_28_code 231 = .ok (.iconst 1, 1) := by decide +kernel
theorem d_Model_count_232 : decode prog_10_method_28_code 232 = .ok (.iadd, 1) := by decide +kernel
theorem d_Model_count_233 : decode prog_10_method_28_code 233 = .ok (.goto 4, 3) := by decide +kernel
theorem d_Model_count_236 : decode prog_10_method_28_code 236 = .ok (.iload_n 3, 1) := by decide +kernel
theorem d_Model_count_237 : decode prog_10_method_28_code 237 = .ok (.istore_n 3, 1) := by decide +kernel
theorem d_Model_count_238 : decode prog_10_method_28_code 238 = .ok (.iinc 4 1, 3) := by decide +kernel
theorem d_Model_count_241 : decode prog_10_method_28_code 241 = .ok (.goto (-66), 3) := by decide +kernel
theorem d_Model_count_244 : decode prog_10_method_28_code 244 = .ok (.iload_n 3, 1) := by decide +kernel
theorem d_Model_count_245 : decode prog_10_method_28_code 245 = .ok (.ireturn, 1) := by decide +kernel
noncomputable def f_Model_count (a0 : Int32) (M : oz_M) : Option (Int32 × oz_M) := (if (M.1 62 2) = 0 then (some 1) else (if a0 < 0 then (some 2) else (if 6 < a0 then (some 2) else (some 0)))).bind fun (z1 : Int32) => (some (oz_s M 62 0 z1)).bind fun M5 => if 0 < (M5.1 62 0) then (some (0, M5)) else (oz_b2 (f_Model_know M5) fun v6 M7 => if a0 < 3 then (if a0 = 0 then ((oz_in ((1 <<< ((M7.1 62 1) &&& 31)) - 1) 16384).bind fun j34 => some (M7.1 66 j34, M7)) else (if a0 = 1 then ((oz_in ((1 <<< ((M7.1 62 1) &&& 31)) - 1) 16384).bind fun j32 => some (M7.1 67 j32, M7)) else (some (M7.1 62 1, M7)))) else (if a0 < 5 then ((oz_lp (fun (s20 : Int32 × Int32) => (if s20.2 < (M7.1 62 1) then ((oz_lp (fun (s21 : Int32 × Int32) => (if s21.2 < (M7.1 62 1) then (if a0 = 3 then ((f_Model_isLess s20.2 s21.2 M7).bind fun v24 => if v24 = 0 then (some (.inl (s21.1, s21.2 + 1))) else (some (.inl (s21.1 + 1, s21.2 + 1)))) else ((f_Model_covers s21.2 s20.2 M7).bind fun v22 => if v22 = 0 then (some (.inl (s21.1, s21.2 + 1))) else (some (.inl (s21.1 + 1, s21.2 + 1))))) else (some (.inr (s21.1, s21.2))) : Option ((Int32 × Int32) ⊕ (Int32 × Int32)))) (s20.1, 0)).bind fun (y28 : Int32 × Int32) => some (.inl (y28.1, s20.2 + 1))) else (some (.inr (s20.1, s20.2))) : Option ((Int32 × Int32) ⊕ (Int32 × Int32)))) (0, 0)).bind fun (y30 : Int32 × Int32) => some (y30.1, M7)) else ((oz_lp (fun (s8 : Int32 × Int32) => (if ((1 <<< ((M7.1 62 1) &&& 31)) - 1) < s8.2 then (some (.inr (s8.1, s8.2))) else ((if a0 = 5 then ((f_Model_isClosed s8.2 M7).bind fun v15 => some v15) else ((f_Model_sizeOf s8.2 M7).bind fun v10 => (oz_in ((1 <<< ((M7.1 62 1) &&& 31)) - 1) 16384).bind fun j11 => if v10 = (M7.1 67 j11) then ((f_Model_isAntichain s8.2 M7).bind fun v12 => if v12 = 0 then (some 0) else (some 1)) else (some 0))).bind fun (z9 : Int32) => if z9 = 0 then (some (.inl (s8.1, s8.2 + 1))) else (some (.inl (s8.1 + 1, s8.2 + 1)))) : Option ((Int32 × Int32) ⊕ (Int32 × Int32)))) (0, 0)).bind fun (y19 : Int32 × Int32) => some (y19.1, M7))))
set_option maxRecDepth 20000 in
set_option maxHeartbeats 4000000 in
theorem c_Model_count {l : Launch} {D : va_G} {cs : Nat → ClassId} {b : Nat} {a0 : Int32} {M : oz_M} {vz : Int32} {Mz : oz_M} (hF : f_Model_count a0 M = some (vz, Mz)) : oz_Met l D cs b y_Model_count prog_10_method_28_code 6 (some .int) (oz_rm 4) [.ref (b + 62), .int a0] M (some (.int vz)) Mz := by
  refine oz_enter (by decide) (Nat.le_of_ble_eq_true rfl) (fun G cx hR e1 hRm e2 e3 e4 hnL => ?_)
  subst e1; subst e2; subst e3; subst e4
  refine (?_ : oz_R G 0 [(0, .ref (oz_b G + 62)), (1, .int a0)] [] M (f_Model_count a0 M) (fun x => x = (vz, Mz))) _ hF rfl
  unfold f_Model_count
  refine oz_aload_n (q := 1) cx d_Model_count_0 rfl rfl 0 rfl ?_
  refine oz_aload_n (q := 2) cx d_Model_count_1 rfl rfl 0 rfl ?_
  refine oz_get (q := 5) cx 62 2 (by decide) (ci := 8) rfl rfl tin_Model (by decide) rfl rfl tw_788 d_Model_count_2 rfl ?_
  refine oz_seq (p2 := 27) (lv2 := fun (z1 : Int32) => [(0, .ref (oz_b G + 62)), (1, .int a0)]) (st2 := fun z1 => [.int z1, .ref (oz_b G + 62)]) (M2 := fun z1 => M) ?_ (fun z1 => ?_)
  · refine oz_if_ne (q := 8) cx d_Model_count_5 rfl rfl (fun h4 => ?_) (fun h4 => ?_)
    · refine oz_iload_n (q := 13) cx d_Model_count_12 rfl rfl 1 rfl ?_
      refine oz_if_lt (q := 16) cx d_Model_count_13 rfl rfl (fun h3 => ?_) (fun h3 => ?_)
      · refine oz_iconst (q := 23) cx d_Model_count_22 rfl (v := 2) rfl ?_
        refine oz_goto cx d_Model_count_23 rfl ?_
        exact oz_lv [0, 1] rfl (oz_leaf (fun h => h))
      · refine oz_iload_n (q := 17) cx d_Model_count_16 rfl rfl 1 rfl ?_
        refine oz_bipush (q := 19) cx d_Model_count_17 rfl (v := 6) rfl ?_
        refine oz_icmp_le (q := 22) cx d_Model_count_19 rfl rfl (fun h2 => ?_) (fun h2 => ?_)
        · refine oz_iconst (q := 27) cx d_Model_count_26 rfl (v := 0) rfl ?_
          exact oz_lv [0, 1] rfl (oz_leaf (fun h => h))
        · refine oz_iconst (q := 23) cx d_Model_count_22 rfl (v := 2) rfl ?_
          refine oz_goto cx d_Model_count_23 rfl ?_
          exact oz_lv [0, 1] rfl (oz_leaf (fun h => h))
    · refine oz_iconst (q := 9) cx d_Model_count_8 rfl (v := 1) rfl ?_
      refine oz_goto cx d_Model_count_9 rfl ?_
      exact oz_lv [0, 1] rfl (oz_leaf (fun h => h))
  · refine oz_put (q := 30) cx 62 0 (by decide) (ci := 8) rfl rfl rfl tin_Model t_Model t_Model_ok n_Model (by decide) (Nat.le_of_ble_eq_true rfl) rfl tw_786 rfl rfl rfl d_Model_count_27 rfl ?_
    refine oz_nm (fun M5 hM5 => ?_)
    refine oz_aload_n (q := 31) cx d_Model_count_30 rfl rfl 0 rfl ?_
    refine oz_get (q := 34) cx 62 0 (by decide) (ci := 8) rfl rfl tin_Model (by decide) rfl rfl tw_786 d_Model_count_31 rfl ?_
    refine oz_if_le (q := 37) cx d_Model_count_34 rfl rfl (fun h37 => ?_) (fun h37 => ?_)
    · refine oz_aload_n (q := 40) cx d_Model_count_39 rfl rfl 0 rfl ?_
      refine oz_cVv (q := 43) cx 62 [] 0 8 hRm (by decide) (by decide) (fun _ _ h => c_Model_know h) ⟨tw_915, tw_917, ts_40, tw_9⟩ tw_918 (by decide +kernel) rfl (by decide) rfl rfl (st := []) rfl (Nat.le_of_ble_eq_true rfl) d_Model_count_40 rfl (fun v6 M7 hv6 => ?_)
      refine oz_iconst (q := 44) cx d_Model_count_43 rfl (v := 1) rfl ?_
      refine oz_aload_n (q := 45) cx d_Model_count_44 rfl rfl 0 rfl ?_
      refine oz_get (q := 48) cx 62 1 (by decide) (ci := 8) rfl rfl tin_Model (by decide) rfl rfl tw_787 d_Model_count_45 rfl ?_
      refine oz_ishl (q := 49) cx d_Model_count_48 rfl ?_
      refine oz_iconst (q := 50) cx d_Model_count_49 rfl (v := 1) rfl ?_
      refine oz_isub (q := 51) cx d_Model_count_50 rfl ?_
      refine oz_istore_n (q := 52) cx d_Model_count_51 rfl rfl (by rw [hnL]; decide) (lv2 := [(2, .int ((1 <<< ((M7.1 62 1) &&& 31)) - 1)), (0, .ref (oz_b G + 62)), (1, .int a0)]) rfl ?_
      refine oz_iload_n (q := 53) cx d_Model_count_52 rfl rfl 2 rfl ?_
      refine oz_iconst (q := 54) cx d_Model_count_53 rfl (v := 3) rfl ?_
      refine oz_icmp_ge (q := 57) cx d_Model_count_54 rfl rfl (fun h36 => ?_) (fun h36 => ?_)
      · refine oz_iconst (q := 90) cx d_Model_count_89 rfl (v := 0) rfl ?_
        refine oz_istore_n (q := 91) cx d_Model_count_90 rfl rfl (by rw [hnL]; decide) (lv2 := [(3, .int 0), (2, .int ((1 <<< ((M7.1 62 1) &&& 31)) - 1)), (0, .ref (oz_b G + 62)), (1, .int a0)]) rfl ?_
        refine oz_iload_n (q := 92) cx d_Model_count_91 rfl rfl 3 rfl ?_
        refine oz_iconst (q := 93) cx d_Model_count_92 rfl (v := 5) rfl ?_
        refine oz_icmp_ge (q := 96) cx d_Model_count_93 rfl rfl (fun h31 => ?_) (fun h31 => ?_)
        · refine oz_iconst (q := 173) cx d_Model_count_172 rfl (v := 0) rfl ?_
          refine oz_istore (q := 175) cx d_Model_count_173 rfl (by rw [hnL]; decide) (lv2 := [(4, .int 0), (3, .int 0), (2, .int ((1 <<< ((M7.1 62 1) &&& 31)) - 1)), (0, .ref (oz_b G + 62)), (1, .int a0)]) rfl ?_
          refine oz_lv [3, 4, 2, 1, 0] rfl ?_
          refine oz_seq (p2 := 244) (lv2 := fun (y19 : Int32 × Int32) => [(3, .int y19.1)]) (st2 := fun y19 => []) (M2 := fun y19 => M7) ?_ (fun y19 => ?_)
          · refine oz_loop (Y := Int32 × Int32) 175 (fun (s8 : Int32 × Int32) => [(0, .ref (oz_b G + 62)), (1, .int a0), (2, .int ((1 <<< ((M7.1 62 1) &&& 31)) - 1)), (3, .int s8.1), (4, .int s8.2)]) (fun (s8 : Int32 × Int32) => M7) (0, 0) (fun s8 => ?_)
            refine oz_iload (q := 177) cx d_Model_count_175 rfl 4 rfl ?_
            refine oz_iload_n (q := 178) cx d_Model_count_177 rfl rfl 2 rfl ?_
            refine oz_icmp_gt (q := 181) cx d_Model_count_178 rfl rfl (fun h18 => ?_) (fun h18 => ?_)
            · exact oz_lv [3] rfl (oz_leaf (fun h => h))
            · refine oz_iload_n (q := 182) cx d_Model_count_181 rfl rfl 1 rfl ?_
              refine oz_iconst (q := 183) cx d_Model_count_182 rfl (v := 5) rfl ?_
              refine oz_seq (p2 := 223) (lv2 := fun (z9 : Int32) => [(0, .ref (oz_b G + 62)), (1, .int a0), (2, .int ((1 <<< ((M7.1 62 1) &&& 31)) - 1)), (3, .int s8.1), (4, .int s8.2)]) (st2 := fun z9 => [.int z9]) (M2 := fun z9 => M7) ?_ (fun z9 => ?_)
              · refine oz_icmp_ne (q := 186) cx d_Model_count_183 rfl rfl (fun h16 => ?_) (fun h16 => ?_)
                · refine oz_iload (q := 197) cx d_Model_count_195 rfl 4 rfl ?_
                  refine oz_cSip (q := 200) cx [.int s8.2] 1 hRm (by decide) (by decide) (fun _ h => c_Model_sizeOf h) ⟨tw_919, tw_920, tw_9⟩ tw_921 (by decide +kernel) rfl (st := []) rfl (Nat.le_of_ble_eq_true rfl) d_Model_count_197 rfl (fun v10 hv10 => ?_)
                  refine oz_aload_n (q := 201) cx d_Model_count_200 rfl rfl 0 rfl ?_
                  refine oz_get (q := 204) cx 62 8 (by decide) (ci := 8) rfl rfl tin_Model (by decide) rfl rfl tw_794 d_Model_count_201 rfl ?_
                  refine oz_iload_n (q := 205) cx d_Model_count_204 rfl rfl 2 rfl ?_
                  refine oz_bald (q := 206) cx 67 16384 (by decide) rfl d_Model_count_205 rfl (fun j11 hj11 => ?_)
                  refine oz_icmp_ne (q := 209) cx d_Model_count_206 rfl rfl (fun h14 => ?_) (fun h14 => ?_)
                  · refine oz_iconst (q := 223) cx d_Model_count_222 rfl (v := 0) rfl ?_
                    exact oz_lv [0, 1, 2, 3, 4] rfl (oz_leaf (fun h => h))
                  · refine oz_aload_n (q := 210) cx d_Model_count_209 rfl rfl 0 rfl ?_
                    refine oz_iload (q := 212) cx d_Model_count_210 rfl 4 rfl ?_
                    refine oz_cVip (q := 215) cx 62 [.int s8.2] 1 8 hRm (by decide) (by decide) (fun _ h => c_Model_isAntichain h) ⟨tw_929, tw_931, ts_42, tw_9⟩ tw_932 (by decide +kernel) rfl (by decide) rfl rfl (st := []) rfl (Nat.le_of_ble_eq_true rfl) d_Model_count_212 rfl (fun v12 hv12 => ?_)
                    refine oz_if_eq (q := 218) cx d_Model_count_215 rfl rfl (fun h13 => ?_) (fun h13 => ?_)
                    · refine oz_iconst (q := 223) cx d_Model_count_222 rfl (v := 0) rfl ?_
                      exact oz_lv [0, 1, 2, 3, 4] rfl (oz_leaf (fun h => h))
                    · refine oz_iconst (q := 219) cx d_Model_count_218 rfl (v := 1) rfl ?_
                      refine oz_goto cx d_Model_count_219 rfl ?_
                      exact oz_lv [0, 1, 2, 3, 4] rfl (oz_leaf (fun h => h))
                · refine oz_aload_n (q := 187) cx d_Model_count_186 rfl rfl 0 rfl ?_
                  refine oz_iload (q := 189) cx d_Model_count_187 rfl 4 rfl ?_
                  refine oz_cVip (q := 192) cx 62 [.int s8.2] 1 8 hRm (by decide) (by decide) (fun _ h => c_Model_isClosed h) ⟨tw_941, tw_943, ts_44, tw_9⟩ tw_944 (by decide +kernel) rfl (by decide) rfl rfl (st := []) rfl (Nat.le_of_ble_eq_true rfl) d_Model_count_189 rfl (fun v15 hv15 => ?_)
                  refine oz_goto cx d_Model_count_192 rfl ?_
                  exact oz_lv [0, 1, 2, 3, 4] rfl (oz_leaf (fun h => h))
              · refine oz_istore (q := 225) cx d_Model_count_223 rfl (by rw [hnL]; decide) (lv2 := [(5, .int z9), (0, .ref (oz_b G + 62)), (1, .int a0), (2, .int ((1 <<< ((M7.1 62 1) &&& 31)) - 1)), (3, .int s8.1), (4, .int s8.2)]) rfl ?_
                refine oz_iload (q := 227) cx d_Model_count_225 rfl 0 rfl ?_
                refine oz_if_eq (q := 230) cx d_Model_count_227 rfl rfl (fun h17 => ?_) (fun h17 => ?_)
                · refine oz_iload_n (q := 237) cx d_Model_count_236 rfl rfl 4 rfl ?_
                  refine oz_istore_n (q := 238) cx d_Model_count_237 rfl rfl (by rw [hnL]; decide) (lv2 := [(3, .int s8.1), (5, .int z9), (0, .ref (oz_b G + 62)), (1, .int a0), (2, .int ((1 <<< ((M7.1 62 1) &&& 31)) - 1)), (4, .int s8.2)]) rfl ?_
                  refine oz_iinc (q := 241) cx (s8.2 + 1) d_Model_count_238 rfl 5 rfl rfl (by rw [hnL]; decide) (lv2 := [(4, .int (s8.2 + 1)), (3, .int s8.1), (5, .int z9), (0, .ref (oz_b G + 62)), (1, .int a0), (2, .int ((1 <<< ((M7.1 62 1) &&& 31)) - 1))]) rfl ?_
                  refine oz_goto cx d_Model_count_241 rfl ?_
                  exact oz_lv [3, 4, 5, 1, 0] rfl (oz_leaf (fun h => h))
                · refine oz_iload_n (q := 231) cx d_Model_count_230 rfl rfl 4 rfl ?_
                  refine oz_iconst (q := 232) cx d_Model_count_231 rfl (v := 1) rfl ?_
                  refine oz_iadd (q := 233) cx d_Model_count_232 rfl ?_
                  refine oz_goto cx d_Model_count_233 rfl ?_
                  refine oz_istore_n (q := 238) cx d_Model_count_237 rfl rfl (by rw [hnL]; decide) (lv2 := [(3, .int (s8.1 + 1)), (5, .int z9), (0, .ref (oz_b G + 62)), (1, .int a0), (2, .int ((1 <<< ((M7.1 62 1) &&& 31)) - 1)), (4, .int s8.2)]) rfl ?_
                  refine oz_iinc (q := 241) cx (s8.2 + 1) d_Model_count_238 rfl 5 rfl rfl (by rw [hnL]; decide) (lv2 := [(4, .int (s8.2 + 1)), (3, .int (s8.1 + 1)), (5, .int z9), (0, .ref (oz_b G + 62)), (1, .int a0), (2, .int ((1 <<< ((M7.1 62 1) &&& 31)) - 1))]) rfl ?_
                  refine oz_goto cx d_Model_count_241 rfl ?_
                  exact oz_lv [3, 4, 5, 1, 0] rfl (oz_leaf (fun h => h))
          · refine oz_iload_n (q := 245) cx d_Model_count_244 rfl rfl 0 rfl ?_
            exact oz_iret cx hR d_Model_count_245
        · refine oz_iconst (q := 97) cx d_Model_count_96 rfl (v := 0) rfl ?_
          refine oz_istore (q := 99) cx d_Model_count_97 rfl (by rw [hnL]; decide) (lv2 := [(4, .int 0), (3, .int 0), (2, .int ((1 <<< ((M7.1 62 1) &&& 31)) - 1)), (0, .ref (oz_b G + 62)), (1, .int a0)]) rfl ?_
          refine oz_lv [3, 4, 1, 0] rfl ?_
          refine oz_seq (p2 := 170) (lv2 := fun (y30 : Int32 × Int32) => [(3, .int y30.1)]) (st2 := fun y30 => []) (M2 := fun y30 => M7) ?_ (fun y30 => ?_)
          · refine oz_loop (Y := Int32 × Int32) 99 (fun (s20 : Int32 × Int32) => [(0, .ref (oz_b G + 62)), (1, .int a0), (3, .int s20.1), (4, .int s20.2)]) (fun (s20 : Int32 × Int32) => M7) (0, 0) (fun s20 => ?_)
            refine oz_iload (q := 101) cx d_Model_count_99 rfl 3 rfl ?_
            refine oz_aload_n (q := 102) cx d_Model_count_101 rfl rfl 0 rfl ?_
            refine oz_get (q := 105) cx 62 1 (by decide) (ci := 8) rfl rfl tin_Model (by decide) rfl rfl tw_787 d_Model_count_102 rfl ?_
            refine oz_icmp_ge (q := 108) cx d_Model_count_105 rfl rfl (fun h29 => ?_) (fun h29 => ?_)
            · exact oz_lv [2] rfl (oz_leaf (fun h => h))
            · refine oz_iconst (q := 109) cx d_Model_count_108 rfl (v := 0) rfl ?_
              refine oz_istore (q := 111) cx d_Model_count_109 rfl (by rw [hnL]; decide) (lv2 := [(5, .int 0), (0, .ref (oz_b G + 62)), (1, .int a0), (3, .int s20.1), (4, .int s20.2)]) rfl ?_
              refine oz_lv [1, 2, 3, 4, 0] rfl ?_
              refine oz_seq (p2 := 164) (lv2 := fun (y28 : Int32 × Int32) => [(0, .ref (oz_b G + 62)), (1, .int a0), (3, .int y28.1), (4, .int s20.2)]) (st2 := fun y28 => []) (M2 := fun y28 => M7) ?_ (fun y28 => ?_)
              · refine oz_loop (Y := Int32 × Int32) 111 (fun (s21 : Int32 × Int32) => [(0, .ref (oz_b G + 62)), (1, .int a0), (3, .int s21.1), (4, .int s20.2), (5, .int s21.2)]) (fun (s21 : Int32 × Int32) => M7) (s20.1, 0) (fun s21 => ?_)
                refine oz_iload (q := 113) cx d_Model_count_111 rfl 4 rfl ?_
                refine oz_aload_n (q := 114) cx d_Model_count_113 rfl rfl 0 rfl ?_
                refine oz_get (q := 117) cx 62 1 (by decide) (ci := 8) rfl rfl tin_Model (by decide) rfl rfl tw_787 d_Model_count_114 rfl ?_
                refine oz_icmp_ge (q := 120) cx d_Model_count_117 rfl rfl (fun h27 => ?_) (fun h27 => ?_)
                · exact oz_lv [0, 1, 2, 3] rfl (oz_leaf (fun h => h))
                · refine oz_iload_n (q := 121) cx d_Model_count_120 rfl rfl 1 rfl ?_
                  refine oz_iconst (q := 122) cx d_Model_count_121 rfl (v := 3) rfl ?_
                  refine oz_icmp_ne (q := 125) cx d_Model_count_122 rfl rfl (fun h26 => ?_) (fun h26 => ?_)
                  · refine oz_aload_n (q := 140) cx d_Model_count_139 rfl rfl 0 rfl ?_
                    refine oz_iload (q := 142) cx d_Model_count_140 rfl 4 rfl ?_
                    refine oz_iload (q := 144) cx d_Model_count_142 rfl 3 rfl ?_
                    refine oz_cVip (q := 147) cx 62 [.int s21.2, .int s20.2] 2 8 hRm (by decide) (by decide) (fun _ h => c_Model_covers h) ⟨tw_903, tw_905, ts_38, tw_9⟩ tw_906 (by decide +kernel) rfl (by decide) rfl rfl (st := []) rfl (Nat.le_of_ble_eq_true rfl) d_Model_count_144 rfl (fun v22 hv22 => ?_)
                    refine oz_if_eq (q := 150) cx d_Model_count_147 rfl rfl (fun h23 => ?_) (fun h23 => ?_)
                    · refine oz_iload_n (q := 157) cx d_Model_count_156 rfl rfl 2 rfl ?_
                      refine oz_istore_n (q := 158) cx d_Model_count_157 rfl rfl (by rw [hnL]; decide) (lv2 := [(3, .int s21.1), (0, .ref (oz_b G + 62)), (1, .int a0), (4, .int s20.2), (5, .int s21.2)]) rfl ?_
                      refine oz_iinc (q := 161) cx (s21.2 + 1) d_Model_count_158 rfl 4 rfl rfl (by rw [hnL]; decide) (lv2 := [(5, .int (s21.2 + 1)), (3, .int s21.1), (0, .ref (oz_b G + 62)), (1, .int a0), (4, .int s20.2)]) rfl ?_
                      refine oz_goto cx d_Model_count_161 rfl ?_
                      exact oz_lv [2, 3, 1, 4, 0] rfl (oz_leaf (fun h => h))
                    · refine oz_iload_n (q := 151) cx d_Model_count_150 rfl rfl 2 rfl ?_
                      refine oz_iconst (q := 152) cx d_Model_count_151 rfl (v := 1) rfl ?_
                      refine oz_iadd (q := 153) cx d_Model_count_152 rfl ?_
                      refine oz_goto cx d_Model_count_153 rfl ?_
                      refine oz_istore_n (q := 158) cx d_Model_count_157 rfl rfl (by rw [hnL]; decide) (lv2 := [(3, .int (s21.1 + 1)), (0, .ref (oz_b G + 62)), (1, .int a0), (4, .int s20.2), (5, .int s21.2)]) rfl ?_
                      refine oz_iinc (q := 161) cx (s21.2 + 1) d_Model_count_158 rfl 4 rfl rfl (by rw [hnL]; decide) (lv2 := [(5, .int (s21.2 + 1)), (3, .int (s21.1 + 1)), (0, .ref (oz_b G + 62)), (1, .int a0), (4, .int s20.2)]) rfl ?_
                      refine oz_goto cx d_Model_count_161 rfl ?_
                      exact oz_lv [2, 3, 1, 4, 0] rfl (oz_leaf (fun h => h))
                  · refine oz_aload_n (q := 126) cx d_Model_count_125 rfl rfl 0 rfl ?_
                    refine oz_iload (q := 128) cx d_Model_count_126 rfl 3 rfl ?_
                    refine oz_iload (q := 130) cx d_Model_count_128 rfl 4 rfl ?_
                    refine oz_cVip (q := 133) cx 62 [.int s20.2, .int s21.2] 2 8 hRm (by decide) (by decide) (fun _ h => c_Model_isLess h) ⟨tw_871, tw_873, ts_33, tw_9⟩ tw_874 (by decide +kernel) rfl (by decide) rfl rfl (st := []) rfl (Nat.le_of_ble_eq_true rfl) d_Model_count_130 rfl (fun v24 hv24 => ?_)
                    refine oz_if_eq (q := 136) cx d_Model_count_133 rfl rfl (fun h25 => ?_) (fun h25 => ?_)
                    · refine oz_iload_n (q := 157) cx d_Model_count_156 rfl rfl 2 rfl ?_
                      refine oz_istore_n (q := 158) cx d_Model_count_157 rfl rfl (by rw [hnL]; decide) (lv2 := [(3, .int s21.1), (0, .ref (oz_b G + 62)), (1, .int a0), (4, .int s20.2), (5, .int s21.2)]) rfl ?_
                      refine oz_iinc (q := 161) cx (s21.2 + 1) d_Model_count_158 rfl 4 rfl rfl (by rw [hnL]; decide) (lv2 := [(5, .int (s21.2 + 1)), (3, .int s21.1), (0, .ref (oz_b G + 62)), (1, .int a0), (4, .int s20.2)]) rfl ?_
                      refine oz_goto cx d_Model_count_161 rfl ?_
                      exact oz_lv [2, 3, 1, 4, 0] rfl (oz_leaf (fun h => h))
                    · refine oz_goto cx d_Model_count_136 rfl ?_
                      refine oz_iload_n (q := 151) cx d_Model_count_150 rfl rfl 2 rfl ?_
                      refine oz_iconst (q := 152) cx d_Model_count_151 rfl (v := 1) rfl ?_
                      refine oz_iadd (q := 153) cx d_Model_count_152 rfl ?_
                      refine oz_goto cx d_Model_count_153 rfl ?_
                      refine oz_istore_n (q := 158) cx d_Model_count_157 rfl rfl (by rw [hnL]; decide) (lv2 := [(3, .int (s21.1 + 1)), (0, .ref (oz_b G + 62)), (1, .int a0), (4, .int s20.2), (5, .int s21.2)]) rfl ?_
                      refine oz_iinc (q := 161) cx (s21.2 + 1) d_Model_count_158 rfl 4 rfl rfl (by rw [hnL]; decide) (lv2 := [(5, .int (s21.2 + 1)), (3, .int (s21.1 + 1)), (0, .ref (oz_b G + 62)), (1, .int a0), (4, .int s20.2)]) rfl ?_
                      refine oz_goto cx d_Model_count_161 rfl ?_
                      exact oz_lv [2, 3, 1, 4, 0] rfl (oz_leaf (fun h => h))
              · refine oz_iinc (q := 167) cx (s20.2 + 1) d_Model_count_164 rfl 3 rfl rfl (by rw [hnL]; decide) (lv2 := [(4, .int (s20.2 + 1)), (0, .ref (oz_b G + 62)), (1, .int a0), (3, .int y28.1)]) rfl ?_
                refine oz_goto cx d_Model_count_167 rfl ?_
                exact oz_lv [1, 2, 3, 0] rfl (oz_leaf (fun h => h))
          · refine oz_iload_n (q := 171) cx d_Model_count_170 rfl rfl 0 rfl ?_
            exact oz_iret cx hR d_Model_count_171
      · refine oz_iload_n (q := 58) cx d_Model_count_57 rfl rfl 2 rfl ?_
        refine oz_if_ne (q := 61) cx d_Model_count_58 rfl rfl (fun h35 => ?_) (fun h35 => ?_)
        · refine oz_iload_n (q := 71) cx d_Model_count_70 rfl rfl 2 rfl ?_
          refine oz_iconst (q := 72) cx d_Model_count_71 rfl (v := 1) rfl ?_
          refine oz_icmp_ne (q := 75) cx d_Model_count_72 rfl rfl (fun h33 => ?_) (fun h33 => ?_)
          · refine oz_aload_n (q := 85) cx d_Model_count_84 rfl rfl 1 rfl ?_
            refine oz_get (q := 88) cx 62 1 (by decide) (ci := 8) rfl rfl tin_Model (by decide) rfl rfl tw_787 d_Model_count_85 rfl ?_
            exact oz_iret cx hR d_Model_count_88
          · refine oz_aload_n (q := 76) cx d_Model_count_75 rfl rfl 1 rfl ?_
            refine oz_get (q := 79) cx 62 8 (by decide) (ci := 8) rfl rfl tin_Model (by decide) rfl rfl tw_794 d_Model_count_76 rfl ?_
            refine oz_iload_n (q := 80) cx d_Model_count_79 rfl rfl 0 rfl ?_
            refine oz_bald (q := 81) cx 67 16384 (by decide) rfl d_Model_count_80 rfl (fun j32 hj32 => ?_)
            refine oz_goto cx d_Model_count_81 rfl ?_
            exact oz_iret cx hR d_Model_count_88
        · refine oz_aload_n (q := 62) cx d_Model_count_61 rfl rfl 1 rfl ?_
          refine oz_get (q := 65) cx 62 7 (by decide) (ci := 8) rfl rfl tin_Model (by decide) rfl rfl tw_793 d_Model_count_62 rfl ?_
          refine oz_iload_n (q := 66) cx d_Model_count_65 rfl rfl 0 rfl ?_
          refine oz_bald (q := 67) cx 66 16384 (by decide) rfl d_Model_count_66 rfl (fun j34 hj34 => ?_)
          refine oz_goto cx d_Model_count_67 rfl ?_
          exact oz_iret cx hR d_Model_count_88
    · refine oz_iconst (q := 38) cx d_Model_count_37 rfl (v := 0) rfl ?_
      exact oz_iret cx hR d_Model_count_38
def y_Model_firstHeld : MethodName := ⟨"OrderHallModel", "firstHeld", "(II)I"⟩
theorem d_Model_firstHeld_0 : decode prog_10_method_32_code 0 = .ok (.aload_n 0, 1) := by decide +kernel
theorem d_Model_firstHeld_1 : decode prog_10_method_32_code 1 = .ok (.invokevirtual 115, 3) := by decide +kernel
theorem d_Model_firstHeld_4 : decode prog_10_method_32_code 4 = .ok (.iconst 0, 1) := by decide +kernel
theorem d_Model_firstHeld_5 : decode prog_10_method_32_code 5 = .ok (.istore_n 3, 1) := by decide +kernel
theorem d_Model_firstHeld_6 : decode prog_10_method_32_code 6 = .ok (.iconst 0, 1) := by decide +kernel
theorem d_Model_firstHeld_7 : decode prog_10_method_32_code 7 = .ok (.istore 4, 2) := by decide +kernel
theorem d_Model_firstHeld_9 : decode prog_10_method_32_code 9 = .ok (.iload 4, 2) := by decide +kernel
theorem d_Model_firstHeld_11 : decode prog_10_method_32_code 11 = .ok (.iconst 1, 1) := by decide +kernel
theorem d_Model_firstHeld_12 : decode prog_10_method_32_code 12 = .ok (.aload_n 0, 1) := by decide +kernel
theorem d_Model_firstHeld_13 : decode prog_10_method_32_code 13 = .ok (.getfield 7, 3) := by decide +kernel
theorem d_Model_firstHeld_16 : decode prog_10_method_32_code 16 = .ok (.ishl, 1) := by decide +kernel
theorem d_Model_firstHeld_17 : decode prog_10_method_32_code 17 = .ok (.if_icmp .ge 39, 3) := by decide +kernel
theorem d_Model_firstHeld_20 : decode prog_10_method_32_code 20 = .ok (.aload_n 0, 1) := by decide +kernel
theorem d_Model_firstHeld_21 : decode prog_10_method_32_code 21 = .ok (.iload_n 1, 1) := by decide +kernel
theorem d_Model_firstHeld_22 : decode prog_10_method_32_code 22 = .ok (.iload_n 2, 1) := by decide +kernel
theorem d_Model_firstHeld_23 : decode prog_10_method_32_code 23 = .ok (.iload 4, 2) := by decide +kernel
theorem d_Model_firstHeld_25 : decode prog_10_method_32_code 25 = .ok (.invokevirtual 125, 3) := by decide +kernel
theorem d_Model_firstHeld_28 : decode prog_10_method_32_code 28 = .ok (.ifCond .eq 20, 3) := by decide +kernel
theorem d_Model_firstHeld_31 : decode prog_10_method_32_code 31 = .ok (.iload 4, 2) := by decide +kernel
theorem d_Model_firstHeld_33 : decode prog_10_method_32_code 33 = .ok (.invokestatic 103, 3) := by decide +kernel
theorem d_Model_firstHeld_36 : decode prog_10_method_32_code 36 = .ok (.iload_n 3, 1) := by decide +kernel
theorem d_Model_firstHeld_37 : decode prog_10_method_32_code 37 = .ok (.invokestatic 103, 3) := by decide +kernel
theorem d_Model_firstHeld_40 : decode prog_10_method_32_code 40 = .ok (.if_icmp .le 8, 3) := by decide +kernel
theorem d_Model_firstHeld_43 : decode prog_10_method_32_code 43 = .ok (.iload 4, 2) := by decide +kernel
theorem d_Model_firstHeld_45 : decode prog_10_method_32_code 45 = .ok (.goto 4, 3) := by decide +kernel
theorem d_Model_firstHeld_48 : decode prog_10_method_32_code 48 = .ok (.iload_n 3, 1) := by decide +kernel
theorem d_Model_firstHeld_49 : decode prog_10_method_32_code 49 = .ok (.istore_n 3, 1) := by decide +kernel
theorem d_Model_firstHeld_50 : decode prog_10_method_32_code 50 = .ok (.iinc 4 1, 3) := by decide +kernel
theorem d_Model_firstHeld_53 : decode prog_10_method_32_code 53 = .ok (.goto (-44), 3) := by decide +kernel
theorem d_Model_firstHeld_56 : decode prog_10_method_32_code 56 = .ok (.iload_n 3, 1) := by decide +kernel
theorem d_Model_firstHeld_57 : decode prog_10_method_32_code 57 = .ok (.ireturn, 1) := by decide +kernel
noncomputable def f_Model_firstHeld (a0 : Int32) (a1 : Int32) (M : oz_M) : Option (Int32 × oz_M) := oz_b2 (f_Model_know M) fun v1 M2 => (oz_lp (fun (s3 : Int32 × Int32) => (if s3.2 < (1 <<< ((M2.1 62 1) &&& 31)) then ((f_Model_isHeld a0 a1 s3.2 M2).bind fun v4 => if v4 = 0 then (some (.inl (s3.1, s3.2 + 1))) else ((f_Model_sizeOf s3.2 M2).bind fun v5 => (f_Model_sizeOf s3.1 M2).bind fun v6 => if v6 < v5 then (some (.inl (s3.2, s3.2 + 1))) else (some (.inl (s3.1, s3.2 + 1))))) else (some (.inr (s3.1, s3.2))) : Option ((Int32 × Int32) ⊕ (Int32 × Int32)))) (0, 0)).bind fun (y10 : Int32 × Int32) => some (y10.1, M2)
set_option maxRecDepth 20000 in
set_option maxHeartbeats 4000000 in
theorem c_Model_firstHeld {l : Launch} {D : va_G} {cs : Nat → ClassId} {b : Nat} {a0 : Int32} {a1 : Int32} {M : oz_M} {vz : Int32} {Mz : oz_M} (hF : f_Model_firstHeld a0 a1 M = some (vz, Mz)) : oz_Met l D cs b y_Model_firstHeld prog_10_method_32_code 5 (some .int) (oz_rm 4) [.ref (b + 62), .int a0, .int a1] M (some (.int vz)) Mz := by
  refine oz_enter (by decide) (Nat.le_of_ble_eq_true rfl) (fun G cx hR e1 hRm e2 e3 e4 hnL => ?_)
  subst e1; subst e2; subst e3; subst e4
  refine (?_ : oz_R G 0 [(0, .ref (oz_b G + 62)), (1, .int a0), (2, .int a1)] [] M (f_Model_firstHeld a0 a1 M) (fun x => x = (vz, Mz))) _ hF rfl
  unfold f_Model_firstHeld
  refine oz_aload_n (q := 1) cx d_Model_firstHeld_0 rfl rfl 0 rfl ?_
  refine oz_cVv (q := 4) cx 62 [] 0 8 hRm (by decide) (by decide) (fun _ _ h => c_Model_know h) ⟨tw_915, tw_917, ts_40, tw_9⟩ tw_918 (by decide +kernel) rfl (by decide) rfl rfl (st := []) rfl (Nat.le_of_ble_eq_true rfl) d_Model_firstHeld_1 rfl (fun v1 M2 hv1 => ?_)
  refine oz_iconst (q := 5) cx d_Model_firstHeld_4 rfl (v := 0) rfl ?_
  refine oz_istore_n (q := 6) cx d_Model_firstHeld_5 rfl rfl (by rw [hnL]; decide) (lv2 := [(3, .int 0), (0, .ref (oz_b G + 62)), (1, .int a0), (2, .int a1)]) rfl ?_
  refine oz_iconst (q := 7) cx d_Model_firstHeld_6 rfl (v := 0) rfl ?_
  refine oz_istore (q := 9) cx d_Model_firstHeld_7 rfl (by rw [hnL]; decide) (lv2 := [(4, .int 0), (3, .int 0), (0, .ref (oz_b G + 62)), (1, .int a0), (2, .int a1)]) rfl ?_
  refine oz_lv [2, 3, 4, 1, 0] rfl ?_
  refine oz_seq (p2 := 56) (lv2 := fun (y10 : Int32 × Int32) => [(3, .int y10.1)]) (st2 := fun y10 => []) (M2 := fun y10 => M2) ?_ (fun y10 => ?_)
  · refine oz_loop (Y := Int32 × Int32) 9 (fun (s3 : Int32 × Int32) => [(0, .ref (oz_b G + 62)), (1, .int a0), (2, .int a1), (3, .int s3.1), (4, .int s3.2)]) (fun (s3 : Int32 × Int32) => M2) (0, 0) (fun s3 => ?_)
    refine oz_iload (q := 11) cx d_Model_firstHeld_9 rfl 4 rfl ?_
    refine oz_iconst (q := 12) cx d_Model_firstHeld_11 rfl (v := 1) rfl ?_
    refine oz_aload_n (q := 13) cx d_Model_firstHeld_12 rfl rfl 0 rfl ?_
    refine oz_get (q := 16) cx 62 1 (by decide) (ci := 8) rfl rfl tin_Model (by decide) rfl rfl tw_787 d_Model_firstHeld_13 rfl ?_
    refine oz_ishl (q := 17) cx d_Model_firstHeld_16 rfl ?_
    refine oz_icmp_ge (q := 20) cx d_Model_firstHeld_17 rfl rfl (fun h9 => ?_) (fun h9 => ?_)
    · exact oz_lv [3] rfl (oz_leaf (fun h => h))
    · refine oz_aload_n (q := 21) cx d_Model_firstHeld_20 rfl rfl 0 rfl ?_
      refine oz_iload_n (q := 22) cx d_Model_firstHeld_21 rfl rfl 1 rfl ?_
      refine oz_iload_n (q := 23) cx d_Model_firstHeld_22 rfl rfl 2 rfl ?_
      refine oz_iload (q := 25) cx d_Model_firstHeld_23 rfl 4 rfl ?_
      refine oz_cVip (q := 28) cx 62 [.int a0, .int a1, .int s3.2] 3 8 hRm (by decide) (by decide) (fun _ h => c_Model_isHeld h) ⟨tw_965, tw_967, ts_48, tw_9⟩ tw_968 (by decide +kernel) rfl (by decide) rfl rfl (st := []) rfl (Nat.le_of_ble_eq_true rfl) d_Model_firstHeld_25 rfl (fun v4 hv4 => ?_)
      refine oz_if_eq (q := 31) cx d_Model_firstHeld_28 rfl rfl (fun h8 => ?_) (fun h8 => ?_)
      · refine oz_iload_n (q := 49) cx d_Model_firstHeld_48 rfl rfl 3 rfl ?_
        refine oz_istore_n (q := 50) cx d_Model_firstHeld_49 rfl rfl (by rw [hnL]; decide) (lv2 := [(3, .int s3.1), (0, .ref (oz_b G + 62)), (1, .int a0), (2, .int a1), (4, .int s3.2)]) rfl ?_
        refine oz_iinc (q := 53) cx (s3.2 + 1) d_Model_firstHeld_50 rfl 4 rfl rfl (by rw [hnL]; decide) (lv2 := [(4, .int (s3.2 + 1)), (3, .int s3.1), (0, .ref (oz_b G + 62)), (1, .int a0), (2, .int a1)]) rfl ?_
        refine oz_goto cx d_Model_firstHeld_53 rfl ?_
        exact oz_lv [2, 3, 4, 1, 0] rfl (oz_leaf (fun h => h))
      · refine oz_iload (q := 33) cx d_Model_firstHeld_31 rfl 4 rfl ?_
        refine oz_cSip (q := 36) cx [.int s3.2] 1 hRm (by decide) (by decide) (fun _ h => c_Model_sizeOf h) ⟨tw_919, tw_920, tw_9⟩ tw_921 (by decide +kernel) rfl (st := []) rfl (Nat.le_of_ble_eq_true rfl) d_Model_firstHeld_33 rfl (fun v5 hv5 => ?_)
        refine oz_iload_n (q := 37) cx d_Model_firstHeld_36 rfl rfl 3 rfl ?_
        refine oz_cSip (q := 40) cx [.int s3.1] 1 hRm (by decide) (by decide) (fun _ h => c_Model_sizeOf h) ⟨tw_919, tw_920, tw_9⟩ tw_921 (by decide +kernel) rfl (st := [.int v5]) rfl (Nat.le_of_ble_eq_true rfl) d_Model_firstHeld_37 rfl (fun v6 hv6 => ?_)
        refine oz_icmp_le (q := 43) cx d_Model_firstHeld_40 rfl rfl (fun h7 => ?_) (fun h7 => ?_)
        · refine oz_iload_n (q := 49) cx d_Model_firstHeld_48 rfl rfl 3 rfl ?_
          refine oz_istore_n (q := 50) cx d_Model_firstHeld_49 rfl rfl (by rw [hnL]; decide) (lv2 := [(3, .int s3.1), (0, .ref (oz_b G + 62)), (1, .int a0), (2, .int a1), (4, .int s3.2)]) rfl ?_
          refine oz_iinc (q := 53) cx (s3.2 + 1) d_Model_firstHeld_50 rfl 4 rfl rfl (by rw [hnL]; decide) (lv2 := [(4, .int (s3.2 + 1)), (3, .int s3.1), (0, .ref (oz_b G + 62)), (1, .int a0), (2, .int a1)]) rfl ?_
          refine oz_goto cx d_Model_firstHeld_53 rfl ?_
          exact oz_lv [2, 3, 4, 1, 0] rfl (oz_leaf (fun h => h))
        · refine oz_iload (q := 45) cx d_Model_firstHeld_43 rfl 4 rfl ?_
          refine oz_goto cx d_Model_firstHeld_45 rfl ?_
          refine oz_istore_n (q := 50) cx d_Model_firstHeld_49 rfl rfl (by rw [hnL]; decide) (lv2 := [(3, .int s3.2), (0, .ref (oz_b G + 62)), (1, .int a0), (2, .int a1), (4, .int s3.2)]) rfl ?_
          refine oz_iinc (q := 53) cx (s3.2 + 1) d_Model_firstHeld_50 rfl 4 rfl rfl (by rw [hnL]; decide) (lv2 := [(4, .int (s3.2 + 1)), (3, .int s3.2), (0, .ref (oz_b G + 62)), (1, .int a0), (2, .int a1)]) rfl ?_
          refine oz_goto cx d_Model_firstHeld_53 rfl ?_
          exact oz_lv [2, 3, 4, 1, 0] rfl (oz_leaf (fun h => h))
  · refine oz_iload_n (q := 57) cx d_Model_firstHeld_56 rfl rfl 0 rfl ?_
    exact oz_iret cx hR d_Model_firstHeld_57
