def y_Model_isUnder : MethodName := ⟨"OrderHallModel", "isUnder", "(IIZ)Z"⟩
theorem d_Model_isUnder_0 : decode prog_10_method_29_code 0 = .ok (.iconst 1, 1) := by decide +kernel
theorem d_Model_isUnder_1 : decode prog_10_method_29_code 1 = .ok (.istore 4, 2) := by decide +kernel
theorem d_Model_isUnder_3 : decode prog_10_method_29_code 3 = .ok (.iconst 0, 1) := by decide +kernel
theorem d_Model_isUnder_4 : decode prog_10_method_29_code 4 = .ok (.istore 5, 2) := by decide +kernel
theorem d_Model_isUnder_6 : decode prog_10_method_29_code 6 = .ok (.iload 5, 2) := by decide +kernel
theorem d_Model_isUnder_8 : decode prog_10_method_29_code 8 = .ok (.aload_n 0, 1) := by decide +kernel
theorem d_Model_isUnder_9 : decode prog_10_method_29_code 9 = .ok (.getfield 7, 3) := by decide +kernel
theorem d_Model_isUnder_12 : decode prog_10_method_29_code 12 = .ok (.if_icmp .ge 117, 3) := by decide +kernel
theorem d_Model_isUnder_15 : decode prog_10_method_29_code 15 = .ok (.iload_n 1, 1) := by decide +kernel
theorem d_Model_isUnder_16 : decode prog_10_method_29_code 16 = .ok (.iload 5, 2) := by decide +kernel
theorem d_Model_isUnder_18 : decode prog_10_method_29_code 18 = .ok (.invokestatic 100, 3) := by decide +kernel
theorem d_Model_isUnder_21 : decode prog_10_method_29_code 21 = .ok (.ifCond .ne 7, 3) := by decide +kernel
theorem d_Model_isUnder_24 : decode prog_10_method_29_code 24 = .ok (.iconst 1, 1) := by decide +kernel
theorem d_Model_isUnder_25 : decode prog_10_method_29_code 25 = .ok (.goto 4, 3) := by decide +kernel
theorem d_Model_isUnder_28 : decode prog_10_method_29_code 28 = .ok (.iconst 0, 1) := by decide +kernel
theorem d_Model_isUnder_29 : decode prog_10_method_29_code 29 = .ok (.istore 6, 2) := by decide +kernel
theorem d_Model_isUnder_31 : decode prog_10_method_29_code 31 = .ok (.iconst 0, 1) := by decide +kernel
theorem d_Model_isUnder_32 : decode prog_10_method_29_code 32 = .ok (.istore 7, 2) := by decide +kernel
theorem d_Model_isUnder_34 : decode prog_10_method_29_code 34 = .ok (.iload 7, 2) := by decide +kernel
theorem d_Model_isUnder_36 : decode prog_10_method_29_code 36 = .ok (.aload_n 0, 1) := by decide +kernel
theorem d_Model_isUnder_37 : decode prog_10_method_29_code 37 = .ok (.getfield 7, 3) := by decide +kernel
theorem d_Model_isUnder_40 : decode prog_10_method_29_code 40 = .ok (.if_icmp .ge 66, 3) := by decide +kernel
theorem d_Model_isUnder_43 : decode prog_10_method_29_code 43 = .ok (.iload 6, 2) := by decide +kernel
theorem d_Model_isUnder_45 : decode prog_10_method_29_code 45 = .ok (.ifCond .ne 48, 3) := by decide +kernel
theorem d_Model_isUnder_48 : decode prog_10_method_29_code 48 = .ok (.iload_n 2, 1) := by decide +kernel
theorem d_Model_isUnder_49 : decode prog_10_method_29_code 49 = .ok (.iload 7, 2) := by decide +kernel
theorem d_Model_isUnder_51 : decode prog_10_method_29_code 51 = .ok (.invokestatic 100, 3) := by decide +kernel
theorem d_Model_isUnder_54 : decode prog_10_method_29_code 54 = .ok (.ifCond .eq 43, 3) := by decide +kernel
theorem d_Model_isUnder_57 : decode prog_10_method_29_code 57 = .ok (.iload 5, 2) := by decide +kernel
theorem d_Model_isUnder_59 : decode prog_10_method_29_code 59 = .ok (.iload 7, 2) := by decide +kernel
theorem d_Model_isUnder_61 : decode prog_10_method_29_code 61 = .ok (.if_icmp .eq 32, 3) := by decide +kernel
theorem d_Model_isUnder_64 : decode prog_10_method_29_code 64 = .ok (.iload_n 3, 1) := by decide +kernel
theorem d_Model_isUnder_65 : decode prog_10_method_29_code 65 = .ok (.ifCond .eq 17, 3) := by decide +kernel
theorem d_Model_isUnder_68 : decode prog_10_method_29_code 68 = .ok (.aload_n 0, 1) := by decide +kernel
theorem d_Model_isUnder_69 : decode prog_10_method_29_code 69 = .ok (.iload 7, 2) := by decide +kernel
theorem d_Model_isUnder_71 : decode prog_10_method_29_code 71 = .ok (.iload 5, 2) := by decide +kernel
theorem d_Model_isUnder_73 : decode prog_10_method_29_code 73 = .ok (.invokevirtual 77, 3) := by decide +kernel
theorem d_Model_isUnder_76 : decode prog_10_method_29_code 76 = .ok (.ifCond .eq 21, 3) := by decide +kernel
theorem d_Model_isUnder_79 : decode prog_10_method_29_code 79 = .ok (.goto 14, 3) := by decide +kernel
theorem d_Model_isUnder_82 : decode prog_10_method_29_code 82 = .ok (.aload_n 0, 1) := by decide +kernel
theorem d_Model_isUnder_83 : decode prog_10_method_29_code 83 = .ok (.iload 5, 2) := by decide +kernel
theorem d_Model_isUnder_85 : decode prog_10_method_29_code 85 = .ok (.iload 7, 2) := by decide +kernel
theorem d_Model_isUnder_87 : decode prog_10_method_29_code 87 = .ok (.invokevirtual 77, 3) := by decide +kernel
theorem d_Model_isUnder_90 : decode prog_10_method_29_code 90 = .ok (.ifCond .eq 7, 3) := by decide +kernel
theorem d_Model_isUnder_93 : decode prog_10_method_29_code 93 = .ok (.iconst 1, 1) := by decide +kernel
theorem d_Model_isUnder_94 : decode prog_10_method_29_code 94 = .ok (.goto 4, 3) := by decide +kernel
theorem d_Model_isUnder_97 : decode prog_10_method_29_code 97 = .ok (.iconst 0, 1) := by decide +kernel
theorem d_Model_isUnder_98 : decode prog_10_method_29_code 98 = .ok (.istore 6, 2) := by decide +kernel
theorem d_Model_isUnder_100 : decode prog_10_method_29_code 100 = .ok (.iinc 7 1, 3) := by decide +kernel
theorem d_Model_isUnder_103 : decode prog_10_method_29_code 103 = .ok (.goto (-69), 3) := by decide +kernel
theorem d_Model_isUnder_106 : decode prog_10_method_29_code 106 = .ok (.iload 4, 2) := by decide +kernel
theorem d_Model_isUnder_108 : decode prog_10_method_29_code 108 = .ok (.ifCond .eq 12, 3) := by decide +kernel
theorem d_Model_isUnder_111 : decode prog_10_method_29_code 111 = .ok (.iload 6, 2) := by decide +kernel
theorem d_Model_isUnder_113 : decode prog_10_method_29_code 113 = .ok (.ifCond .eq 7, 3) := by decide +kernel
theorem d_Model_isUnder_116 : decode prog_10_method_29_code 116 = .ok (.iconst 1, 1) := by decide +kernel
theorem d_Model_isUnder_117 : decode prog_10_method_29_code 117 = .ok (.goto 4, 3) := by decide +kernel
theorem d_Model_isUnder_120 : decode prog_10_method_29_code 120 = .ok (.iconst 0, 1) := by decide +kernel
theorem d_Model_isUnder_121 : decode prog_10_method_29_code 121 = .ok (.istore 4, 2) := by decide +kernel
theorem d_Model_isUnder_123 : decode prog_10_method_29_code 123 = .ok (.iinc 5 1, 3) := by decide +kernel
theorem d_Model_isUnder_126 : decode prog_10_method_29_code 126 = .ok (.goto (-120), 3) := by decide +kernel
theorem d_Model_isUnder_129 : decode prog_10_method_29_code 129 = .ok (.iload 4, 2) := by decide +kernel
theorem d_Model_isUnder_131 : decode prog_10_method_29_code 131 = .ok (.ireturn, 1) := by decide +kernel
noncomputable def f_Model_isUnder (a0 : Int32) (a1 : Int32) (a2 : Int32) (M : oz_M) : Option (Int32) := (oz_lp (fun (s1 : Int32 × Int32) => (if s1.2 < (M.1 62 1) then ((f_Model_has a0 s1.2 M).bind fun v2 => (if v2 = 0 then (some 1) else (some 0)).bind fun (z3 : Int32) => (oz_lp (fun (s5 : Int32 × Int32) => (if s5.2 < (M.1 62 1) then (if s5.1 = 0 then ((f_Model_has a1 s5.2 M).bind fun v6 => if v6 = 0 then (some (.inl (0, s5.2 + 1))) else (if s1.2 = s5.2 then (some (.inl (1, s5.2 + 1))) else (if a2 = 0 then ((f_Model_isLess s1.2 s5.2 M).bind fun v7 => if v7 = 0 then (some (.inl (0, s5.2 + 1))) else (some (.inl (1, s5.2 + 1)))) else ((f_Model_isLess s5.2 s1.2 M).bind fun v9 => if v9 = 0 then (some (.inl (0, s5.2 + 1))) else (some (.inl (1, s5.2 + 1))))))) else (some (.inl (1, s5.2 + 1)))) else (some (.inr (s5.1, s5.2))) : Option ((Int32 × Int32) ⊕ (Int32 × Int32)))) (z3, 0)).bind fun (y16 : Int32 × Int32) => if s1.1 = 0 then (some (.inl (0, s1.2 + 1))) else (if y16.1 = 0 then (some (.inl (0, s1.2 + 1))) else (some (.inl (1, s1.2 + 1))))) else (some (.inr (s1.1, s1.2))) : Option ((Int32 × Int32) ⊕ (Int32 × Int32)))) (1, 0)).bind fun (y20 : Int32 × Int32) => oz_z y20.1
set_option maxRecDepth 20000 in
set_option maxHeartbeats 4000000 in
theorem c_Model_isUnder {l : Launch} {D : va_G} {cs : Nat → ClassId} {b : Nat} {a0 : Int32} {a1 : Int32} {a2 : Int32} {M : oz_M} {vz : Int32} (hF : f_Model_isUnder a0 a1 a2 M = some vz) : oz_Met l D cs b y_Model_isUnder prog_10_method_29_code 8 (some .boolean) (oz_rm 1) [.ref (b + 62), .int a0, .int a1, .int a2] M (some (.int vz)) M := by
  refine oz_enter (by decide) (Nat.le_of_ble_eq_true rfl) (fun G cx hR e1 hRm e2 e3 e4 hnL => ?_)
  subst e1; subst e2; subst e3; subst e4
  refine (?_ : oz_R G 0 [(0, .ref (oz_b G + 62)), (1, .int a0), (2, .int a1), (3, .int a2)] [] M (f_Model_isUnder a0 a1 a2 M) (fun x => x = vz)) _ hF rfl
  unfold f_Model_isUnder
  refine oz_iconst (q := 1) cx d_Model_isUnder_0 rfl (v := 1) rfl ?_
  refine oz_istore (q := 3) cx d_Model_isUnder_1 rfl (by rw [hnL]; decide) (lv2 := [(4, .int 1), (0, .ref (oz_b G + 62)), (1, .int a0), (2, .int a1), (3, .int a2)]) rfl ?_
  refine oz_iconst (q := 4) cx d_Model_isUnder_3 rfl (v := 0) rfl ?_
  refine oz_istore (q := 6) cx d_Model_isUnder_4 rfl (by rw [hnL]; decide) (lv2 := [(5, .int 0), (4, .int 1), (0, .ref (oz_b G + 62)), (1, .int a0), (2, .int a1), (3, .int a2)]) rfl ?_
  refine oz_lv [2, 3, 4, 5, 1, 0] rfl ?_
  refine oz_seq (p2 := 129) (lv2 := fun (y20 : Int32 × Int32) => [(4, .int y20.1)]) (st2 := fun y20 => []) (M2 := fun y20 => M) ?_ (fun y20 => ?_)
  · refine oz_loop (Y := Int32 × Int32) 6 (fun (s1 : Int32 × Int32) => [(0, .ref (oz_b G + 62)), (1, .int a0), (2, .int a1), (3, .int a2), (4, .int s1.1), (5, .int s1.2)]) (fun (s1 : Int32 × Int32) => M) (1, 0) (fun s1 => ?_)
    refine oz_iload (q := 8) cx d_Model_isUnder_6 rfl 5 rfl ?_
    refine oz_aload_n (q := 9) cx d_Model_isUnder_8 rfl rfl 0 rfl ?_
    refine oz_get (q := 12) cx 62 1 (by decide) (ci := 8) rfl rfl tin_Model (by decide) rfl rfl tw_787 d_Model_isUnder_9 rfl ?_
    refine oz_icmp_ge (q := 15) cx d_Model_isUnder_12 rfl rfl (fun h19 => ?_) (fun h19 => ?_)
    · exact oz_lv [4] rfl (oz_leaf (fun h => h))
    · refine oz_iload_n (q := 16) cx d_Model_isUnder_15 rfl rfl 1 rfl ?_
      refine oz_iload (q := 18) cx d_Model_isUnder_16 rfl 5 rfl ?_
      refine oz_cSip (q := 21) cx [.int a0, .int s1.2] 2 hRm (by decide) (by decide) (fun _ h => c_Model_has h) ⟨tw_922, tw_923, tw_9⟩ tw_924 (by decide +kernel) rfl (st := []) rfl (Nat.le_of_ble_eq_true rfl) d_Model_isUnder_18 rfl (fun v2 hv2 => ?_)
      refine oz_seq (p2 := 29) (lv2 := fun (z3 : Int32) => [(0, .ref (oz_b G + 62)), (1, .int a0), (2, .int a1), (3, .int a2), (4, .int s1.1), (5, .int s1.2)]) (st2 := fun z3 => [.int z3]) (M2 := fun z3 => M) ?_ (fun z3 => ?_)
      · refine oz_if_ne (q := 24) cx d_Model_isUnder_21 rfl rfl (fun h4 => ?_) (fun h4 => ?_)
        · refine oz_iconst (q := 29) cx d_Model_isUnder_28 rfl (v := 0) rfl ?_
          exact oz_lv [0, 1, 2, 3, 4, 5] rfl (oz_leaf (fun h => h))
        · refine oz_iconst (q := 25) cx d_Model_isUnder_24 rfl (v := 1) rfl ?_
          refine oz_goto cx d_Model_isUnder_25 rfl ?_
          exact oz_lv [0, 1, 2, 3, 4, 5] rfl (oz_leaf (fun h => h))
      · refine oz_istore (q := 31) cx d_Model_isUnder_29 rfl (by rw [hnL]; decide) (lv2 := [(6, .int z3), (0, .ref (oz_b G + 62)), (1, .int a0), (2, .int a1), (3, .int a2), (4, .int s1.1), (5, .int s1.2)]) rfl ?_
        refine oz_iconst (q := 32) cx d_Model_isUnder_31 rfl (v := 0) rfl ?_
        refine oz_istore (q := 34) cx d_Model_isUnder_32 rfl (by rw [hnL]; decide) (lv2 := [(7, .int 0), (6, .int z3), (0, .ref (oz_b G + 62)), (1, .int a0), (2, .int a1), (3, .int a2), (4, .int s1.1), (5, .int s1.2)]) rfl ?_
        refine oz_lv [2, 3, 4, 5, 6, 7, 1, 0] rfl ?_
        refine oz_seq (p2 := 106) (lv2 := fun (y16 : Int32 × Int32) => [(0, .ref (oz_b G + 62)), (1, .int a0), (2, .int a1), (3, .int a2), (4, .int s1.1), (5, .int s1.2), (6, .int y16.1)]) (st2 := fun y16 => []) (M2 := fun y16 => M) ?_ (fun y16 => ?_)
        · refine oz_loop (Y := Int32 × Int32) 34 (fun (s5 : Int32 × Int32) => [(0, .ref (oz_b G + 62)), (1, .int a0), (2, .int a1), (3, .int a2), (4, .int s1.1), (5, .int s1.2), (6, .int s5.1), (7, .int s5.2)]) (fun (s5 : Int32 × Int32) => M) (z3, 0) (fun s5 => ?_)
          refine oz_iload (q := 36) cx d_Model_isUnder_34 rfl 7 rfl ?_
          refine oz_aload_n (q := 37) cx d_Model_isUnder_36 rfl rfl 0 rfl ?_
          refine oz_get (q := 40) cx 62 1 (by decide) (ci := 8) rfl rfl tin_Model (by decide) rfl rfl tw_787 d_Model_isUnder_37 rfl ?_
          refine oz_icmp_ge (q := 43) cx d_Model_isUnder_40 rfl rfl (fun h15 => ?_) (fun h15 => ?_)
          · exact oz_lv [0, 1, 2, 3, 4, 5, 6] rfl (oz_leaf (fun h => h))
          · refine oz_iload (q := 45) cx d_Model_isUnder_43 rfl 6 rfl ?_
            refine oz_if_ne (q := 48) cx d_Model_isUnder_45 rfl rfl (fun h14 => ?_) (fun h14 => ?_)
            · refine oz_iconst (q := 94) cx d_Model_isUnder_93 rfl (v := 1) rfl ?_
              refine oz_goto cx d_Model_isUnder_94 rfl ?_
              refine oz_istore (q := 100) cx d_Model_isUnder_98 rfl (by rw [hnL]; decide) (lv2 := [(6, .int 1), (0, .ref (oz_b G + 62)), (1, .int a0), (2, .int a1), (3, .int a2), (4, .int s1.1), (5, .int s1.2), (7, .int s5.2)]) rfl ?_
              refine oz_iinc (q := 103) cx (s5.2 + 1) d_Model_isUnder_100 rfl 7 rfl rfl (by rw [hnL]; decide) (lv2 := [(7, .int (s5.2 + 1)), (6, .int 1), (0, .ref (oz_b G + 62)), (1, .int a0), (2, .int a1), (3, .int a2), (4, .int s1.1), (5, .int s1.2)]) rfl ?_
              refine oz_goto cx d_Model_isUnder_103 rfl ?_
              exact oz_lv [2, 3, 4, 5, 6, 7, 1, 0] rfl (oz_leaf (fun h => h))
            · refine oz_iload_n (q := 49) cx d_Model_isUnder_48 rfl rfl 2 rfl ?_
              refine oz_iload (q := 51) cx d_Model_isUnder_49 rfl 7 rfl ?_
              refine oz_cSip (q := 54) cx [.int a1, .int s5.2] 2 hRm (by decide) (by decide) (fun _ h => c_Model_has h) ⟨tw_922, tw_923, tw_9⟩ tw_924 (by decide +kernel) rfl (st := []) rfl (Nat.le_of_ble_eq_true rfl) d_Model_isUnder_51 rfl (fun v6 hv6 => ?_)
              refine oz_if_eq (q := 57) cx d_Model_isUnder_54 rfl rfl (fun h13 => ?_) (fun h13 => ?_)
              · refine oz_iconst (q := 98) cx d_Model_isUnder_97 rfl (v := 0) rfl ?_
                refine oz_istore (q := 100) cx d_Model_isUnder_98 rfl (by rw [hnL]; decide) (lv2 := [(6, .int 0), (0, .ref (oz_b G + 62)), (1, .int a0), (2, .int a1), (3, .int a2), (4, .int s1.1), (5, .int s1.2), (7, .int s5.2)]) rfl ?_
                refine oz_iinc (q := 103) cx (s5.2 + 1) d_Model_isUnder_100 rfl 7 rfl rfl (by rw [hnL]; decide) (lv2 := [(7, .int (s5.2 + 1)), (6, .int 0), (0, .ref (oz_b G + 62)), (1, .int a0), (2, .int a1), (3, .int a2), (4, .int s1.1), (5, .int s1.2)]) rfl ?_
                refine oz_goto cx d_Model_isUnder_103 rfl ?_
                exact oz_lv [2, 3, 4, 5, 6, 7, 1, 0] rfl (oz_leaf (fun h => h))
              · refine oz_iload (q := 59) cx d_Model_isUnder_57 rfl 5 rfl ?_
                refine oz_iload (q := 61) cx d_Model_isUnder_59 rfl 7 rfl ?_
                refine oz_icmp_eq (q := 64) cx d_Model_isUnder_61 rfl rfl (fun h12 => ?_) (fun h12 => ?_)
                · refine oz_iconst (q := 94) cx d_Model_isUnder_93 rfl (v := 1) rfl ?_
                  refine oz_goto cx d_Model_isUnder_94 rfl ?_
                  refine oz_istore (q := 100) cx d_Model_isUnder_98 rfl (by rw [hnL]; decide) (lv2 := [(6, .int 1), (0, .ref (oz_b G + 62)), (1, .int a0), (2, .int a1), (3, .int a2), (4, .int s1.1), (5, .int s1.2), (7, .int s5.2)]) rfl ?_
                  refine oz_iinc (q := 103) cx (s5.2 + 1) d_Model_isUnder_100 rfl 7 rfl rfl (by rw [hnL]; decide) (lv2 := [(7, .int (s5.2 + 1)), (6, .int 1), (0, .ref (oz_b G + 62)), (1, .int a0), (2, .int a1), (3, .int a2), (4, .int s1.1), (5, .int s1.2)]) rfl ?_
                  refine oz_goto cx d_Model_isUnder_103 rfl ?_
                  exact oz_lv [2, 3, 4, 5, 6, 7, 1, 0] rfl (oz_leaf (fun h => h))
                · refine oz_iload_n (q := 65) cx d_Model_isUnder_64 rfl rfl 3 rfl ?_
                  refine oz_if_eq (q := 68) cx d_Model_isUnder_65 rfl rfl (fun h11 => ?_) (fun h11 => ?_)
                  · refine oz_aload_n (q := 83) cx d_Model_isUnder_82 rfl rfl 0 rfl ?_
                    refine oz_iload (q := 85) cx d_Model_isUnder_83 rfl 5 rfl ?_
                    refine oz_iload (q := 87) cx d_Model_isUnder_85 rfl 7 rfl ?_
                    refine oz_cVip (q := 90) cx 62 [.int s1.2, .int s5.2] 2 8 hRm (by decide) (by decide) (fun _ h => c_Model_isLess h) ⟨tw_871, tw_873, ts_33, tw_9⟩ tw_874 (by decide +kernel) rfl (by decide) rfl rfl (st := []) rfl (Nat.le_of_ble_eq_true rfl) d_Model_isUnder_87 rfl (fun v7 hv7 => ?_)
                    refine oz_if_eq (q := 93) cx d_Model_isUnder_90 rfl rfl (fun h8 => ?_) (fun h8 => ?_)
                    · refine oz_iconst (q := 98) cx d_Model_isUnder_97 rfl (v := 0) rfl ?_
                      refine oz_istore (q := 100) cx d_Model_isUnder_98 rfl (by rw [hnL]; decide) (lv2 := [(6, .int 0), (0, .ref (oz_b G + 62)), (1, .int a0), (2, .int a1), (3, .int a2), (4, .int s1.1), (5, .int s1.2), (7, .int s5.2)]) rfl ?_
                      refine oz_iinc (q := 103) cx (s5.2 + 1) d_Model_isUnder_100 rfl 7 rfl rfl (by rw [hnL]; decide) (lv2 := [(7, .int (s5.2 + 1)), (6, .int 0), (0, .ref (oz_b G + 62)), (1, .int a0), (2, .int a1), (3, .int a2), (4, .int s1.1), (5, .int s1.2)]) rfl ?_
                      refine oz_goto cx d_Model_isUnder_103 rfl ?_
                      exact oz_lv [2, 3, 4, 5, 6, 7, 1, 0] rfl (oz_leaf (fun h => h))
                    · refine oz_iconst (q := 94) cx d_Model_isUnder_93 rfl (v := 1) rfl ?_
                      refine oz_goto cx d_Model_isUnder_94 rfl ?_
                      refine oz_istore (q := 100) cx d_Model_isUnder_98 rfl (by rw [hnL]; decide) (lv2 := [(6, .int 1), (0, .ref (oz_b G + 62)), (1, .int a0), (2, .int a1), (3, .int a2), (4, .int s1.1), (5, .int s1.2), (7, .int s5.2)]) rfl ?_
                      refine oz_iinc (q := 103) cx (s5.2 + 1) d_Model_isUnder_100 rfl 7 rfl rfl (by rw [hnL]; decide) (lv2 := [(7, .int (s5.2 + 1)), (6, .int 1), (0, .ref (oz_b G + 62)), (1, .int a0), (2, .int a1), (3, .int a2), (4, .int s1.1), (5, .int s1.2)]) rfl ?_
                      refine oz_goto cx d_Model_isUnder_103 rfl ?_
                      exact oz_lv [2, 3, 4, 5, 6, 7, 1, 0] rfl (oz_leaf (fun h => h))
                  · refine oz_aload_n (q := 69) cx d_Model_isUnder_68 rfl rfl 0 rfl ?_
                    refine oz_iload (q := 71) cx d_Model_isUnder_69 rfl 7 rfl ?_
                    refine oz_iload (q := 73) cx d_Model_isUnder_71 rfl 5 rfl ?_
                    refine oz_cVip (q := 76) cx 62 [.int s5.2, .int s1.2] 2 8 hRm (by decide) (by decide) (fun _ h => c_Model_isLess h) ⟨tw_871, tw_873, ts_33, tw_9⟩ tw_874 (by decide +kernel) rfl (by decide) rfl rfl (st := []) rfl (Nat.le_of_ble_eq_true rfl) d_Model_isUnder_73 rfl (fun v9 hv9 => ?_)
                    refine oz_if_eq (q := 79) cx d_Model_isUnder_76 rfl rfl (fun h10 => ?_) (fun h10 => ?_)
                    · refine oz_iconst (q := 98) cx d_Model_isUnder_97 rfl (v := 0) rfl ?_
                      refine oz_istore (q := 100) cx d_Model_isUnder_98 rfl (by rw [hnL]; decide) (lv2 := [(6, .int 0), (0, .ref (oz_b G + 62)), (1, .int a0), (2, .int a1), (3, .int a2), (4, .int s1.1), (5, .int s1.2), (7, .int s5.2)]) rfl ?_
                      refine oz_iinc (q := 103) cx (s5.2 + 1) d_Model_isUnder_100 rfl 7 rfl rfl (by rw [hnL]; decide) (lv2 := [(7, .int (s5.2 + 1)), (6, .int 0), (0, .ref (oz_b G + 62)), (1, .int a0), (2, .int a1), (3, .int a2), (4, .int s1.1), (5, .int s1.2)]) rfl ?_
                      refine oz_goto cx d_Model_isUnder_103 rfl ?_
                      exact oz_lv [2, 3, 4, 5, 6, 7, 1, 0] rfl (oz_leaf (fun h => h))
                    · refine oz_goto cx d_Model_isUnder_79 rfl ?_
                      refine oz_iconst (q := 94) cx d_Model_isUnder_93 rfl (v := 1) rfl ?_
                      refine oz_goto cx d_Model_isUnder_94 rfl ?_
                      refine oz_istore (q := 100) cx d_Model_isUnder_98 rfl (by rw [hnL]; decide) (lv2 := [(6, .int 1), (0, .ref (oz_b G + 62)), (1, .int a0), (2, .int a1), (3, .int a2), (4, .int s1.1), (5, .int s1.2), (7, .int s5.2)]) rfl ?_
                      refine oz_iinc (q := 103) cx (s5.2 + 1) d_Model_isUnder_100 rfl 7 rfl rfl (by rw [hnL]; decide) (lv2 := [(7, .int (s5.2 + 1)), (6, .int 1), (0, .ref (oz_b G + 62)), (1, .int a0), (2, .int a1), (3, .int a2), (4, .int s1.1), (5, .int s1.2)]) rfl ?_
                      refine oz_goto cx d_Model_isUnder_103 rfl ?_
                      exact oz_lv [2, 3, 4, 5, 6, 7, 1, 0] rfl (oz_leaf (fun h => h))
        · refine oz_iload (q := 108) cx d_Model_isUnder_106 rfl 4 rfl ?_
          refine oz_if_eq (q := 111) cx d_Model_isUnder_108 rfl rfl (fun h18 => ?_) (fun h18 => ?_)
          · refine oz_iconst (q := 121) cx d_Model_isUnder_120 rfl (v := 0) rfl ?_
            refine oz_istore (q := 123) cx d_Model_isUnder_121 rfl (by rw [hnL]; decide) (lv2 := [(4, .int 0), (0, .ref (oz_b G + 62)), (1, .int a0), (2, .int a1), (3, .int a2), (5, .int s1.2), (6, .int y16.1)]) rfl ?_
            refine oz_iinc (q := 126) cx (s1.2 + 1) d_Model_isUnder_123 rfl 5 rfl rfl (by rw [hnL]; decide) (lv2 := [(5, .int (s1.2 + 1)), (4, .int 0), (0, .ref (oz_b G + 62)), (1, .int a0), (2, .int a1), (3, .int a2), (6, .int y16.1)]) rfl ?_
            refine oz_goto cx d_Model_isUnder_126 rfl ?_
            exact oz_lv [2, 3, 4, 5, 1, 0] rfl (oz_leaf (fun h => h))
          · refine oz_iload (q := 113) cx d_Model_isUnder_111 rfl 6 rfl ?_
            refine oz_if_eq (q := 116) cx d_Model_isUnder_113 rfl rfl (fun h17 => ?_) (fun h17 => ?_)
            · refine oz_iconst (q := 121) cx d_Model_isUnder_120 rfl (v := 0) rfl ?_
              refine oz_istore (q := 123) cx d_Model_isUnder_121 rfl (by rw [hnL]; decide) (lv2 := [(4, .int 0), (0, .ref (oz_b G + 62)), (1, .int a0), (2, .int a1), (3, .int a2), (5, .int s1.2), (6, .int y16.1)]) rfl ?_
              refine oz_iinc (q := 126) cx (s1.2 + 1) d_Model_isUnder_123 rfl 5 rfl rfl (by rw [hnL]; decide) (lv2 := [(5, .int (s1.2 + 1)), (4, .int 0), (0, .ref (oz_b G + 62)), (1, .int a0), (2, .int a1), (3, .int a2), (6, .int y16.1)]) rfl ?_
              refine oz_goto cx d_Model_isUnder_126 rfl ?_
              exact oz_lv [2, 3, 4, 5, 1, 0] rfl (oz_leaf (fun h => h))
            · refine oz_iconst (q := 117) cx d_Model_isUnder_116 rfl (v := 1) rfl ?_
              refine oz_goto cx d_Model_isUnder_117 rfl ?_
              refine oz_istore (q := 123) cx d_Model_isUnder_121 rfl (by rw [hnL]; decide) (lv2 := [(4, .int 1), (0, .ref (oz_b G + 62)), (1, .int a0), (2, .int a1), (3, .int a2), (5, .int s1.2), (6, .int y16.1)]) rfl ?_
              refine oz_iinc (q := 126) cx (s1.2 + 1) d_Model_isUnder_123 rfl 5 rfl rfl (by rw [hnL]; decide) (lv2 := [(5, .int (s1.2 + 1)), (4, .int 1), (0, .ref (oz_b G + 62)), (1, .int a0), (2, .int a1), (3, .int a2), (6, .int y16.1)]) rfl ?_
              refine oz_goto cx d_Model_isUnder_126 rfl ?_
              exact oz_lv [2, 3, 4, 5, 1, 0] rfl (oz_leaf (fun h => h))
  · refine oz_iload (q := 131) cx d_Model_isUnder_129 rfl 0 rfl ?_
    exact oz_zretp cx hR d_Model_isUnder_131
def y_Model_mayCome : MethodName := ⟨"OrderHallModel", "mayCome", "(II)Z"⟩
theorem d_Model_mayCome_0 : decode prog_10_method_25_code 0 = .ok (.iload_n 2, 1) := by decide +kernel
theorem d_Model_mayCome_1 : decode prog_10_method_25_code 1 = .ok (.iload_n 1, 1) := by decide +kernel
theorem d_Model_mayCome_2 : decode prog_10_method_25_code 2 = .ok (.invokestatic 100, 3) := by decide +kernel
theorem d_Model_mayCome_5 : decode prog_10_method_25_code 5 = .ok (.ifCond .ne 7, 3) := by decide +kernel
theorem d_Model_mayCome_8 : decode prog_10_method_25_code 8 = .ok (.iconst 1, 1) := by decide +kernel
theorem d_Model_mayCome_9 : decode prog_10_method_25_code 9 = .ok (.goto 4, 3) := by decide +kernel
theorem d_Model_mayCome_12 : decode prog_10_method_25_code 12 = .ok (.iconst 0, 1) := by decide +kernel
theorem d_Model_mayCome_13 : decode prog_10_method_25_code 13 = .ok (.istore_n 3, 1) := by decide +kernel
theorem d_Model_mayCome_14 : decode prog_10_method_25_code 14 = .ok (.iconst 0, 1) := by decide +kernel
theorem d_Model_mayCome_15 : decode prog_10_method_25_code 15 = .ok (.istore 4, 2) := by decide +kernel
theorem d_Model_mayCome_17 : decode prog_10_method_25_code 17 = .ok (.iload 4, 2) := by decide +kernel
theorem d_Model_mayCome_19 : decode prog_10_method_25_code 19 = .ok (.aload_n 0, 1) := by decide +kernel
theorem d_Model_mayCome_20 : decode prog_10_method_25_code 20 = .ok (.getfield 7, 3) := by decide +kernel
theorem d_Model_mayCome_23 : decode prog_10_method_25_code 23 = .ok (.if_icmp .ge 38, 3) := by decide +kernel
theorem d_Model_mayCome_26 : decode prog_10_method_25_code 26 = .ok (.iload_n 3, 1) := by decide +kernel
theorem d_Model_mayCome_27 : decode prog_10_method_25_code 27 = .ok (.ifCond .eq 26, 3) := by decide +kernel
theorem d_Model_mayCome_30 : decode prog_10_method_25_code 30 = .ok (.aload_n 0, 1) := by decide +kernel
theorem d_Model_mayCome_31 : decode prog_10_method_25_code 31 = .ok (.iload 4, 2) := by decide +kernel
theorem d_Model_mayCome_33 : decode prog_10_method_25_code 33 = .ok (.iload_n 1, 1) := by decide +kernel
theorem d_Model_mayCome_34 : decode prog_10_method_25_code 34 = .ok (.invokevirtual 77, 3) := by decide +kernel
theorem d_Model_mayCome_37 : decode prog_10_method_25_code 37 = .ok (.ifCond .eq 12, 3) := by decide +kernel
theorem d_Model_mayCome_40 : decode prog_10_method_25_code 40 = .ok (.iload_n 2, 1) := by decide +kernel
theorem d_Model_mayCome_41 : decode prog_10_method_25_code 41 = .ok (.iload 4, 2) := by decide +kernel
theorem d_Model_mayCome_43 : decode prog_10_method_25_code 43 = .ok (.invokestatic 100, 3) := by decide +kernel
theorem d_Model_mayCome_46 : decode prog_10_method_25_code 46 = .ok (.ifCond .eq 7, 3) := by decide +kernel
theorem d_Model_mayCome_49 : decode prog_10_method_25_code 49 = .ok (.iconst 1, 1) := by decide +kernel
theorem d_Model_mayCome_50 : decode prog_10_method_25_code 50 = .ok (.goto 4, 3) := by decide +kernel
theorem d_Model_mayCome_53 : decode prog_10_method_25_code 53 = .ok (.iconst 0, 1) := by decide +kernel
theorem d_Model_mayCome_54 : decode prog_10_method_25_code 54 = .ok (.istore_n 3, 1) := by decide +kernel
theorem d_Model_mayCome_55 : decode prog_10_method_25_code 55 = .ok (.iinc 4 1, 3) := by decide +kernel
theorem d_Model_mayCome_58 : decode prog_10_method_25_code 58 = .ok (.goto (-41), 3) := by decide +kernel
theorem d_Model_mayCome_61 : decode prog_10_method_25_code 61 = .ok (.iload_n 3, 1) := by decide +kernel
theorem d_Model_mayCome_62 : decode prog_10_method_25_code 62 = .ok (.ireturn, 1) := by decide +kernel
noncomputable def f_Model_mayCome (a0 : Int32) (a1 : Int32) (M : oz_M) : Option (Int32) := (f_Model_has a1 a0 M).bind fun v1 => (if v1 = 0 then (some 1) else (some 0)).bind fun (z2 : Int32) => (oz_lp (fun (s4 : Int32 × Int32) => (if s4.2 < (M.1 62 1) then (if s4.1 = 0 then (some (.inl (0, s4.2 + 1))) else ((f_Model_isLess s4.2 a0 M).bind fun v5 => if v5 = 0 then (some (.inl (1, s4.2 + 1))) else ((f_Model_has a1 s4.2 M).bind fun v6 => if v6 = 0 then (some (.inl (0, s4.2 + 1))) else (some (.inl (1, s4.2 + 1)))))) else (some (.inr (s4.1, s4.2))) : Option ((Int32 × Int32) ⊕ (Int32 × Int32)))) (z2, 0)).bind fun (y11 : Int32 × Int32) => oz_z y11.1
set_option maxRecDepth 20000 in
set_option maxHeartbeats 4000000 in
theorem c_Model_mayCome {l : Launch} {D : va_G} {cs : Nat → ClassId} {b : Nat} {a0 : Int32} {a1 : Int32} {M : oz_M} {vz : Int32} (hF : f_Model_mayCome a0 a1 M = some vz) : oz_Met l D cs b y_Model_mayCome prog_10_method_25_code 5 (some .boolean) (oz_rm 1) [.ref (b + 62), .int a0, .int a1] M (some (.int vz)) M := by
  refine oz_enter (by decide) (Nat.le_of_ble_eq_true rfl) (fun G cx hR e1 hRm e2 e3 e4 hnL => ?_)
  subst e1; subst e2; subst e3; subst e4
  refine (?_ : oz_R G 0 [(0, .ref (oz_b G + 62)), (1, .int a0), (2, .int a1)] [] M (f_Model_mayCome a0 a1 M) (fun x => x = vz)) _ hF rfl
  unfold f_Model_mayCome
  refine oz_iload_n (q := 1) cx d_Model_mayCome_0 rfl rfl 2 rfl ?_
  refine oz_iload_n (q := 2) cx d_Model_mayCome_1 rfl rfl 1 rfl ?_
  refine oz_cSip (q := 5) cx [.int a1, .int a0] 2 hRm (by decide) (by decide) (fun _ h => c_Model_has h) ⟨tw_922, tw_923, tw_9⟩ tw_924 (by decide +kernel) rfl (st := []) rfl (Nat.le_of_ble_eq_true rfl) d_Model_mayCome_2 rfl (fun v1 hv1 => ?_)
  refine oz_seq (p2 := 13) (lv2 := fun (z2 : Int32) => [(0, .ref (oz_b G + 62)), (1, .int a0), (2, .int a1)]) (st2 := fun z2 => [.int z2]) (M2 := fun z2 => M) ?_ (fun z2 => ?_)
  · refine oz_if_ne (q := 8) cx d_Model_mayCome_5 rfl rfl (fun h3 => ?_) (fun h3 => ?_)
    · refine oz_iconst (q := 13) cx d_Model_mayCome_12 rfl (v := 0) rfl ?_
      exact oz_lv [0, 1, 2] rfl (oz_leaf (fun h => h))
    · refine oz_iconst (q := 9) cx d_Model_mayCome_8 rfl (v := 1) rfl ?_
      refine oz_goto cx d_Model_mayCome_9 rfl ?_
      exact oz_lv [0, 1, 2] rfl (oz_leaf (fun h => h))
  · refine oz_istore_n (q := 14) cx d_Model_mayCome_13 rfl rfl (by rw [hnL]; decide) (lv2 := [(3, .int z2), (0, .ref (oz_b G + 62)), (1, .int a0), (2, .int a1)]) rfl ?_
    refine oz_iconst (q := 15) cx d_Model_mayCome_14 rfl (v := 0) rfl ?_
    refine oz_istore (q := 17) cx d_Model_mayCome_15 rfl (by rw [hnL]; decide) (lv2 := [(4, .int 0), (3, .int z2), (0, .ref (oz_b G + 62)), (1, .int a0), (2, .int a1)]) rfl ?_
    refine oz_lv [2, 3, 4, 1, 0] rfl ?_
    refine oz_seq (p2 := 61) (lv2 := fun (y11 : Int32 × Int32) => [(3, .int y11.1)]) (st2 := fun y11 => []) (M2 := fun y11 => M) ?_ (fun y11 => ?_)
    · refine oz_loop (Y := Int32 × Int32) 17 (fun (s4 : Int32 × Int32) => [(0, .ref (oz_b G + 62)), (1, .int a0), (2, .int a1), (3, .int s4.1), (4, .int s4.2)]) (fun (s4 : Int32 × Int32) => M) (z2, 0) (fun s4 => ?_)
      refine oz_iload (q := 19) cx d_Model_mayCome_17 rfl 4 rfl ?_
      refine oz_aload_n (q := 20) cx d_Model_mayCome_19 rfl rfl 0 rfl ?_
      refine oz_get (q := 23) cx 62 1 (by decide) (ci := 8) rfl rfl tin_Model (by decide) rfl rfl tw_787 d_Model_mayCome_20 rfl ?_
      refine oz_icmp_ge (q := 26) cx d_Model_mayCome_23 rfl rfl (fun h10 => ?_) (fun h10 => ?_)
      · exact oz_lv [3] rfl (oz_leaf (fun h => h))
      · refine oz_iload_n (q := 27) cx d_Model_mayCome_26 rfl rfl 3 rfl ?_
        refine oz_if_eq (q := 30) cx d_Model_mayCome_27 rfl rfl (fun h9 => ?_) (fun h9 => ?_)
        · refine oz_iconst (q := 54) cx d_Model_mayCome_53 rfl (v := 0) rfl ?_
          refine oz_istore_n (q := 55) cx d_Model_mayCome_54 rfl rfl (by rw [hnL]; decide) (lv2 := [(3, .int 0), (0, .ref (oz_b G + 62)), (1, .int a0), (2, .int a1), (4, .int s4.2)]) rfl ?_
          refine oz_iinc (q := 58) cx (s4.2 + 1) d_Model_mayCome_55 rfl 4 rfl rfl (by rw [hnL]; decide) (lv2 := [(4, .int (s4.2 + 1)), (3, .int 0), (0, .ref (oz_b G + 62)), (1, .int a0), (2, .int a1)]) rfl ?_
          refine oz_goto cx d_Model_mayCome_58 rfl ?_
          exact oz_lv [2, 3, 4, 1, 0] rfl (oz_leaf (fun h => h))
        · refine oz_aload_n (q := 31) cx d_Model_mayCome_30 rfl rfl 0 rfl ?_
          refine oz_iload (q := 33) cx d_Model_mayCome_31 rfl 4 rfl ?_
          refine oz_iload_n (q := 34) cx d_Model_mayCome_33 rfl rfl 1 rfl ?_
          refine oz_cVip (q := 37) cx 62 [.int s4.2, .int a0] 2 8 hRm (by decide) (by decide) (fun _ h => c_Model_isLess h) ⟨tw_871, tw_873, ts_33, tw_9⟩ tw_874 (by decide +kernel) rfl (by decide) rfl rfl (st := []) rfl (Nat.le_of_ble_eq_true rfl) d_Model_mayCome_34 rfl (fun v5 hv5 => ?_)
          refine oz_if_eq (q := 40) cx d_Model_mayCome_37 rfl rfl (fun h8 => ?_) (fun h8 => ?_)
          · refine oz_iconst (q := 50) cx d_Model_mayCome_49 rfl (v := 1) rfl ?_
            refine oz_goto cx d_Model_mayCome_50 rfl ?_
            refine oz_istore_n (q := 55) cx d_Model_mayCome_54 rfl rfl (by rw [hnL]; decide) (lv2 := [(3, .int 1), (0, .ref (oz_b G + 62)), (1, .int a0), (2, .int a1), (4, .int s4.2)]) rfl ?_
            refine oz_iinc (q := 58) cx (s4.2 + 1) d_Model_mayCome_55 rfl 4 rfl rfl (by rw [hnL]; decide) (lv2 := [(4, .int (s4.2 + 1)), (3, .int 1), (0, .ref (oz_b G + 62)), (1, .int a0), (2, .int a1)]) rfl ?_
            refine oz_goto cx d_Model_mayCome_58 rfl ?_
            exact oz_lv [2, 3, 4, 1, 0] rfl (oz_leaf (fun h => h))
          · refine oz_iload_n (q := 41) cx d_Model_mayCome_40 rfl rfl 2 rfl ?_
            refine oz_iload (q := 43) cx d_Model_mayCome_41 rfl 4 rfl ?_
            refine oz_cSip (q := 46) cx [.int a1, .int s4.2] 2 hRm (by decide) (by decide) (fun _ h => c_Model_has h) ⟨tw_922, tw_923, tw_9⟩ tw_924 (by decide +kernel) rfl (st := []) rfl (Nat.le_of_ble_eq_true rfl) d_Model_mayCome_43 rfl (fun v6 hv6 => ?_)
            refine oz_if_eq (q := 49) cx d_Model_mayCome_46 rfl rfl (fun h7 => ?_) (fun h7 => ?_)
            · refine oz_iconst (q := 54) cx d_Model_mayCome_53 rfl (v := 0) rfl ?_
              refine oz_istore_n (q := 55) cx d_Model_mayCome_54 rfl rfl (by rw [hnL]; decide) (lv2 := [(3, .int 0), (0, .ref (oz_b G + 62)), (1, .int a0), (2, .int a1), (4, .int s4.2)]) rfl ?_
              refine oz_iinc (q := 58) cx (s4.2 + 1) d_Model_mayCome_55 rfl 4 rfl rfl (by rw [hnL]; decide) (lv2 := [(4, .int (s4.2 + 1)), (3, .int 0), (0, .ref (oz_b G + 62)), (1, .int a0), (2, .int a1)]) rfl ?_
              refine oz_goto cx d_Model_mayCome_58 rfl ?_
              exact oz_lv [2, 3, 4, 1, 0] rfl (oz_leaf (fun h => h))
            · refine oz_iconst (q := 50) cx d_Model_mayCome_49 rfl (v := 1) rfl ?_
              refine oz_goto cx d_Model_mayCome_50 rfl ?_
              refine oz_istore_n (q := 55) cx d_Model_mayCome_54 rfl rfl (by rw [hnL]; decide) (lv2 := [(3, .int 1), (0, .ref (oz_b G + 62)), (1, .int a0), (2, .int a1), (4, .int s4.2)]) rfl ?_
              refine oz_iinc (q := 58) cx (s4.2 + 1) d_Model_mayCome_55 rfl 4 rfl rfl (by rw [hnL]; decide) (lv2 := [(4, .int (s4.2 + 1)), (3, .int 1), (0, .ref (oz_b G + 62)), (1, .int a0), (2, .int a1)]) rfl ?_
              refine oz_goto cx d_Model_mayCome_58 rfl ?_
              exact oz_lv [2, 3, 4, 1, 0] rfl (oz_leaf (fun h => h))
    · refine oz_iload_n (q := 62) cx d_Model_mayCome_61 rfl rfl 0 rfl ?_
      exact oz_zretp cx hR d_Model_mayCome_62
def y_Model_setArc : MethodName := ⟨"OrderHallModel", "setArc", "(IIZ)I"⟩
theorem d_Model_setArc_0 : decode prog_10_method_6_code 0 = .ok (.aload_n 0, 1) := by decide +kernel
theorem d_Model_setArc_1 : decode prog_10_method_6_code 1 = .ok (.aload_n 0, 1) := by decide +kernel
theorem d_Model_setArc_2 : decode prog_10_method_6_code 2 = .ok (.iload_n 1, 1) := by decide +kernel
theorem d_Model_setArc_3 : decode prog_10_method_6_code 3 = .ok (.invokevirtual 69, 3) := by decide +kernel
theorem d_Model_setArc_6 : decode prog_10_method_6_code 6 = .ok (.ifCond .eq 15, 3) := by decide +kernel
theorem d_Model_setArc_9 : decode prog_10_method_6_code 9 = .ok (.aload_n 0, 1) := by decide +kernel
theorem d_Model_setArc_10 : decode prog_10_method_6_code 10 = .ok (.iload_n 2, 1) := by decide +kernel
theorem d_Model_setArc_11 : decode prog_10_method_6_code 11 = .ok (.invokevirtual 69, 3) := by decide +kernel
theorem d_Model_setArc_14 : decode prog_10_method_6_code 14 = .ok (.ifCond .eq 7, 3) := by decide +kernel
theorem d_Model_setArc_17 : decode prog_10_method_6_code 17 = .ok (.iconst 0, 1) := by decide +kernel
theorem d_Model_setArc_18 : decode prog_10_method_6_code 18 = .ok (.goto 4, 3) := by decide +kernel
theorem d_Model_setArc_21 : decode prog_10_method_6_code 21 = .ok (.iconst 1, 1) := by decide +kernel
theorem d_Model_setArc_22 : decode prog_10_method_6_code 22 = .ok (.putfield 50, 3) := by decide +kernel
theorem d_Model_setArc_25 : decode prog_10_method_6_code 25 = .ok (.aload_n 0, 1) := by decide +kernel
theorem d_Model_setArc_26 : decode prog_10_method_6_code 26 = .ok (.getfield 50, 3) := by decide +kernel
theorem d_Model_setArc_29 : decode prog_10_method_6_code 29 = .ok (.ifCond .le 5, 3) := by decide +kernel
theorem d_Model_setArc_32 : decode prog_10_method_6_code 32 = .ok (.iconst 0, 1) := by decide +kernel
theorem d_Model_setArc_33 : decode prog_10_method_6_code 33 = .ok (.ireturn, 1) := by decide +kernel
theorem d_Model_setArc_34 : decode prog_10_method_6_code 34 = .ok (.aload_n 0, 1) := by decide +kernel
theorem d_Model_setArc_35 : decode prog_10_method_6_code 35 = .ok (.getfield 13, 3) := by decide +kernel
theorem d_Model_setArc_38 : decode prog_10_method_6_code 38 = .ok (.bipush 14, 2) := by decide +kernel
theorem d_Model_setArc_40 : decode prog_10_method_6_code 40 = .ok (.iload_n 1, 1) := by decide +kernel
theorem d_Model_setArc_41 : decode prog_10_method_6_code 41 = .ok (.imul, 1) := by decide +kernel
theorem d_Model_setArc_42 : decode prog_10_method_6_code 42 = .ok (.iload_n 2, 1) := by decide +kernel
theorem d_Model_setArc_43 : decode prog_10_method_6_code 43 = .ok (.iadd, 1) := by decide +kernel
theorem d_Model_setArc_44 : decode prog_10_method_6_code 44 = .ok (.baload, 1) := by decide +kernel
theorem d_Model_setArc_45 : decode prog_10_method_6_code 45 = .ok (.iload_n 3, 1) := by decide +kernel
theorem d_Model_setArc_46 : decode prog_10_method_6_code 46 = .ok (.if_icmp .eq 7, 3) := by decide +kernel
theorem d_Model_setArc_49 : decode prog_10_method_6_code 49 = .ok (.iconst 1, 1) := by decide +kernel
theorem d_Model_setArc_50 : decode prog_10_method_6_code 50 = .ok (.goto 4, 3) := by decide +kernel
theorem d_Model_setArc_53 : decode prog_10_method_6_code 53 = .ok (.iconst 0, 1) := by decide +kernel
theorem d_Model_setArc_54 : decode prog_10_method_6_code 54 = .ok (.istore 4, 2) := by decide +kernel
theorem d_Model_setArc_56 : decode prog_10_method_6_code 56 = .ok (.aload_n 0, 1) := by decide +kernel
theorem d_Model_setArc_57 : decode prog_10_method_6_code 57 = .ok (.getfield 13, 3) := by decide +kernel
theorem d_Model_setArc_60 : decode prog_10_method_6_code 60 = .ok (.bipush 14, 2) := by decide +kernel
theorem d_Model_setArc_62 : decode prog_10_method_6_code 62 = .ok (.iload_n 1, 1) := by decide +kernel
theorem d_Model_setArc_63 : decode prog_10_method_6_code 63 = .ok (.imul, 1) := by decide +kernel
theorem d_Model_setArc_64 : decode prog_10_method_6_code 64 = .ok (.iload_n 2, 1) := by decide +kernel
theorem d_Model_setArc_65 : decode prog_10_method_6_code 65 = .ok (.iadd, 1) := by decide +kernel
theorem d_Model_setArc_66 : decode prog_10_method_6_code 66 = .ok (.iload_n 3, 1) := by decide +kernel
theorem d_Model_setArc_67 : decode prog_10_method_6_code 67 = .ok (.bastore, 1) := by decide +kernel
theorem d_Model_setArc_68 : decode prog_10_method_6_code 68 = .ok (.aload_n 0, 1) := by decide +kernel
theorem d_Model_setArc_69 : decode prog_10_method_6_code 69 = .ok (.invokevirtual 66, 3) := by decide +kernel
theorem d_Model_setArc_72 : decode prog_10_method_6_code 72 = .ok (.iload 4, 2) := by decide +kernel
theorem d_Model_setArc_74 : decode prog_10_method_6_code 74 = .ok (.ireturn, 1) := by decide +kernel
def f_Model_setArc (a0 : Int32) (a1 : Int32) (a2 : Int32) (M : oz_M) : Option (Int32 × oz_M) := (f_Model_isElement a0 M).bind fun v1 => (if v1 = 0 then (some 1) else ((f_Model_isElement a1 M).bind fun v3 => if v3 = 0 then (some 1) else (some 0))).bind fun (z2 : Int32) => (some (oz_s M 62 0 z2)).bind fun M6 => if 0 < (M6.1 62 0) then (some (0, M6)) else ((oz_in ((14 * a0) + a1) 196).bind fun j7 => (if (M6.1 63 j7) = a2 then (some 0) else (some 1)).bind fun (z8 : Int32) => (oz_in ((14 * a0) + a1) 196).bind fun j10 => (some (oz_s M6 63 j10 (vp_nar .boolean a2))).bind fun M11 => oz_b2 (f_Model_change M11) fun v12 M13 => some (z8, M13))
set_option maxRecDepth 20000 in
set_option maxHeartbeats 4000000 in
theorem c_Model_setArc {l : Launch} {D : va_G} {cs : Nat → ClassId} {b : Nat} {a0 : Int32} {a1 : Int32} {a2 : Int32} {M : oz_M} {vz : Int32} {Mz : oz_M} (hF : f_Model_setArc a0 a1 a2 M = some (vz, Mz)) : oz_Met l D cs b y_Model_setArc prog_10_method_6_code 5 (some .int) (oz_rm 1) [.ref (b + 62), .int a0, .int a1, .int a2] M (some (.int vz)) Mz := by
  refine oz_enter (by decide) (Nat.le_of_ble_eq_true rfl) (fun G cx hR e1 hRm e2 e3 e4 hnL => ?_)
  subst e1; subst e2; subst e3; subst e4
  refine (?_ : oz_R G 0 [(0, .ref (oz_b G + 62)), (1, .int a0), (2, .int a1), (3, .int a2)] [] M (f_Model_setArc a0 a1 a2 M) (fun x => x = (vz, Mz))) _ hF rfl
  unfold f_Model_setArc
  refine oz_aload_n (q := 1) cx d_Model_setArc_0 rfl rfl 0 rfl ?_
  refine oz_aload_n (q := 2) cx d_Model_setArc_1 rfl rfl 0 rfl ?_
  refine oz_iload_n (q := 3) cx d_Model_setArc_2 rfl rfl 1 rfl ?_
  refine oz_cVip (q := 6) cx 62 [.int a0] 1 8 hRm (by decide) (by decide) (fun _ h => c_Model_isElement h) ⟨tw_859, tw_861, ts_32, tw_9⟩ tw_862 (by decide +kernel) rfl (by decide) rfl rfl (st := [.ref (oz_b G + 62)]) rfl (Nat.le_of_ble_eq_true rfl) d_Model_setArc_3 rfl (fun v1 hv1 => ?_)
  refine oz_seq (p2 := 22) (lv2 := fun (z2 : Int32) => [(0, .ref (oz_b G + 62)), (1, .int a0), (2, .int a1), (3, .int a2)]) (st2 := fun z2 => [.int z2, .ref (oz_b G + 62)]) (M2 := fun z2 => M) ?_ (fun z2 => ?_)
  · refine oz_if_eq (q := 9) cx d_Model_setArc_6 rfl rfl (fun h5 => ?_) (fun h5 => ?_)
    · refine oz_iconst (q := 22) cx d_Model_setArc_21 rfl (v := 1) rfl ?_
      exact oz_lv [0, 1, 2, 3] rfl (oz_leaf (fun h => h))
    · refine oz_aload_n (q := 10) cx d_Model_setArc_9 rfl rfl 0 rfl ?_
      refine oz_iload_n (q := 11) cx d_Model_setArc_10 rfl rfl 2 rfl ?_
      refine oz_cVip (q := 14) cx 62 [.int a1] 1 8 hRm (by decide) (by decide) (fun _ h => c_Model_isElement h) ⟨tw_859, tw_861, ts_32, tw_9⟩ tw_862 (by decide +kernel) rfl (by decide) rfl rfl (st := [.ref (oz_b G + 62)]) rfl (Nat.le_of_ble_eq_true rfl) d_Model_setArc_11 rfl (fun v3 hv3 => ?_)
      refine oz_if_eq (q := 17) cx d_Model_setArc_14 rfl rfl (fun h4 => ?_) (fun h4 => ?_)
      · refine oz_iconst (q := 22) cx d_Model_setArc_21 rfl (v := 1) rfl ?_
        exact oz_lv [0, 1, 2, 3] rfl (oz_leaf (fun h => h))
      · refine oz_iconst (q := 18) cx d_Model_setArc_17 rfl (v := 0) rfl ?_
        refine oz_goto cx d_Model_setArc_18 rfl ?_
        exact oz_lv [0, 1, 2, 3] rfl (oz_leaf (fun h => h))
  · refine oz_put (q := 25) cx 62 0 (by decide) (ci := 8) rfl rfl rfl tin_Model t_Model t_Model_ok n_Model (by decide) (Nat.le_of_ble_eq_true rfl) rfl tw_786 rfl rfl rfl d_Model_setArc_22 rfl ?_
    refine oz_nm (fun M6 hM6 => ?_)
    refine oz_aload_n (q := 26) cx d_Model_setArc_25 rfl rfl 0 rfl ?_
    refine oz_get (q := 29) cx 62 0 (by decide) (ci := 8) rfl rfl tin_Model (by decide) rfl rfl tw_786 d_Model_setArc_26 rfl ?_
    refine oz_if_le (q := 32) cx d_Model_setArc_29 rfl rfl (fun h14 => ?_) (fun h14 => ?_)
    · refine oz_aload_n (q := 35) cx d_Model_setArc_34 rfl rfl 0 rfl ?_
      refine oz_get (q := 38) cx 62 3 (by decide) (ci := 8) rfl rfl tin_Model (by decide) rfl rfl tw_789 d_Model_setArc_35 rfl ?_
      refine oz_bipush (q := 40) cx d_Model_setArc_38 rfl (v := 14) rfl ?_
      refine oz_iload_n (q := 41) cx d_Model_setArc_40 rfl rfl 1 rfl ?_
      refine oz_imul (q := 42) cx d_Model_setArc_41 rfl ?_
      refine oz_iload_n (q := 43) cx d_Model_setArc_42 rfl rfl 2 rfl ?_
      refine oz_iadd (q := 44) cx d_Model_setArc_43 rfl ?_
      refine oz_zald (q := 45) cx 63 196 (by decide) rfl d_Model_setArc_44 rfl (fun j7 hj7 => ?_)
      refine oz_iload_n (q := 46) cx d_Model_setArc_45 rfl rfl 3 rfl ?_
      refine oz_seq (p2 := 54) (lv2 := fun (z8 : Int32) => [(0, .ref (oz_b G + 62)), (1, .int a0), (2, .int a1), (3, .int a2)]) (st2 := fun z8 => [.int z8]) (M2 := fun z8 => M6) ?_ (fun z8 => ?_)
      · refine oz_icmp_eq (q := 49) cx d_Model_setArc_46 rfl rfl (fun h9 => ?_) (fun h9 => ?_)
        · refine oz_iconst (q := 54) cx d_Model_setArc_53 rfl (v := 0) rfl ?_
          exact oz_lv [0, 1, 2, 3] rfl (oz_leaf (fun h => h))
        · refine oz_iconst (q := 50) cx d_Model_setArc_49 rfl (v := 1) rfl ?_
          refine oz_goto cx d_Model_setArc_50 rfl ?_
          exact oz_lv [0, 1, 2, 3] rfl (oz_leaf (fun h => h))
      · refine oz_istore (q := 56) cx d_Model_setArc_54 rfl (by rw [hnL]; decide) (lv2 := [(4, .int z8), (0, .ref (oz_b G + 62)), (1, .int a0), (2, .int a1), (3, .int a2)]) rfl ?_
        refine oz_aload_n (q := 57) cx d_Model_setArc_56 rfl rfl 1 rfl ?_
        refine oz_get (q := 60) cx 62 3 (by decide) (ci := 8) rfl rfl tin_Model (by decide) rfl rfl tw_789 d_Model_setArc_57 rfl ?_
        refine oz_bipush (q := 62) cx d_Model_setArc_60 rfl (v := 14) rfl ?_
        refine oz_iload_n (q := 63) cx d_Model_setArc_62 rfl rfl 2 rfl ?_
        refine oz_imul (q := 64) cx d_Model_setArc_63 rfl ?_
        refine oz_iload_n (q := 65) cx d_Model_setArc_64 rfl rfl 3 rfl ?_
        refine oz_iadd (q := 66) cx d_Model_setArc_65 rfl ?_
        refine oz_iload_n (q := 67) cx d_Model_setArc_66 rfl rfl 4 rfl ?_
        refine oz_zast (q := 68) cx 63 196 (by decide) (fun _ => rfl) d_Model_setArc_67 rfl (fun j10 hj10 => ?_)
        refine oz_nm (fun M11 hM11 => ?_)
        refine oz_aload_n (q := 69) cx d_Model_setArc_68 rfl rfl 1 rfl ?_
        refine oz_cVv (q := 72) cx 62 [] 0 8 hRm (by decide) (by decide) (fun _ _ h => c_Model_change h) ⟨tw_847, tw_849, ts_30, tw_9⟩ tw_850 (by decide +kernel) rfl (by decide) rfl rfl (st := []) rfl (Nat.le_of_ble_eq_true rfl) d_Model_setArc_69 rfl (fun v12 M13 hv12 => ?_)
        refine oz_iload (q := 74) cx d_Model_setArc_72 rfl 0 rfl ?_
        exact oz_iret cx hR d_Model_setArc_74
    · refine oz_iconst (q := 33) cx d_Model_setArc_32 rfl (v := 0) rfl ?_
      exact oz_iret cx hR d_Model_setArc_33
def y_Model_sizeOf : MethodName := ⟨"OrderHallModel", "sizeOf", "(I)I"⟩
theorem d_Model_sizeOf_0 : decode prog_10_method_21_code 0 = .ok (.iconst 0, 1) := by decide +kernel
theorem d_Model_sizeOf_1 : decode prog_10_method_21_code 1 = .ok (.istore_n 1, 1) := by decide +kernel
theorem d_Model_sizeOf_2 : decode prog_10_method_21_code 2 = .ok (.iconst 0, 1) := by decide +kernel
theorem d_Model_sizeOf_3 : decode prog_10_method_21_code 3 = .ok (.istore_n 2, 1) := by decide +kernel
theorem d_Model_sizeOf_4 : decode prog_10_method_21_code 4 = .ok (.iload_n 2, 1) := by decide +kernel
theorem d_Model_sizeOf_5 : decode prog_10_method_21_code 5 = .ok (.bipush 14, 2) := by decide +kernel
theorem d_Model_sizeOf_7 : decode prog_10_method_21_code 7 = .ok (.if_icmp .ge 25, 3) := by decide +kernel
theorem d_Model_sizeOf_10 : decode prog_10_method_21_code 10 = .ok (.iload_n 0, 1) := by decide +kernel
theorem d_Model_sizeOf_11 : decode prog_10_method_21_code 11 = .ok (.iload_n 2, 1) := by decide +kernel
theorem d_Model_sizeOf_12 : decode prog_10_method_21_code 12 = .ok (.invokestatic 100, 3) := by decide +kernel
theorem d_Model_sizeOf_15 : decode prog_10_method_21_code 15 = .ok (.ifCond .eq 9, 3) := by decide +kernel
theorem d_Model_sizeOf_18 : decode prog_10_method_21_code 18 = .ok (.iload_n 1, 1) := by decide +kernel
theorem d_Model_sizeOf_19 : decode prog_10_method_21_code 19 = .ok (.iconst 1, 1) := by decide +kernel
theorem d_Model_sizeOf_20 : decode prog_10_method_21_code 20 = .ok (.iadd, 1) := by decide +kernel
theorem d_Model_sizeOf_21 : decode prog_10_method_21_code 21 = .ok (.goto 4, 3) := by decide +kernel
theorem d_Model_sizeOf_24 : decode prog_10_method_21_code 24 = .ok (.iload_n 1, 1) := by decide +kernel
theorem d_Model_sizeOf_25 : decode prog_10_method_21_code 25 = .ok (.istore_n 1, 1) := by decide +kernel
theorem d_Model_sizeOf_26 : decode prog_10_method_21_code 26 = .ok (.iinc 2 1, 3) := by decide +kernel
theorem d_Model_sizeOf_29 : decode prog_10_method_21_code 29 = .ok (.goto (-25), 3) := by decide +kernel
theorem d_Model_sizeOf_32 : decode prog_10_method_21_code 32 = .ok (.iload_n 1, 1) := by decide +kernel
theorem d_Model_sizeOf_33 : decode prog_10_method_21_code 33 = .ok (.ireturn, 1) := by decide +kernel
noncomputable def f_Model_sizeOf (a0 : Int32) (M : oz_M) : Option (Int32) := (oz_lp (fun (s1 : Int32 × Int32) => (if s1.2 < 14 then ((f_Model_has a0 s1.2 M).bind fun v2 => if v2 = 0 then (some (.inl (s1.1, s1.2 + 1))) else (some (.inl (s1.1 + 1, s1.2 + 1)))) else (some (.inr (s1.1, s1.2))) : Option ((Int32 × Int32) ⊕ (Int32 × Int32)))) (0, 0)).bind fun (y5 : Int32 × Int32) => some y5.1
set_option maxRecDepth 20000 in
set_option maxHeartbeats 4000000 in
theorem c_Model_sizeOf {l : Launch} {D : va_G} {cs : Nat → ClassId} {b : Nat} {a0 : Int32} {M : oz_M} {vz : Int32} (hF : f_Model_sizeOf a0 M = some vz) : oz_Met l D cs b y_Model_sizeOf prog_10_method_21_code 3 (some .int) (oz_rm 1) [.int a0] M (some (.int vz)) M := by
  refine oz_enter (by decide) (Nat.le_of_ble_eq_true rfl) (fun G cx hR e1 hRm e2 e3 e4 hnL => ?_)
  subst e1; subst e2; subst e3; subst e4
  refine (?_ : oz_R G 0 [(0, .int a0)] [] M (f_Model_sizeOf a0 M) (fun x => x = vz)) _ hF rfl
  unfold f_Model_sizeOf
  refine oz_iconst (q := 1) cx d_Model_sizeOf_0 rfl (v := 0) rfl ?_
  refine oz_istore_n (q := 2) cx d_Model_sizeOf_1 rfl rfl (by rw [hnL]; decide) (lv2 := [(1, .int 0), (0, .int a0)]) rfl ?_
  refine oz_iconst (q := 3) cx d_Model_sizeOf_2 rfl (v := 0) rfl ?_
  refine oz_istore_n (q := 4) cx d_Model_sizeOf_3 rfl rfl (by rw [hnL]; decide) (lv2 := [(2, .int 0), (1, .int 0), (0, .int a0)]) rfl ?_
  refine oz_lv [2, 1, 0] rfl ?_
  refine oz_seq (p2 := 32) (lv2 := fun (y5 : Int32 × Int32) => [(1, .int y5.1)]) (st2 := fun y5 => []) (M2 := fun y5 => M) ?_ (fun y5 => ?_)
  · refine oz_loop (Y := Int32 × Int32) 4 (fun (s1 : Int32 × Int32) => [(0, .int a0), (1, .int s1.1), (2, .int s1.2)]) (fun (s1 : Int32 × Int32) => M) (0, 0) (fun s1 => ?_)
    refine oz_iload_n (q := 5) cx d_Model_sizeOf_4 rfl rfl 2 rfl ?_
    refine oz_bipush (q := 7) cx d_Model_sizeOf_5 rfl (v := 14) rfl ?_
    refine oz_icmp_ge (q := 10) cx d_Model_sizeOf_7 rfl rfl (fun h4 => ?_) (fun h4 => ?_)
    · exact oz_lv [1] rfl (oz_leaf (fun h => h))
    · refine oz_iload_n (q := 11) cx d_Model_sizeOf_10 rfl rfl 0 rfl ?_
      refine oz_iload_n (q := 12) cx d_Model_sizeOf_11 rfl rfl 2 rfl ?_
      refine oz_cSip (q := 15) cx [.int a0, .int s1.2] 2 hRm (by decide) (by decide) (fun _ h => c_Model_has h) ⟨tw_922, tw_923, tw_9⟩ tw_924 (by decide +kernel) rfl (st := []) rfl (Nat.le_of_ble_eq_true rfl) d_Model_sizeOf_12 rfl (fun v2 hv2 => ?_)
      refine oz_if_eq (q := 18) cx d_Model_sizeOf_15 rfl rfl (fun h3 => ?_) (fun h3 => ?_)
      · refine oz_iload_n (q := 25) cx d_Model_sizeOf_24 rfl rfl 1 rfl ?_
        refine oz_istore_n (q := 26) cx d_Model_sizeOf_25 rfl rfl (by rw [hnL]; decide) (lv2 := [(1, .int s1.1), (0, .int a0), (2, .int s1.2)]) rfl ?_
        refine oz_iinc (q := 29) cx (s1.2 + 1) d_Model_sizeOf_26 rfl 2 rfl rfl (by rw [hnL]; decide) (lv2 := [(2, .int (s1.2 + 1)), (1, .int s1.1), (0, .int a0)]) rfl ?_
        refine oz_goto cx d_Model_sizeOf_29 rfl ?_
        exact oz_lv [2, 1, 0] rfl (oz_leaf (fun h => h))
      · refine oz_iload_n (q := 19) cx d_Model_sizeOf_18 rfl rfl 1 rfl ?_
        refine oz_iconst (q := 20) cx d_Model_sizeOf_19 rfl (v := 1) rfl ?_
        refine oz_iadd (q := 21) cx d_Model_sizeOf_20 rfl ?_
        refine oz_goto cx d_Model_sizeOf_21 rfl ?_
        refine oz_istore_n (q := 26) cx d_Model_sizeOf_25 rfl rfl (by rw [hnL]; decide) (lv2 := [(1, .int (s1.1 + 1)), (0, .int a0), (2, .int s1.2)]) rfl ?_
        refine oz_iinc (q := 29) cx (s1.2 + 1) d_Model_sizeOf_26 rfl 2 rfl rfl (by rw [hnL]; decide) (lv2 := [(2, .int (s1.2 + 1)), (1, .int (s1.1 + 1)), (0, .int a0)]) rfl ?_
        refine oz_goto cx d_Model_sizeOf_29 rfl ?_
        exact oz_lv [2, 1, 0] rfl (oz_leaf (fun h => h))
  · refine oz_iload_n (q := 33) cx d_Model_sizeOf_32 rfl rfl 0 rfl ?_
    exact oz_iretp cx hR d_Model_sizeOf_33
def y_Arcs_renumbered : MethodName := ⟨"OrderHall$Arcs", "renumbered", "(III)I"⟩
theorem d_Arcs_renumbered_0 : decode prog_2_method_9_code 0 = .ok (.iconst 0, 1) := by decide +kernel
theorem d_Arcs_renumbered_1 : decode prog_2_method_9_code 1 = .ok (.istore_n 3, 1) := by decide +kernel
theorem d_Arcs_renumbered_2 : decode prog_2_method_9_code 2 = .ok (.iconst 0, 1) := by decide +kernel
theorem d_Arcs_renumbered_3 : decode prog_2_method_9_code 3 = .ok (.istore 4, 2) := by decide +kernel
theorem d_Arcs_renumbered_5 : decode prog_2_method_9_code 5 = .ok (.iload 4, 2) := by decide +kernel
theorem d_Arcs_renumbered_7 : decode prog_2_method_9_code 7 = .ok (.iload_n 2, 1) := by decide +kernel
theorem d_Arcs_renumbered_8 : decode prog_2_method_9_code 8 = .ok (.if_icmp .ge 29, 3) := by decide +kernel
theorem d_Arcs_renumbered_11 : decode prog_2_method_9_code 11 = .ok (.iload_n 0, 1) := by decide +kernel
theorem d_Arcs_renumbered_12 : decode prog_2_method_9_code 12 = .ok (.iload 4, 2) := by decide +kernel
theorem d_Arcs_renumbered_14 : decode prog_2_method_9_code 14 = .ok (.invokestatic 19, 3) := by decide +kernel
theorem d_Arcs_renumbered_17 : decode prog_2_method_9_code 17 = .ok (.ifCond .eq 14, 3) := by decide +kernel
theorem d_Arcs_renumbered_20 : decode prog_2_method_9_code 20 = .ok (.iload_n 3, 1) := by decide +kernel
theorem d_Arcs_renumbered_21 : decode prog_2_method_9_code 21 = .ok (.iconst 1, 1) := by decide +kernel
theorem d_Arcs_renumbered_22 : decode prog_2_method_9_code 22 = .ok (.iload_n 1, 1) := by decide +kernel
theorem d_Arcs_renumbered_23 : decode prog_2_method_9_code 23 = .ok (.iload 4, 2) := by decide +kernel
theorem d_Arcs_renumbered_25 : decode prog_2_method_9_code 25 = .ok (.invokestatic 36, 3) := by decide +kernel
theorem d_Arcs_renumbered_28 : decode prog_2_method_9_code 28 = .ok (.ishl, 1) := by decide +kernel
theorem d_Arcs_renumbered_29 : decode prog_2_method_9_code 29 = .ok (.ior, 1) := by decide +kernel
theorem d_Arcs_renumbered_30 : decode prog_2_method_9_code 30 = .ok (.istore_n 3, 1) := by decide +kernel
theorem d_Arcs_renumbered_31 : decode prog_2_method_9_code 31 = .ok (.iinc 4 1, 3) := by decide +kernel
theorem d_Arcs_renumbered_34 : decode prog_2_method_9_code 34 = .ok (.goto (-29), 3) := by decide +kernel
theorem d_Arcs_renumbered_37 : decode prog_2_method_9_code 37 = .ok (.iload_n 3, 1) := by decide +kernel
theorem d_Arcs_renumbered_38 : decode prog_2_method_9_code 38 = .ok (.ireturn, 1) := by decide +kernel
noncomputable def f_Arcs_renumbered (a0 : Int32) (a1 : Int32) (a2 : Int32) (M : oz_M) : Option (Int32) := (oz_lp (fun (s1 : Int32 × Int32) => (if s1.2 < a2 then ((f_Hall_has a0 s1.2 M).bind fun v2 => if v2 = 0 then (some (.inl (s1.1, s1.2 + 1))) else ((f_Arcs_numberIn a1 s1.2 M).bind fun v3 => some (.inl (s1.1 ||| (1 <<< (v3 &&& 31)), s1.2 + 1)))) else (some (.inr (s1.1, s1.2))) : Option ((Int32 × Int32) ⊕ (Int32 × Int32)))) (0, 0)).bind fun (y6 : Int32 × Int32) => some y6.1
set_option maxRecDepth 20000 in
set_option maxHeartbeats 4000000 in
theorem c_Arcs_renumbered {l : Launch} {D : va_G} {cs : Nat → ClassId} {b : Nat} {a0 : Int32} {a1 : Int32} {a2 : Int32} {M : oz_M} {vz : Int32} (hF : f_Arcs_renumbered a0 a1 a2 M = some vz) : oz_Met l D cs b y_Arcs_renumbered prog_2_method_9_code 5 (some .int) (oz_rm 2) [.int a0, .int a1, .int a2] M (some (.int vz)) M := by
  refine oz_enter (by decide) (Nat.le_of_ble_eq_true rfl) (fun G cx hR e1 hRm e2 e3 e4 hnL => ?_)
  subst e1; subst e2; subst e3; subst e4
  refine (?_ : oz_R G 0 [(0, .int a0), (1, .int a1), (2, .int a2)] [] M (f_Arcs_renumbered a0 a1 a2 M) (fun x => x = vz)) _ hF rfl
  unfold f_Arcs_renumbered
  refine oz_iconst (q := 1) cx d_Arcs_renumbered_0 rfl (v := 0) rfl ?_
  refine oz_istore_n (q := 2) cx d_Arcs_renumbered_1 rfl rfl (by rw [hnL]; decide) (lv2 := [(3, .int 0), (0, .int a0), (1, .int a1), (2, .int a2)]) rfl ?_
  refine oz_iconst (q := 3) cx d_Arcs_renumbered_2 rfl (v := 0) rfl ?_
  refine oz_istore (q := 5) cx d_Arcs_renumbered_3 rfl (by rw [hnL]; decide) (lv2 := [(4, .int 0), (3, .int 0), (0, .int a0), (1, .int a1), (2, .int a2)]) rfl ?_
  refine oz_lv [2, 3, 4, 1, 0] rfl ?_
  refine oz_seq (p2 := 37) (lv2 := fun (y6 : Int32 × Int32) => [(3, .int y6.1)]) (st2 := fun y6 => []) (M2 := fun y6 => M) ?_ (fun y6 => ?_)
  · refine oz_loop (Y := Int32 × Int32) 5 (fun (s1 : Int32 × Int32) => [(0, .int a0), (1, .int a1), (2, .int a2), (3, .int s1.1), (4, .int s1.2)]) (fun (s1 : Int32 × Int32) => M) (0, 0) (fun s1 => ?_)
    refine oz_iload (q := 7) cx d_Arcs_renumbered_5 rfl 4 rfl ?_
    refine oz_iload_n (q := 8) cx d_Arcs_renumbered_7 rfl rfl 2 rfl ?_
    refine oz_icmp_ge (q := 11) cx d_Arcs_renumbered_8 rfl rfl (fun h5 => ?_) (fun h5 => ?_)
    · exact oz_lv [3] rfl (oz_leaf (fun h => h))
    · refine oz_iload_n (q := 12) cx d_Arcs_renumbered_11 rfl rfl 0 rfl ?_
      refine oz_iload (q := 14) cx d_Arcs_renumbered_12 rfl 4 rfl ?_
      refine oz_cSNip (q := 17) cx [.int a0, .int s1.2] 2 hRm (by decide) (by decide) (fun _ h => c_Hall_has h) tn_465 ⟨tw_274, tw_1⟩ tw_275 (by decide +kernel) rfl (st := []) rfl (Nat.le_of_ble_eq_true rfl) d_Arcs_renumbered_14 rfl (fun v2 hv2 => ?_)
      refine oz_if_eq (q := 20) cx d_Arcs_renumbered_17 rfl rfl (fun h4 => ?_) (fun h4 => ?_)
      · refine oz_iinc (q := 34) cx (s1.2 + 1) d_Arcs_renumbered_31 rfl 4 rfl rfl (by rw [hnL]; decide) (lv2 := [(4, .int (s1.2 + 1)), (0, .int a0), (1, .int a1), (2, .int a2), (3, .int s1.1)]) rfl ?_
        refine oz_goto cx d_Arcs_renumbered_34 rfl ?_
        exact oz_lv [1, 2, 3, 4, 0] rfl (oz_leaf (fun h => h))
      · refine oz_iload_n (q := 21) cx d_Arcs_renumbered_20 rfl rfl 3 rfl ?_
        refine oz_iconst (q := 22) cx d_Arcs_renumbered_21 rfl (v := 1) rfl ?_
        refine oz_iload_n (q := 23) cx d_Arcs_renumbered_22 rfl rfl 1 rfl ?_
        refine oz_iload (q := 25) cx d_Arcs_renumbered_23 rfl 4 rfl ?_
        refine oz_cSip (q := 28) cx [.int a1, .int s1.2] 2 hRm (by decide) (by decide) (fun _ h => c_Arcs_numberIn h) ⟨tw_720, tw_721, tw_2⟩ tw_722 (by decide +kernel) rfl (st := [.int 1, .int s1.1]) rfl (Nat.le_of_ble_eq_true rfl) d_Arcs_renumbered_25 rfl (fun v3 hv3 => ?_)
        refine oz_ishl (q := 29) cx d_Arcs_renumbered_28 rfl ?_
        refine oz_ior (q := 30) cx d_Arcs_renumbered_29 rfl ?_
        refine oz_istore_n (q := 31) cx d_Arcs_renumbered_30 rfl rfl (by rw [hnL]; decide) (lv2 := [(3, .int (s1.1 ||| (1 <<< (v3 &&& 31)))), (0, .int a0), (1, .int a1), (2, .int a2), (4, .int s1.2)]) rfl ?_
        refine oz_iinc (q := 34) cx (s1.2 + 1) d_Arcs_renumbered_31 rfl 4 rfl rfl (by rw [hnL]; decide) (lv2 := [(4, .int (s1.2 + 1)), (3, .int (s1.1 ||| (1 <<< (v3 &&& 31)))), (0, .int a0), (1, .int a1), (2, .int a2)]) rfl ?_
        refine oz_goto cx d_Arcs_renumbered_34 rfl ?_
        exact oz_lv [2, 3, 4, 1, 0] rfl (oz_leaf (fun h => h))
  · refine oz_iload_n (q := 38) cx d_Arcs_renumbered_37 rfl rfl 0 rfl ?_
    exact oz_iretp cx hR d_Arcs_renumbered_38
def y_Bounds_lower : MethodName := ⟨"OrderHall$Bounds", "lower", "(II)I"⟩
theorem d_Bounds_lower_0 : decode prog_3_method_2_code 0 = .ok (.aload_n 0, 1) := by decide +kernel
theorem d_Bounds_lower_1 : decode prog_3_method_2_code 1 = .ok (.aload_n 0, 1) := by decide +kernel
theorem d_Bounds_lower_2 : decode prog_3_method_2_code 2 = .ok (.getfield 19, 3) := by decide +kernel
theorem d_Bounds_lower_5 : decode prog_3_method_2_code 5 = .ok (.getfield 23, 3) := by decide +kernel
theorem d_Bounds_lower_8 : decode prog_3_method_2_code 8 = .ok (.iload_n 1, 1) := by decide +kernel
theorem d_Bounds_lower_9 : decode prog_3_method_2_code 9 = .ok (.iload_n 2, 1) := by decide +kernel
theorem d_Bounds_lower_10 : decode prog_3_method_2_code 10 = .ok (.invokestatic 29, 3) := by decide +kernel
theorem d_Bounds_lower_13 : decode prog_3_method_2_code 13 = .ok (.aload_n 0, 1) := by decide +kernel
theorem d_Bounds_lower_14 : decode prog_3_method_2_code 14 = .ok (.getfield 19, 3) := by decide +kernel
theorem d_Bounds_lower_17 : decode prog_3_method_2_code 17 = .ok (.getfield 23, 3) := by decide +kernel
theorem d_Bounds_lower_20 : decode prog_3_method_2_code 20 = .ok (.invokevirtual 33, 3) := by decide +kernel
theorem d_Bounds_lower_23 : decode prog_3_method_2_code 23 = .ok (.ireturn, 1) := by decide +kernel
noncomputable def f_Bounds_lower (a0 : Int32) (a1 : Int32) (M : oz_M) : Option (Int32) := (f_Bounds_common 7 a0 a1 M).bind fun v1 => (f_Bounds_beyondAll v1 7 M).bind fun v2 => some v2
set_option maxRecDepth 20000 in
set_option maxHeartbeats 4000000 in
theorem c_Bounds_lower {l : Launch} {D : va_G} {cs : Nat → ClassId} {b : Nat} {a0 : Int32} {a1 : Int32} {M : oz_M} {vz : Int32} (hF : f_Bounds_lower a0 a1 M = some vz) : oz_Met l D cs b y_Bounds_lower prog_3_method_2_code 3 (some .int) (oz_rm 2) [.ref (b + 14), .int a0, .int a1] M (some (.int vz)) M := by
  refine oz_enter (by decide) (Nat.le_of_ble_eq_true rfl) (fun G cx hR e1 hRm e2 e3 e4 hnL => ?_)
  subst e1; subst e2; subst e3; subst e4
  refine (?_ : oz_R G 0 [(0, .ref (oz_b G + 14)), (1, .int a0), (2, .int a1)] [] M (f_Bounds_lower a0 a1 M) (fun x => x = vz)) _ hF rfl
  unfold f_Bounds_lower
  refine oz_aload_n (q := 1) cx d_Bounds_lower_0 rfl rfl 0 rfl ?_
  refine oz_aload_n (q := 2) cx d_Bounds_lower_1 rfl rfl 0 rfl ?_
  refine oz_get (q := 5) cx 14 0 (by decide) (ci := 4) rfl rfl tin_Bounds (by decide) rfl rfl tw_123 d_Bounds_lower_2 rfl ?_
  refine oz_get (q := 8) cx 6 1 (by decide) (ci := 3) rfl rfl tin_Order (by decide) rfl rfl tw_77 d_Bounds_lower_5 rfl ?_
  refine oz_iload_n (q := 9) cx d_Bounds_lower_8 rfl rfl 1 rfl ?_
  refine oz_iload_n (q := 10) cx d_Bounds_lower_9 rfl rfl 2 rfl ?_
  refine oz_cSip (q := 13) cx [.ref (oz_b G + 7), .int a0, .int a1] 3 hRm (by decide) (by decide) (fun _ h => c_Bounds_common ⟨by decide, fun _ _ _ _ => rfl⟩ h) ⟨tw_654, tw_655, tw_5⟩ tw_656 (by decide +kernel) rfl (st := [.ref (oz_b G + 14)]) rfl (Nat.le_of_ble_eq_true rfl) d_Bounds_lower_10 rfl (fun v1 hv1 => ?_)
  refine oz_aload_n (q := 14) cx d_Bounds_lower_13 rfl rfl 0 rfl ?_
  refine oz_get (q := 17) cx 14 0 (by decide) (ci := 4) rfl rfl tin_Bounds (by decide) rfl rfl tw_123 d_Bounds_lower_14 rfl ?_
  refine oz_get (q := 20) cx 6 1 (by decide) (ci := 3) rfl rfl tin_Order (by decide) rfl rfl tw_77 d_Bounds_lower_17 rfl ?_
  refine oz_cVip (q := 23) cx 14 [.int v1, .ref (oz_b G + 7)] 2 4 hRm (by decide) (by decide) (fun _ h => c_Bounds_beyondAll ⟨by decide, fun _ _ _ _ => rfl⟩ h) ⟨tw_657, tw_659, ts_20, tw_5⟩ tw_660 (by decide +kernel) rfl (by decide) rfl rfl (st := []) rfl (Nat.le_of_ble_eq_true rfl) d_Bounds_lower_20 rfl (fun v2 hv2 => ?_)
  exact oz_iretp cx hR d_Bounds_lower_23
def y_Bounds_upper : MethodName := ⟨"OrderHall$Bounds", "upper", "(II)I"⟩
theorem d_Bounds_upper_0 : decode prog_3_method_3_code 0 = .ok (.aload_n 0, 1) := by decide +kernel
theorem d_Bounds_upper_1 : decode prog_3_method_3_code 1 = .ok (.aload_n 0, 1) := by decide +kernel
theorem d_Bounds_upper_2 : decode prog_3_method_3_code 2 = .ok (.getfield 19, 3) := by decide +kernel
theorem d_Bounds_upper_5 : decode prog_3_method_3_code 5 = .ok (.getfield 37, 3) := by decide +kernel
theorem d_Bounds_upper_8 : decode prog_3_method_3_code 8 = .ok (.iload_n 1, 1) := by decide +kernel
theorem d_Bounds_upper_9 : decode prog_3_method_3_code 9 = .ok (.iload_n 2, 1) := by decide +kernel
theorem d_Bounds_upper_10 : decode prog_3_method_3_code 10 = .ok (.invokestatic 29, 3) := by decide +kernel
theorem d_Bounds_upper_13 : decode prog_3_method_3_code 13 = .ok (.aload_n 0, 1) := by decide +kernel
theorem d_Bounds_upper_14 : decode prog_3_method_3_code 14 = .ok (.getfield 19, 3) := by decide +kernel
theorem d_Bounds_upper_17 : decode prog_3_method_3_code 17 = .ok (.getfield 37, 3) := by decide +kernel
theorem d_Bounds_upper_20 : decode prog_3_method_3_code 20 = .ok (.invokevirtual 33, 3) := by decide +kernel
theorem d_Bounds_upper_23 : decode prog_3_method_3_code 23 = .ok (.ireturn, 1) := by decide +kernel
noncomputable def f_Bounds_upper (a0 : Int32) (a1 : Int32) (M : oz_M) : Option (Int32) := (f_Bounds_common 8 a0 a1 M).bind fun v1 => (f_Bounds_beyondAll v1 8 M).bind fun v2 => some v2
set_option maxRecDepth 20000 in
set_option maxHeartbeats 4000000 in
theorem c_Bounds_upper {l : Launch} {D : va_G} {cs : Nat → ClassId} {b : Nat} {a0 : Int32} {a1 : Int32} {M : oz_M} {vz : Int32} (hF : f_Bounds_upper a0 a1 M = some vz) : oz_Met l D cs b y_Bounds_upper prog_3_method_3_code 3 (some .int) (oz_rm 2) [.ref (b + 14), .int a0, .int a1] M (some (.int vz)) M := by
  refine oz_enter (by decide) (Nat.le_of_ble_eq_true rfl) (fun G cx hR e1 hRm e2 e3 e4 hnL => ?_)
  subst e1; subst e2; subst e3; subst e4
  refine (?_ : oz_R G 0 [(0, .ref (oz_b G + 14)), (1, .int a0), (2, .int a1)] [] M (f_Bounds_upper a0 a1 M) (fun x => x = vz)) _ hF rfl
  unfold f_Bounds_upper
  refine oz_aload_n (q := 1) cx d_Bounds_upper_0 rfl rfl 0 rfl ?_
  refine oz_aload_n (q := 2) cx d_Bounds_upper_1 rfl rfl 0 rfl ?_
  refine oz_get (q := 5) cx 14 0 (by decide) (ci := 4) rfl rfl tin_Bounds (by decide) rfl rfl tw_123 d_Bounds_upper_2 rfl ?_
  refine oz_get (q := 8) cx 6 2 (by decide) (ci := 3) rfl rfl tin_Order (by decide) rfl rfl tw_83 d_Bounds_upper_5 rfl ?_
  refine oz_iload_n (q := 9) cx d_Bounds_upper_8 rfl rfl 1 rfl ?_
  refine oz_iload_n (q := 10) cx d_Bounds_upper_9 rfl rfl 2 rfl ?_
  refine oz_cSip (q := 13) cx [.ref (oz_b G + 8), .int a0, .int a1] 3 hRm (by decide) (by decide) (fun _ h => c_Bounds_common ⟨by decide, fun _ _ _ _ => rfl⟩ h) ⟨tw_654, tw_655, tw_5⟩ tw_656 (by decide +kernel) rfl (st := [.ref (oz_b G + 14)]) rfl (Nat.le_of_ble_eq_true rfl) d_Bounds_upper_10 rfl (fun v1 hv1 => ?_)
  refine oz_aload_n (q := 14) cx d_Bounds_upper_13 rfl rfl 0 rfl ?_
  refine oz_get (q := 17) cx 14 0 (by decide) (ci := 4) rfl rfl tin_Bounds (by decide) rfl rfl tw_123 d_Bounds_upper_14 rfl ?_
  refine oz_get (q := 20) cx 6 2 (by decide) (ci := 3) rfl rfl tin_Order (by decide) rfl rfl tw_83 d_Bounds_upper_17 rfl ?_
  refine oz_cVip (q := 23) cx 14 [.int v1, .ref (oz_b G + 8)] 2 4 hRm (by decide) (by decide) (fun _ h => c_Bounds_beyondAll ⟨by decide, fun _ _ _ _ => rfl⟩ h) ⟨tw_657, tw_659, ts_20, tw_5⟩ tw_660 (by decide +kernel) rfl (by decide) rfl rfl (st := []) rfl (Nat.le_of_ble_eq_true rfl) d_Bounds_upper_20 rfl (fun v2 hv2 => ?_)
  exact oz_iretp cx hR d_Bounds_upper_23
def y_Held_measureKind : MethodName := ⟨"OrderHall$Held", "measureKind", "(I)V"⟩
theorem d_Held_measureKind_0 : decode prog_4_method_3_code 0 = .ok (.iconst 0, 1) := by decide +kernel
theorem d_Held_measureKind_1 : decode prog_4_method_3_code 1 = .ok (.istore_n 2, 1) := by decide +kernel
theorem d_Held_measureKind_2 : decode prog_4_method_3_code 2 = .ok (.iload_n 2, 1) := by decide +kernel
theorem d_Held_measureKind_3 : decode prog_4_method_3_code 3 = .ok (.aload_n 0, 1) := by decide +kernel
theorem d_Held_measureKind_4 : decode prog_4_method_3_code 4 = .ok (.getfield 37, 3) := by decide +kernel
theorem d_Held_measureKind_7 : decode prog_4_method_3_code 7 = .ok (.getfield 48, 3) := by decide +kernel
theorem d_Held_measureKind_10 : decode prog_4_method_3_code 10 = .ok (.if_icmp .ge 49, 3) := by decide +kernel
theorem d_Held_measureKind_13 : decode prog_4_method_3_code 13 = .ok (.aload_n 0, 1) := by decide +kernel
theorem d_Held_measureKind_14 : decode prog_4_method_3_code 14 = .ok (.iload_n 2, 1) := by decide +kernel
theorem d_Held_measureKind_15 : decode prog_4_method_3_code 15 = .ok (.iload_n 1, 1) := by decide +kernel
theorem d_Held_measureKind_16 : decode prog_4_method_3_code 16 = .ok (.ifCond .ne 15, 3) := by decide +kernel
theorem d_Held_measureKind_19 : decode prog_4_method_3_code 19 = .ok (.aload_n 0, 1) := by decide +kernel
theorem d_Held_measureKind_20 : decode prog_4_method_3_code 20 = .ok (.getfield 37, 3) := by decide +kernel
theorem d_Held_measureKind_23 : decode prog_4_method_3_code 23 = .ok (.getfield 53, 3) := by decide +kernel
theorem d_Held_measureKind_26 : decode prog_4_method_3_code 26 = .ok (.iload_n 2, 1) := by decide +kernel
theorem d_Held_measureKind_27 : decode prog_4_method_3_code 27 = .ok (.iaload, 1) := by decide +kernel
theorem d_Held_measureKind_28 : decode prog_4_method_3_code 28 = .ok (.goto 22, 3) := by decide +kernel
theorem d_Held_measureKind_31 : decode prog_4_method_3_code 31 = .ok (.aload_n 0, 1) := by decide +kernel
theorem d_Held_measureKind_32 : decode prog_4_method_3_code 32 = .ok (.getfield 37, 3) := by decide +kernel
theorem d_Held_measureKind_35 : decode prog_4_method_3_code 35 = .ok (.getfield 57, 3) := by decide +kernel
theorem d_Held_measureKind_38 : decode prog_4_method_3_code 38 = .ok (.iload_n 2, 1) := by decide +kernel
theorem d_Held_measureKind_39 : decode prog_4_method_3_code 39 = .ok (.iaload, 1) := by decide +kernel
theorem d_Held_measureKind_40 : decode prog_4_method_3_code 40 = .ok (.aload_n 0, 1) := by decide +kernel
theorem d_Held_measureKind_41 : decode prog_4_method_3_code 41 = .ok (.getfield 37, 3) := by decide +kernel
theorem d_Held_measureKind_44 : decode prog_4_method_3_code 44 = .ok (.getfield 60, 3) := by decide +kernel
theorem d_Held_measureKind_47 : decode prog_4_method_3_code 47 = .ok (.iload_n 2, 1) := by decide +kernel
theorem d_Held_measureKind_48 : decode prog_4_method_3_code 48 = .ok (.iaload, 1) := by decide +kernel
theorem d_Held_measureKind_49 : decode prog_4_method_3_code 49 = .ok (.ior, 1) := by decide +kernel
theorem d_Held_measureKind_50 : decode prog_4_method_3_code 50 = .ok (.invokevirtual 63, 3) := by decide +kernel
theorem d_Held_measureKind_53 : decode prog_4_method_3_code 53 = .ok (.iinc 2 1, 3) := by decide +kernel
theorem d_Held_measureKind_56 : decode prog_4_method_3_code 56 = .ok (.goto (-54), 3) := by decide +kernel
theorem d_Held_measureKind_59 : decode prog_4_method_3_code 59 = .ok (.aload_n 0, 1) := by decide +kernel
theorem d_Held_measureKind_60 : decode prog_4_method_3_code 60 = .ok (.aload_n 0, 1) := by decide +kernel
theorem d_Held_measureKind_61 : decode prog_4_method_3_code 61 = .ok (.getfield 17, 3) := by decide +kernel
theorem d_Held_measureKind_64 : decode prog_4_method_3_code 64 = .ok (.iload_n 1, 1) := by decide +kernel
theorem d_Held_measureKind_65 : decode prog_4_method_3_code 65 = .ok (.aaload, 1) := by decide +kernel
theorem d_Held_measureKind_66 : decode prog_4_method_3_code 66 = .ok (.aload_n 0, 1) := by decide +kernel
theorem d_Held_measureKind_67 : decode prog_4_method_3_code 67 = .ok (.getfield 20, 3) := by decide +kernel
theorem d_Held_measureKind_70 : decode prog_4_method_3_code 70 = .ok (.iload_n 1, 1) := by decide +kernel
theorem d_Held_measureKind_71 : decode prog_4_method_3_code 71 = .ok (.aaload, 1) := by decide +kernel
theorem d_Held_measureKind_72 : decode prog_4_method_3_code 72 = .ok (.invokevirtual 67, 3) := by decide +kernel
theorem d_Held_measureKind_75 : decode prog_4_method_3_code 75 = .ok (.aload_n 0, 1) := by decide +kernel
theorem d_Held_measureKind_76 : decode prog_4_method_3_code 76 = .ok (.aload_n 0, 1) := by decide +kernel
theorem d_Held_measureKind_77 : decode prog_4_method_3_code 77 = .ok (.getfield 17, 3) := by decide +kernel
theorem d_Held_measureKind_80 : decode prog_4_method_3_code 80 = .ok (.iload_n 1, 1) := by decide +kernel
theorem d_Held_measureKind_81 : decode prog_4_method_3_code 81 = .ok (.aaload, 1) := by decide +kernel
theorem d_Held_measureKind_82 : decode prog_4_method_3_code 82 = .ok (.aload_n 0, 1) := by decide +kernel
theorem d_Held_measureKind_83 : decode prog_4_method_3_code 83 = .ok (.getfield 20, 3) := by decide +kernel
theorem d_Held_measureKind_86 : decode prog_4_method_3_code 86 = .ok (.iload_n 1, 1) := by decide +kernel
theorem d_Held_measureKind_87 : decode prog_4_method_3_code 87 = .ok (.aaload, 1) := by decide +kernel
theorem d_Held_measureKind_88 : decode prog_4_method_3_code 88 = .ok (.invokevirtual 71, 3) := by decide +kernel
theorem d_Held_measureKind_91 : decode prog_4_method_3_code 91 = .ok (.return_, 1) := by decide +kernel
noncomputable def f_Held_measureKind (a0 : Int32) (M : oz_M) : Option (Unit × oz_M) := (oz_lp (fun (s1 : Int32 × oz_M) => (if s1.1 < (s1.2.1 6 0) then ((if a0 = 0 then ((oz_in s1.1 14).bind fun j5 => some (s1.2.1 9 j5)) else ((oz_in s1.1 14).bind fun j3 => (oz_in s1.1 14).bind fun j4 => some ((s1.2.1 7 j3) ||| (s1.2.1 8 j4)))).bind fun (z2 : Int32) => oz_b2 (f_Held_extendLargest s1.1 z2 s1.2) fun v7 M8 => some (.inl (s1.1 + 1, M8))) else (some (.inr (s1.1, s1.2))) : Option ((Int32 × oz_M) ⊕ (Int32 × oz_M)))) (0, M)).bind fun (y10 : Int32 × oz_M) => (oz_in a0 2).bind fun j11 => (oz_in a0 2).bind fun j12 => oz_b2 (f_Held_noteFirsts (47 + j11) (50 + j12) y10.2) fun v13 M14 => (oz_in a0 2).bind fun j15 => (oz_in a0 2).bind fun j16 => oz_b2 (f_Held_spreadFirsts (47 + j15) (50 + j16) M14) fun v17 M18 => some ((), M18)
set_option maxRecDepth 20000 in
set_option maxHeartbeats 4000000 in
theorem c_Held_measureKind {l : Launch} {D : va_G} {cs : Nat → ClassId} {b : Nat} {a0 : Int32} {M : oz_M} {vz : Unit} {Mz : oz_M} (hF : f_Held_measureKind a0 M = some (vz, Mz)) : oz_Met l D cs b y_Held_measureKind prog_4_method_3_code 3 none (oz_rm 2) [.ref (b + 45), .int a0] M (none) Mz := by
  refine oz_enter (by decide) (Nat.le_of_ble_eq_true rfl) (fun G cx hR e1 hRm e2 e3 e4 hnL => ?_)
  subst e1; subst e2; subst e3; subst e4
  refine (?_ : oz_R G 0 [(0, .ref (oz_b G + 45)), (1, .int a0)] [] M (f_Held_measureKind a0 M) (fun x => x = (vz, Mz))) _ hF rfl
  unfold f_Held_measureKind
  refine oz_iconst (q := 1) cx d_Held_measureKind_0 rfl (v := 0) rfl ?_
  refine oz_istore_n (q := 2) cx d_Held_measureKind_1 rfl rfl (by rw [hnL]; decide) (lv2 := [(2, .int 0), (0, .ref (oz_b G + 45)), (1, .int a0)]) rfl ?_
  refine oz_lv [1, 2, 0] rfl ?_
  refine oz_seq (p2 := 59) (lv2 := fun (y10 : Int32 × oz_M) => [(0, .ref (oz_b G + 45)), (1, .int a0)]) (st2 := fun y10 => []) (M2 := fun y10 => y10.2) ?_ (fun y10 => ?_)
  · refine oz_loop (Y := Int32 × oz_M) 2 (fun (s1 : Int32 × oz_M) => [(0, .ref (oz_b G + 45)), (1, .int a0), (2, .int s1.1)]) (fun (s1 : Int32 × oz_M) => s1.2) (0, M) (fun s1 => ?_)
    refine oz_iload_n (q := 3) cx d_Held_measureKind_2 rfl rfl 2 rfl ?_
    refine oz_aload_n (q := 4) cx d_Held_measureKind_3 rfl rfl 0 rfl ?_
    refine oz_get (q := 7) cx 45 6 (by decide) (ci := 5) rfl rfl tin_Held (by decide) rfl rfl tw_154 d_Held_measureKind_4 rfl ?_
    refine oz_get (q := 10) cx 6 0 (by decide) (ci := 3) rfl rfl tin_Order (by decide) rfl rfl tw_71 d_Held_measureKind_7 rfl ?_
    refine oz_icmp_ge (q := 13) cx d_Held_measureKind_10 rfl rfl (fun h9 => ?_) (fun h9 => ?_)
    · exact oz_lv [0, 1] rfl (oz_leaf (fun h => h))
    · refine oz_aload_n (q := 14) cx d_Held_measureKind_13 rfl rfl 0 rfl ?_
      refine oz_iload_n (q := 15) cx d_Held_measureKind_14 rfl rfl 2 rfl ?_
      refine oz_iload_n (q := 16) cx d_Held_measureKind_15 rfl rfl 1 rfl ?_
      refine oz_seq (p2 := 50) (lv2 := fun (z2 : Int32) => [(0, .ref (oz_b G + 45)), (1, .int a0), (2, .int s1.1)]) (st2 := fun z2 => [.int z2, .int s1.1, .ref (oz_b G + 45)]) (M2 := fun z2 => s1.2) ?_ (fun z2 => ?_)
      · refine oz_if_ne (q := 19) cx d_Held_measureKind_16 rfl rfl (fun h6 => ?_) (fun h6 => ?_)
        · refine oz_aload_n (q := 32) cx d_Held_measureKind_31 rfl rfl 0 rfl ?_
          refine oz_get (q := 35) cx 45 6 (by decide) (ci := 5) rfl rfl tin_Held (by decide) rfl rfl tw_154 d_Held_measureKind_32 rfl ?_
          refine oz_get (q := 38) cx 6 1 (by decide) (ci := 3) rfl rfl tin_Order (by decide) rfl rfl tw_78 d_Held_measureKind_35 rfl ?_
          refine oz_iload_n (q := 39) cx d_Held_measureKind_38 rfl rfl 2 rfl ?_
          refine oz_iald (q := 40) cx 7 14 (by decide) rfl d_Held_measureKind_39 rfl (fun j3 hj3 => ?_)
          refine oz_aload_n (q := 41) cx d_Held_measureKind_40 rfl rfl 0 rfl ?_
          refine oz_get (q := 44) cx 45 6 (by decide) (ci := 5) rfl rfl tin_Held (by decide) rfl rfl tw_154 d_Held_measureKind_41 rfl ?_
          refine oz_get (q := 47) cx 6 2 (by decide) (ci := 3) rfl rfl tin_Order (by decide) rfl rfl tw_84 d_Held_measureKind_44 rfl ?_
          refine oz_iload_n (q := 48) cx d_Held_measureKind_47 rfl rfl 2 rfl ?_
          refine oz_iald (q := 49) cx 8 14 (by decide) rfl d_Held_measureKind_48 rfl (fun j4 hj4 => ?_)
          refine oz_ior (q := 50) cx d_Held_measureKind_49 rfl ?_
          exact oz_lv [0, 1, 2] rfl (oz_leaf (fun h => h))
        · refine oz_aload_n (q := 20) cx d_Held_measureKind_19 rfl rfl 0 rfl ?_
          refine oz_get (q := 23) cx 45 6 (by decide) (ci := 5) rfl rfl tin_Held (by decide) rfl rfl tw_154 d_Held_measureKind_20 rfl ?_
          refine oz_get (q := 26) cx 6 3 (by decide) (ci := 3) rfl rfl tin_Order (by decide) rfl rfl tw_89 d_Held_measureKind_23 rfl ?_
          refine oz_iload_n (q := 27) cx d_Held_measureKind_26 rfl rfl 2 rfl ?_
          refine oz_iald (q := 28) cx 9 14 (by decide) rfl d_Held_measureKind_27 rfl (fun j5 hj5 => ?_)
          refine oz_goto cx d_Held_measureKind_28 rfl ?_
          exact oz_lv [0, 1, 2] rfl (oz_leaf (fun h => h))
      · refine oz_cVv (q := 53) cx 45 [.int s1.1, .int z2] 2 5 hRm (by decide) (by decide) (fun _ _ h => c_Held_extendLargest h) ⟨tw_547, tw_549, ts_13, tw_6⟩ tw_550 (by decide +kernel) rfl (by decide) rfl rfl (st := []) rfl (Nat.le_of_ble_eq_true rfl) d_Held_measureKind_50 rfl (fun v7 M8 hv7 => ?_)
        refine oz_iinc (q := 56) cx (s1.1 + 1) d_Held_measureKind_53 rfl 2 rfl rfl (by rw [hnL]; decide) (lv2 := [(2, .int (s1.1 + 1)), (0, .ref (oz_b G + 45)), (1, .int a0)]) rfl ?_
        refine oz_goto cx d_Held_measureKind_56 rfl ?_
        exact oz_lv [1, 2, 0] rfl (oz_leaf (fun h => h))
  · refine oz_aload_n (q := 60) cx d_Held_measureKind_59 rfl rfl 0 rfl ?_
    refine oz_aload_n (q := 61) cx d_Held_measureKind_60 rfl rfl 0 rfl ?_
    refine oz_get (q := 64) cx 45 1 (by decide) (ci := 5) rfl rfl tin_Held (by decide) rfl rfl tw_142 d_Held_measureKind_61 rfl ?_
    refine oz_iload_n (q := 65) cx d_Held_measureKind_64 rfl rfl 1 rfl ?_
    refine oz_aald (q := 66) cx 46 2 47 (by decide) rfl d_Held_measureKind_65 rfl (fun j11 hj11 => ?_)
    refine oz_aload_n (q := 67) cx d_Held_measureKind_66 rfl rfl 0 rfl ?_
    refine oz_get (q := 70) cx 45 2 (by decide) (ci := 5) rfl rfl tin_Held (by decide) rfl rfl tw_145 d_Held_measureKind_67 rfl ?_
    refine oz_iload_n (q := 71) cx d_Held_measureKind_70 rfl rfl 1 rfl ?_
    refine oz_aald (q := 72) cx 49 2 50 (by decide) rfl d_Held_measureKind_71 rfl (fun j12 hj12 => ?_)
    refine oz_cVv (q := 75) cx 45 [.ref (oz_b G + (47 + j11)), .ref (oz_b G + (50 + j12))] 2 5 hRm (by decide) (by decide) (fun _ _ h => c_Held_noteFirsts ⟨(oz_g46l (oz_lt hj11)), fun _ _ _ _ => (oz_g46 (oz_lt hj11))⟩ ⟨(oz_g49l (oz_lt hj12)), fun _ _ _ _ => (oz_g49 (oz_lt hj12))⟩ h) ⟨tw_552, tw_554, ts_14, tw_6⟩ tw_555 (by decide +kernel) rfl (by decide) rfl rfl (st := []) rfl (Nat.le_of_ble_eq_true rfl) d_Held_measureKind_72 rfl (fun v13 M14 hv13 => ?_)
    refine oz_aload_n (q := 76) cx d_Held_measureKind_75 rfl rfl 0 rfl ?_
    refine oz_aload_n (q := 77) cx d_Held_measureKind_76 rfl rfl 0 rfl ?_
    refine oz_get (q := 80) cx 45 1 (by decide) (ci := 5) rfl rfl tin_Held (by decide) rfl rfl tw_142 d_Held_measureKind_77 rfl ?_
    refine oz_iload_n (q := 81) cx d_Held_measureKind_80 rfl rfl 1 rfl ?_
    refine oz_aald (q := 82) cx 46 2 47 (by decide) rfl d_Held_measureKind_81 rfl (fun j15 hj15 => ?_)
    refine oz_aload_n (q := 83) cx d_Held_measureKind_82 rfl rfl 0 rfl ?_
    refine oz_get (q := 86) cx 45 2 (by decide) (ci := 5) rfl rfl tin_Held (by decide) rfl rfl tw_145 d_Held_measureKind_83 rfl ?_
    refine oz_iload_n (q := 87) cx d_Held_measureKind_86 rfl rfl 1 rfl ?_
    refine oz_aald (q := 88) cx 49 2 50 (by decide) rfl d_Held_measureKind_87 rfl (fun j16 hj16 => ?_)
    refine oz_cVv (q := 91) cx 45 [.ref (oz_b G + (47 + j15)), .ref (oz_b G + (50 + j16))] 2 5 hRm (by decide) (by decide) (fun _ _ h => c_Held_spreadFirsts ⟨(oz_g46l (oz_lt hj15)), fun _ _ _ _ => (oz_g46 (oz_lt hj15))⟩ ⟨(oz_g49l (oz_lt hj16)), fun _ _ _ _ => (oz_g49 (oz_lt hj16))⟩ h) ⟨tw_558, tw_560, ts_15, tw_6⟩ tw_561 (by decide +kernel) rfl (by decide) rfl rfl (st := []) rfl (Nat.le_of_ble_eq_true rfl) d_Held_measureKind_88 rfl (fun v17 M18 hv17 => ?_)
    exact oz_vret cx hR d_Held_measureKind_91
def y_Line_countWays : MethodName := ⟨"OrderHall$Line", "countWays", "()V"⟩
theorem d_Line_countWays_0 : decode prog_5_method_3_code 0 = .ok (.aload_n 0, 1) := by decide +kernel
theorem d_Line_countWays_1 : decode prog_5_method_3_code 1 = .ok (.getfield 26, 3) := by decide +kernel
theorem d_Line_countWays_4 : decode prog_5_method_3_code 4 = .ok (.invokevirtual 33, 3) := by decide +kernel
theorem d_Line_countWays_7 : decode prog_5_method_3_code 7 = .ok (.istore_n 1, 1) := by decide +kernel
theorem d_Line_countWays_8 : decode prog_5_method_3_code 8 = .ok (.aload_n 0, 1) := by decide +kernel
theorem d_Line_countWays_9 : decode prog_5_method_3_code 9 = .ok (.getfield 22, 3) := by decide +kernel
theorem d_Line_countWays_12 : decode prog_5_method_3_code 12 = .ok (.iload_n 1, 1) := by decide +kernel
theorem d_Line_countWays_13 : decode prog_5_method_3_code 13 = .ok (.lconst 1, 1) := by decide +kernel
theorem d_Line_countWays_14 : decode prog_5_method_3_code 14 = .ok (.lastore, 1) := by decide +kernel
theorem d_Line_countWays_15 : decode prog_5_method_3_code 15 = .ok (.iload_n 1, 1) := by decide +kernel
theorem d_Line_countWays_16 : decode prog_5_method_3_code 16 = .ok (.iconst 1, 1) := by decide +kernel
theorem d_Line_countWays_17 : decode prog_5_method_3_code 17 = .ok (.isub, 1) := by decide +kernel
theorem d_Line_countWays_18 : decode prog_5_method_3_code 18 = .ok (.istore_n 2, 1) := by decide +kernel
theorem d_Line_countWays_19 : decode prog_5_method_3_code 19 = .ok (.iload_n 2, 1) := by decide +kernel
theorem d_Line_countWays_20 : decode prog_5_method_3_code 20 = .ok (.ifCond .lt 20, 3) := by decide +kernel
theorem d_Line_countWays_23 : decode prog_5_method_3_code 23 = .ok (.aload_n 0, 1) := by decide +kernel
theorem d_Line_countWays_24 : decode prog_5_method_3_code 24 = .ok (.getfield 22, 3) := by decide +kernel
theorem d_Line_countWays_27 : decode prog_5_method_3_code 27 = .ok (.iload_n 2, 1) := by decide +kernel
theorem d_Line_countWays_28 : decode prog_5_method_3_code 28 = .ok (.aload_n 0, 1) := by decide +kernel
theorem d_Line_countWays_29 : decode prog_5_method_3_code 29 = .ok (.iload_n 2, 1) := by decide +kernel
theorem d_Line_countWays_30 : decode prog_5_method_3_code 30 = .ok (.invokevirtual 39, 3) := by decide +kernel
theorem d_Line_countWays_33 : decode prog_5_method_3_code 33 = .ok (.lastore, 1) := by decide +kernel
theorem d_Line_countWays_34 : decode prog_5_method_3_code 34 = .ok (.iinc 2 (-1), 3) := by decide +kernel
theorem d_Line_countWays_37 : decode prog_5_method_3_code 37 = .ok (.goto (-18), 3) := by decide +kernel
theorem d_Line_countWays_40 : decode prog_5_method_3_code 40 = .ok (.return_, 1) := by decide +kernel
noncomputable def f_Line_countWays (M : oz_M) : Option (Unit × oz_M) := (f_Order_everything M).bind fun v1 => (oz_in v1 16384).bind fun j2 => (some (oz_l M 55 j2 1)).bind fun M3 => (oz_lp (fun (s4 : Int32 × oz_M) => (if s4.1 < 0 then (some (.inr (s4.1, s4.2))) else ((f_Line_waysBehind s4.1 s4.2).bind fun v5 => (oz_in s4.1 16384).bind fun j6 => (some (oz_l s4.2 55 j6 v5)).bind fun M7 => some (.inl (s4.1 + (-1), M7))) : Option ((Int32 × oz_M) ⊕ (Int32 × oz_M)))) (v1 - 1, M3)).bind fun (y9 : Int32 × oz_M) => some ((), y9.2)
set_option maxRecDepth 20000 in
set_option maxHeartbeats 4000000 in
theorem c_Line_countWays {l : Launch} {D : va_G} {cs : Nat → ClassId} {b : Nat} {M : oz_M} {vz : Unit} {Mz : oz_M} (hF : f_Line_countWays M = some (vz, Mz)) : oz_Met l D cs b y_Line_countWays prog_5_method_3_code 3 none (oz_rm 2) [.ref (b + 53)] M (none) Mz := by
  refine oz_enter (by decide) (Nat.le_of_ble_eq_true rfl) (fun G cx hR e1 hRm e2 e3 e4 hnL => ?_)
  subst e1; subst e2; subst e3; subst e4
  refine (?_ : oz_R G 0 [(0, .ref (oz_b G + 53))] [] M (f_Line_countWays  M) (fun x => x = (vz, Mz))) _ hF rfl
  unfold f_Line_countWays
  refine oz_aload_n (q := 1) cx d_Line_countWays_0 rfl rfl 0 rfl ?_
  refine oz_get (q := 4) cx 53 3 (by decide) (ci := 6) rfl rfl tin_Line (by decide) rfl rfl tw_186 d_Line_countWays_1 rfl ?_
  refine oz_cVip (q := 7) cx 6 [] 0 3 hRm (by decide) (by decide) (fun _ h => c_Order_everything h) ⟨tw_626, tw_301, tw_302, tw_4⟩ tw_303 (by decide +kernel) rfl (by decide) rfl rfl (st := []) rfl (Nat.le_of_ble_eq_true rfl) d_Line_countWays_4 rfl (fun v1 hv1 => ?_)
  refine oz_istore_n (q := 8) cx d_Line_countWays_7 rfl rfl (by rw [hnL]; decide) (lv2 := [(1, .int v1), (0, .ref (oz_b G + 53))]) rfl ?_
  refine oz_aload_n (q := 9) cx d_Line_countWays_8 rfl rfl 1 rfl ?_
  refine oz_get (q := 12) cx 53 4 (by decide) (ci := 6) rfl rfl tin_Line (by decide) rfl rfl tw_187 d_Line_countWays_9 rfl ?_
  refine oz_iload_n (q := 13) cx d_Line_countWays_12 rfl rfl 0 rfl ?_
  refine oz_lconst (q := 14) cx d_Line_countWays_13 rfl (v := 1) rfl ?_
  refine oz_last (q := 15) cx 55 16384 (by decide) (fun _ => rfl) d_Line_countWays_14 rfl (fun j2 hj2 => ?_)
  refine oz_nm (fun M3 hM3 => ?_)
  refine oz_iload_n (q := 16) cx d_Line_countWays_15 rfl rfl 0 rfl ?_
  refine oz_iconst (q := 17) cx d_Line_countWays_16 rfl (v := 1) rfl ?_
  refine oz_isub (q := 18) cx d_Line_countWays_17 rfl ?_
  refine oz_istore_n (q := 19) cx d_Line_countWays_18 rfl rfl (by rw [hnL]; decide) (lv2 := [(2, .int (v1 - 1)), (1, .int v1), (0, .ref (oz_b G + 53))]) rfl ?_
  refine oz_lv [2, 0] rfl ?_
  refine oz_seq (p2 := 40) (lv2 := fun (y9 : Int32 × oz_M) => []) (st2 := fun y9 => []) (M2 := fun y9 => y9.2) ?_ (fun y9 => ?_)
  · refine oz_loop (Y := Int32 × oz_M) 19 (fun (s4 : Int32 × oz_M) => [(0, .ref (oz_b G + 53)), (2, .int s4.1)]) (fun (s4 : Int32 × oz_M) => s4.2) (v1 - 1, M3) (fun s4 => ?_)
    refine oz_iload_n (q := 20) cx d_Line_countWays_19 rfl rfl 1 rfl ?_
    refine oz_if_lt (q := 23) cx d_Line_countWays_20 rfl rfl (fun h8 => ?_) (fun h8 => ?_)
    · exact oz_lv [] rfl (oz_leaf (fun h => h))
    · refine oz_aload_n (q := 24) cx d_Line_countWays_23 rfl rfl 0 rfl ?_
      refine oz_get (q := 27) cx 53 4 (by decide) (ci := 6) rfl rfl tin_Line (by decide) rfl rfl tw_187 d_Line_countWays_24 rfl ?_
      refine oz_iload_n (q := 28) cx d_Line_countWays_27 rfl rfl 1 rfl ?_
      refine oz_aload_n (q := 29) cx d_Line_countWays_28 rfl rfl 0 rfl ?_
      refine oz_iload_n (q := 30) cx d_Line_countWays_29 rfl rfl 1 rfl ?_
      refine oz_cVlp (q := 33) cx 53 [.int s4.1] 1 6 hRm (by decide) (by decide) (fun _ h => c_Line_waysBehind h) ⟨tw_627, tw_629, ts_19, tw_7⟩ tw_630 (by decide +kernel) rfl (by decide) rfl rfl (st := [.int s4.1, .ref (oz_b G + 55)]) rfl (Nat.le_of_ble_eq_true rfl) d_Line_countWays_30 rfl (fun v5 hv5 => ?_)
      refine oz_last (q := 34) cx 55 16384 (by decide) (fun _ => rfl) d_Line_countWays_33 rfl (fun j6 hj6 => ?_)
      refine oz_nm (fun M7 hM7 => ?_)
      refine oz_iinc (q := 37) cx (s4.1 + (-1)) d_Line_countWays_34 rfl 1 rfl rfl (by rw [hnL]; decide) (lv2 := [(2, .int (s4.1 + (-1))), (0, .ref (oz_b G + 53))]) rfl ?_
      refine oz_goto cx d_Line_countWays_37 rfl ?_
      exact oz_lv [1, 0] rfl (oz_leaf (fun h => h))
  · exact oz_vret cx hR d_Line_countWays_40
def y_Line_rank : MethodName := ⟨"OrderHall$Line", "rank", "()J"⟩
theorem d_Line_rank_0 : decode prog_5_method_7_code 0 = .ok (.iconst 0, 1) := by decide +kernel
theorem d_Line_rank_1 : decode prog_5_method_7_code 1 = .ok (.istore_n 1, 1) := by decide +kernel
theorem d_Line_rank_2 : decode prog_5_method_7_code 2 = .ok (.lconst 0, 1) := by decide +kernel
theorem d_Line_rank_3 : decode prog_5_method_7_code 3 = .ok (.lstore_n 2, 1) := by decide +kernel
theorem d_Line_rank_4 : decode prog_5_method_7_code 4 = .ok (.iconst 0, 1) := by decide +kernel
theorem d_Line_rank_5 : decode prog_5_method_7_code 5 = .ok (.istore 4, 2) := by decide +kernel
theorem d_Line_rank_7 : decode prog_5_method_7_code 7 = .ok (.iload 4, 2) := by decide +kernel
theorem d_Line_rank_9 : decode prog_5_method_7_code 9 = .ok (.aload_n 0, 1) := by decide +kernel
theorem d_Line_rank_10 : decode prog_5_method_7_code 10 = .ok (.getfield 26, 3) := by decide +kernel
theorem d_Line_rank_13 : decode prog_5_method_7_code 13 = .ok (.getfield 43, 3) := by decide +kernel
theorem d_Line_rank_16 : decode prog_5_method_7_code 16 = .ok (.if_icmp .ge 52, 3) := by decide +kernel
theorem d_Line_rank_19 : decode prog_5_method_7_code 19 = .ok (.iconst 0, 1) := by decide +kernel
theorem d_Line_rank_20 : decode prog_5_method_7_code 20 = .ok (.istore 5, 2) := by decide +kernel
theorem d_Line_rank_22 : decode prog_5_method_7_code 22 = .ok (.iload 5, 2) := by decide +kernel
theorem d_Line_rank_24 : decode prog_5_method_7_code 24 = .ok (.aload_n 0, 1) := by decide +kernel
theorem d_Line_rank_25 : decode prog_5_method_7_code 25 = .ok (.getfield 18, 3) := by decide +kernel
theorem d_Line_rank_28 : decode prog_5_method_7_code 28 = .ok (.iload 4, 2) := by decide +kernel
theorem d_Line_rank_30 : decode prog_5_method_7_code 30 = .ok (.iaload, 1) := by decide +kernel
theorem d_Line_rank_31 : decode prog_5_method_7_code 31 = .ok (.if_icmp .ge 19, 3) := by decide +kernel
theorem d_Line_rank_34 : decode prog_5_method_7_code 34 = .ok (.lload_n 2, 1) := by decide +kernel
theorem d_Line_rank_35 : decode prog_5_method_7_code 35 = .ok (.aload_n 0, 1) := by decide +kernel
theorem d_Line_rank_36 : decode prog_5_method_7_code 36 = .ok (.iload_n 1, 1) := by decide +kernel
theorem d_Line_rank_37 : decode prog_5_method_7_code 37 = .ok (.iload 5, 2) := by decide +kernel
theorem d_Line_rank_39 : decode prog_5_method_7_code 39 = .ok (.invokevirtual 54, 3) := by decide +kernel
theorem d_Line_rank_42 : decode prog_5_method_7_code 42 = .ok (.ladd, 1) := by decide +kernel
theorem d_Line_rank_43 : decode prog_5_method_7_code 43 = .ok (.lstore_n 2, 1) := by decide +kernel
theorem d_Line_rank_44 : decode prog_5_method_7_code 44 = .ok (.iinc 5 1, 3) := by decide +kernel
theorem d_Line_rank_47 : decode prog_5_method_7_code 47 = .ok (.goto (-25), 3) := by decide +kernel
theorem d_Line_rank_50 : decode prog_5_method_7_code 50 = .ok (.iload_n 1, 1) := by decide +kernel
theorem d_Line_rank_51 : decode prog_5_method_7_code 51 = .ok (.iconst 1, 1) := by decide +kernel
theorem d_Line_rank_52 : decode prog_5_method_7_code 52 = .ok (.aload_n 0, 1) := by decide +kernel
theorem d_Line_rank_53 : decode prog_5_method_7_code 53 = .ok (.getfield 18, 3) := by decide +kernel
theorem d_Line_rank_56 : decode prog_5_method_7_code 56 = .ok (.iload 4, 2) := by decide +kernel
theorem d_Line_rank_58 : decode prog_5_method_7_code 58 = .ok (.iaload, 1) := by decide +kernel
theorem d_Line_rank_59 : decode prog_5_method_7_code 59 = .ok (.ishl, 1) := by decide +kernel
theorem d_Line_rank_60 : decode prog_5_method_7_code 60 = .ok (.ior, 1) := by decide +kernel
theorem d_Line_rank_61 : decode prog_5_method_7_code 61 = .ok (.istore_n 1, 1) := by decide +kernel
theorem d_Line_rank_62 : decode prog_5_method_7_code 62 = .ok (.iinc 4 1, 3) := by decide +kernel
theorem d_Line_rank_65 : decode prog_5_method_7_code 65 = .ok (.goto (-58), 3) := by decide +kernel
theorem d_Line_rank_68 : decode prog_5_method_7_code 68 = .ok (.lload_n 2, 1) := by decide +kernel
theorem d_Line_rank_69 : decode prog_5_method_7_code 69 = .ok (.lreturn, 1) := by decide +kernel
noncomputable def f_Line_rank (M : oz_M) : Option (Int64) := (oz_lp (fun (s1 : Int32 × Int64 × Int32) => (if s1.2.2 < (M.1 6 0) then ((oz_lp (fun (s2 : Int64 × Int32) => ((oz_in s1.2.2 14).bind fun j3 => if s2.2 < (M.1 54 j3) then ((f_Line_waysWith s1.1 s2.2 M).bind fun v4 => some (.inl (s2.1 + v4, s2.2 + 1))) else (some (.inr (s2.1, s2.2))) : Option ((Int64 × Int32) ⊕ (Int64 × Int32)))) (s1.2.1, 0)).bind fun (y6 : Int64 × Int32) => (oz_in s1.2.2 14).bind fun j7 => some (.inl (s1.1 ||| (1 <<< ((M.1 54 j7) &&& 31)), y6.1, s1.2.2 + 1))) else (some (.inr (s1.1, s1.2.1, s1.2.2))) : Option ((Int32 × Int64 × Int32) ⊕ (Int32 × Int64 × Int32)))) (0, 0, 0)).bind fun (y9 : Int32 × Int64 × Int32) => some y9.2.1
set_option maxRecDepth 20000 in
set_option maxHeartbeats 4000000 in
theorem c_Line_rank {l : Launch} {D : va_G} {cs : Nat → ClassId} {b : Nat} {M : oz_M} {vz : Int64} (hF : f_Line_rank M = some vz) : oz_Met l D cs b y_Line_rank prog_5_method_7_code 6 (some .long) (oz_rm 2) [.ref (b + 53)] M (some (.long vz)) M := by
  refine oz_enter (by decide) (Nat.le_of_ble_eq_true rfl) (fun G cx hR e1 hRm e2 e3 e4 hnL => ?_)
  subst e1; subst e2; subst e3; subst e4
  refine (?_ : oz_R G 0 [(0, .ref (oz_b G + 53))] [] M (f_Line_rank  M) (fun x => x = vz)) _ hF rfl
  unfold f_Line_rank
  refine oz_iconst (q := 1) cx d_Line_rank_0 rfl (v := 0) rfl ?_
  refine oz_istore_n (q := 2) cx d_Line_rank_1 rfl rfl (by rw [hnL]; decide) (lv2 := [(1, .int 0), (0, .ref (oz_b G + 53))]) rfl ?_
  refine oz_lconst (q := 3) cx d_Line_rank_2 rfl (v := 0) rfl ?_
  refine oz_lstore_n (q := 4) cx d_Line_rank_3 rfl rfl (by rw [hnL]; decide) (lv2 := [(2, .long 0), (1, .int 0), (0, .ref (oz_b G + 53))]) rfl ?_
  refine oz_iconst (q := 5) cx d_Line_rank_4 rfl (v := 0) rfl ?_
  refine oz_istore (q := 7) cx d_Line_rank_5 rfl (by rw [hnL]; decide) (lv2 := [(4, .int 0), (2, .long 0), (1, .int 0), (0, .ref (oz_b G + 53))]) rfl ?_
  refine oz_lv [3, 2, 1, 0] rfl ?_
  refine oz_seq (p2 := 68) (lv2 := fun (y9 : Int32 × Int64 × Int32) => [(2, .long y9.2.1)]) (st2 := fun y9 => []) (M2 := fun y9 => M) ?_ (fun y9 => ?_)
  · refine oz_loop (Y := Int32 × Int64 × Int32) 7 (fun (s1 : Int32 × Int64 × Int32) => [(0, .ref (oz_b G + 53)), (1, .int s1.1), (2, .long s1.2.1), (4, .int s1.2.2)]) (fun (s1 : Int32 × Int64 × Int32) => M) (0, 0, 0) (fun s1 => ?_)
    refine oz_iload (q := 9) cx d_Line_rank_7 rfl 3 rfl ?_
    refine oz_aload_n (q := 10) cx d_Line_rank_9 rfl rfl 0 rfl ?_
    refine oz_get (q := 13) cx 53 3 (by decide) (ci := 6) rfl rfl tin_Line (by decide) rfl rfl tw_186 d_Line_rank_10 rfl ?_
    refine oz_get (q := 16) cx 6 0 (by decide) (ci := 3) rfl rfl tin_Order (by decide) rfl rfl tw_72 d_Line_rank_13 rfl ?_
    refine oz_icmp_ge (q := 19) cx d_Line_rank_16 rfl rfl (fun h8 => ?_) (fun h8 => ?_)
    · exact oz_lv [2] rfl (oz_leaf (fun h => h))
    · refine oz_iconst (q := 20) cx d_Line_rank_19 rfl (v := 0) rfl ?_
      refine oz_istore (q := 22) cx d_Line_rank_20 rfl (by rw [hnL]; decide) (lv2 := [(5, .int 0), (0, .ref (oz_b G + 53)), (1, .int s1.1), (2, .long s1.2.1), (4, .int s1.2.2)]) rfl ?_
      refine oz_lv [1, 2, 3, 4, 0] rfl ?_
      refine oz_seq (p2 := 50) (lv2 := fun (y6 : Int64 × Int32) => [(0, .ref (oz_b G + 53)), (1, .int s1.1), (2, .long y6.1), (4, .int s1.2.2)]) (st2 := fun y6 => []) (M2 := fun y6 => M) ?_ (fun y6 => ?_)
      · refine oz_loop (Y := Int64 × Int32) 22 (fun (s2 : Int64 × Int32) => [(0, .ref (oz_b G + 53)), (1, .int s1.1), (2, .long s2.1), (4, .int s1.2.2), (5, .int s2.2)]) (fun (s2 : Int64 × Int32) => M) (s1.2.1, 0) (fun s2 => ?_)
        refine oz_iload (q := 24) cx d_Line_rank_22 rfl 4 rfl ?_
        refine oz_aload_n (q := 25) cx d_Line_rank_24 rfl rfl 0 rfl ?_
        refine oz_get (q := 28) cx 53 2 (by decide) (ci := 6) rfl rfl tin_Line (by decide) rfl rfl tw_184 d_Line_rank_25 rfl ?_
        refine oz_iload (q := 30) cx d_Line_rank_28 rfl 3 rfl ?_
        refine oz_iald (q := 31) cx 54 14 (by decide) rfl d_Line_rank_30 rfl (fun j3 hj3 => ?_)
        refine oz_icmp_ge (q := 34) cx d_Line_rank_31 rfl rfl (fun h5 => ?_) (fun h5 => ?_)
        · exact oz_lv [0, 1, 2, 3] rfl (oz_leaf (fun h => h))
        · refine oz_lload_n (q := 35) cx d_Line_rank_34 rfl rfl 2 rfl ?_
          refine oz_aload_n (q := 36) cx d_Line_rank_35 rfl rfl 0 rfl ?_
          refine oz_iload_n (q := 37) cx d_Line_rank_36 rfl rfl 1 rfl ?_
          refine oz_iload (q := 39) cx d_Line_rank_37 rfl 4 rfl ?_
          refine oz_cVlp (q := 42) cx 53 [.int s1.1, .int s2.2] 2 6 hRm (by decide) (by decide) (fun _ h => c_Line_waysWith h) ⟨tw_350, tw_352, ts_9, tw_7⟩ tw_353 (by decide +kernel) rfl (by decide) rfl rfl (st := [.long s2.1]) rfl (Nat.le_of_ble_eq_true rfl) d_Line_rank_39 rfl (fun v4 hv4 => ?_)
          refine oz_ladd (q := 43) cx d_Line_rank_42 rfl ?_
          refine oz_lstore_n (q := 44) cx d_Line_rank_43 rfl rfl (by rw [hnL]; decide) (lv2 := [(2, .long (s2.1 + v4)), (0, .ref (oz_b G + 53)), (1, .int s1.1), (4, .int s1.2.2), (5, .int s2.2)]) rfl ?_
          refine oz_iinc (q := 47) cx (s2.2 + 1) d_Line_rank_44 rfl 4 rfl rfl (by rw [hnL]; decide) (lv2 := [(5, .int (s2.2 + 1)), (2, .long (s2.1 + v4)), (0, .ref (oz_b G + 53)), (1, .int s1.1), (4, .int s1.2.2)]) rfl ?_
          refine oz_goto cx d_Line_rank_47 rfl ?_
          exact oz_lv [2, 3, 1, 4, 0] rfl (oz_leaf (fun h => h))
      · refine oz_iload_n (q := 51) cx d_Line_rank_50 rfl rfl 1 rfl ?_
        refine oz_iconst (q := 52) cx d_Line_rank_51 rfl (v := 1) rfl ?_
        refine oz_aload_n (q := 53) cx d_Line_rank_52 rfl rfl 0 rfl ?_
        refine oz_get (q := 56) cx 53 2 (by decide) (ci := 6) rfl rfl tin_Line (by decide) rfl rfl tw_184 d_Line_rank_53 rfl ?_
        refine oz_iload (q := 58) cx d_Line_rank_56 rfl 3 rfl ?_
        refine oz_iald (q := 59) cx 54 14 (by decide) rfl d_Line_rank_58 rfl (fun j7 hj7 => ?_)
        refine oz_ishl (q := 60) cx d_Line_rank_59 rfl ?_
        refine oz_ior (q := 61) cx d_Line_rank_60 rfl ?_
        refine oz_istore_n (q := 62) cx d_Line_rank_61 rfl rfl (by rw [hnL]; decide) (lv2 := [(1, .int (s1.1 ||| (1 <<< ((M.1 54 j7) &&& 31)))), (0, .ref (oz_b G + 53)), (2, .long y6.1), (4, .int s1.2.2)]) rfl ?_
        refine oz_iinc (q := 65) cx (s1.2.2 + 1) d_Line_rank_62 rfl 3 rfl rfl (by rw [hnL]; decide) (lv2 := [(4, .int (s1.2.2 + 1)), (1, .int (s1.1 ||| (1 <<< ((M.1 54 j7) &&& 31)))), (0, .ref (oz_b G + 53)), (2, .long y6.1)]) rfl ?_
        refine oz_goto cx d_Line_rank_65 rfl ?_
        exact oz_lv [2, 1, 3, 0] rfl (oz_leaf (fun h => h))
  · refine oz_lload_n (q := 69) cx d_Line_rank_68 rfl rfl 0 rfl ?_
    exact oz_lretp cx hR d_Line_rank_69
def y_Line_write : MethodName := ⟨"OrderHall$Line", "write", "(J)V"⟩
theorem d_Line_write_0 : decode prog_5_method_5_code 0 = .ok (.iconst 0, 1) := by decide +kernel
theorem d_Line_write_1 : decode prog_5_method_5_code 1 = .ok (.istore_n 3, 1) := by decide +kernel
theorem d_Line_write_2 : decode prog_5_method_5_code 2 = .ok (.lload_n 1, 1) := by decide +kernel
theorem d_Line_write_3 : decode prog_5_method_5_code 3 = .ok (.lstore 4, 2) := by decide +kernel
theorem d_Line_write_5 : decode prog_5_method_5_code 5 = .ok (.iconst 0, 1) := by decide +kernel
theorem d_Line_write_6 : decode prog_5_method_5_code 6 = .ok (.istore 6, 2) := by decide +kernel
theorem d_Line_write_8 : decode prog_5_method_5_code 8 = .ok (.iload 6, 2) := by decide +kernel
theorem d_Line_write_10 : decode prog_5_method_5_code 10 = .ok (.aload_n 0, 1) := by decide +kernel
theorem d_Line_write_11 : decode prog_5_method_5_code 11 = .ok (.getfield 26, 3) := by decide +kernel
theorem d_Line_write_14 : decode prog_5_method_5_code 14 = .ok (.getfield 43, 3) := by decide +kernel
theorem d_Line_write_17 : decode prog_5_method_5_code 17 = .ok (.if_icmp .ge 73, 3) := by decide +kernel
theorem d_Line_write_20 : decode prog_5_method_5_code 20 = .ok (.iconst 0, 1) := by decide +kernel
theorem d_Line_write_21 : decode prog_5_method_5_code 21 = .ok (.istore 7, 2) := by decide +kernel
theorem d_Line_write_23 : decode prog_5_method_5_code 23 = .ok (.iload 7, 2) := by decide +kernel
theorem d_Line_write_25 : decode prog_5_method_5_code 25 = .ok (.aload_n 0, 1) := by decide +kernel
theorem d_Line_write_26 : decode prog_5_method_5_code 26 = .ok (.getfield 26, 3) := by decide +kernel
theorem d_Line_write_29 : decode prog_5_method_5_code 29 = .ok (.getfield 43, 3) := by decide +kernel
theorem d_Line_write_32 : decode prog_5_method_5_code 32 = .ok (.if_icmp .ge 52, 3) := by decide +kernel
theorem d_Line_write_35 : decode prog_5_method_5_code 35 = .ok (.aload_n 0, 1) := by decide +kernel
theorem d_Line_write_36 : decode prog_5_method_5_code 36 = .ok (.iload_n 3, 1) := by decide +kernel
theorem d_Line_write_37 : decode prog_5_method_5_code 37 = .ok (.iload 7, 2) := by decide +kernel
theorem d_Line_write_39 : decode prog_5_method_5_code 39 = .ok (.invokevirtual 54, 3) := by decide +kernel
theorem d_Line_write_42 : decode prog_5_method_5_code 42 = .ok (.lstore 8, 2) := by decide +kernel
theorem d_Line_write_44 : decode prog_5_method_5_code 44 = .ok (.lload 4, 2) := by decide +kernel
theorem d_Line_write_46 : decode prog_5_method_5_code 46 = .ok (.lload 8, 2) := by decide +kernel
theorem d_Line_write_48 : decode prog_5_method_5_code 48 = .ok (.lcmp, 1) := by decide +kernel
theorem d_Line_write_49 : decode prog_5_method_5_code 49 = .ok (.ifCond .ge 22, 3) := by decide +kernel
theorem d_Line_write_52 : decode prog_5_method_5_code 52 = .ok (.aload_n 0, 1) := by decide +kernel
theorem d_Line_write_53 : decode prog_5_method_5_code 53 = .ok (.getfield 18, 3) := by decide +kernel
theorem d_Line_write_56 : decode prog_5_method_5_code 56 = .ok (.iload 6, 2) := by decide +kernel
theorem d_Line_write_58 : decode prog_5_method_5_code 58 = .ok (.iload 7, 2) := by decide +kernel
theorem d_Line_write_60 : decode prog_5_method_5_code 60 = .ok (.iastore, 1) := by decide +kernel
theorem d_Line_write_61 : decode prog_5_method_5_code 61 = .ok (.iload_n 3, 1) := by decide +kernel
theorem d_Line_write_62 : decode prog_5_method_5_code 62 = .ok (.iconst 1, 1) := by decide +kernel
theorem d_Line_write_63 : decode prog_5_method_5_code 63 = .ok (.iload 7, 2) := by decide +kernel
theorem d_Line_write_65 : decode prog_5_method_5_code 65 = .ok (.ishl, 1) := by decide +kernel
theorem d_Line_write_66 : decode prog_5_method_5_code 66 = .ok (.ior, 1) := by decide +kernel
theorem d_Line_write_67 : decode prog_5_method_5_code 67 = .ok (.istore_n 3, 1) := by decide +kernel
theorem d_Line_write_68 : decode prog_5_method_5_code 68 = .ok (.goto 16, 3) := by decide +kernel
theorem d_Line_write_71 : decode prog_5_method_5_code 71 = .ok (.lload 4, 2) := by decide +kernel
theorem d_Line_write_73 : decode prog_5_method_5_code 73 = .ok (.lload 8, 2) := by decide +kernel
theorem d_Line_write_75 : decode prog_5_method_5_code 75 = .ok (.lsub, 1) := by decide +kernel
theorem d_Line_write_76 : decode prog_5_method_5_code 76 = .ok (.lstore 4, 2) := by decide +kernel
theorem d_Line_write_78 : decode prog_5_method_5_code 78 = .ok (.iinc 7 1, 3) := by decide +kernel
theorem d_Line_write_81 : decode prog_5_method_5_code 81 = .ok (.goto (-58), 3) := by decide +kernel
theorem d_Line_write_84 : decode prog_5_method_5_code 84 = .ok (.iinc 6 1, 3) := by decide +kernel
theorem d_Line_write_87 : decode prog_5_method_5_code 87 = .ok (.goto (-79), 3) := by decide +kernel
theorem d_Line_write_90 : decode prog_5_method_5_code 90 = .ok (.aload_n 0, 1) := by decide +kernel
theorem d_Line_write_91 : decode prog_5_method_5_code 91 = .ok (.iconst 1, 1) := by decide +kernel
theorem d_Line_write_92 : decode prog_5_method_5_code 92 = .ok (.putfield 15, 3) := by decide +kernel
theorem d_Line_write_95 : decode prog_5_method_5_code 95 = .ok (.return_, 1) := by decide +kernel
noncomputable def f_Line_write (a0 : Int64) (M : oz_M) : Option (Unit × oz_M) := (oz_lp (fun (s1 : Int32 × Int64 × Int32 × oz_M) => (if s1.2.2.1 < (s1.2.2.2.1 6 0) then ((oz_lp (fun (s2 : Int32 × Int64 × Int32 × oz_M) => (if s2.2.2.1 < (s2.2.2.2.1 6 0) then ((f_Line_waysWith s2.1 s2.2.2.1 s2.2.2.2).bind fun v3 => if (lg_cmp s2.2.1 v3) < 0 then ((oz_in s1.2.2.1 14).bind fun j4 => (some (oz_s s2.2.2.2 54 j4 s2.2.2.1)).bind fun M5 => some (.inr (s2.1 ||| (1 <<< (s2.2.2.1 &&& 31)), s2.2.1, s2.2.2.1, M5))) else (some (.inl (s2.1, s2.2.1 - v3, s2.2.2.1 + 1, s2.2.2.2)))) else (some (.inr (s2.1, s2.2.1, s2.2.2.1, s2.2.2.2))) : Option ((Int32 × Int64 × Int32 × oz_M) ⊕ (Int32 × Int64 × Int32 × oz_M)))) (s1.1, s1.2.1, 0, s1.2.2.2)).bind fun (y8 : Int32 × Int64 × Int32 × oz_M) => some (.inl (y8.1, y8.2.1, s1.2.2.1 + 1, y8.2.2.2))) else (some (.inr (s1.1, s1.2.1, s1.2.2.1, s1.2.2.2))) : Option ((Int32 × Int64 × Int32 × oz_M) ⊕ (Int32 × Int64 × Int32 × oz_M)))) (0, a0, 0, M)).bind fun (y10 : Int32 × Int64 × Int32 × oz_M) => (some (oz_s y10.2.2.2 53 1 1)).bind fun M11 => some ((), M11)
set_option maxRecDepth 20000 in
set_option maxHeartbeats 4000000 in
theorem c_Line_write {l : Launch} {D : va_G} {cs : Nat → ClassId} {b : Nat} {a0 : Int64} {M : oz_M} {vz : Unit} {Mz : oz_M} (hF : f_Line_write a0 M = some (vz, Mz)) : oz_Met l D cs b y_Line_write prog_5_method_5_code 10 none (oz_rm 2) [.ref (b + 53), .long a0] M (none) Mz := by
  refine oz_enter (by decide) (Nat.le_of_ble_eq_true rfl) (fun G cx hR e1 hRm e2 e3 e4 hnL => ?_)
  subst e1; subst e2; subst e3; subst e4
  refine (?_ : oz_R G 0 [(0, .ref (oz_b G + 53)), (1, .long a0)] [] M (f_Line_write a0 M) (fun x => x = (vz, Mz))) _ hF rfl
  unfold f_Line_write
  refine oz_iconst (q := 1) cx d_Line_write_0 rfl (v := 0) rfl ?_
  refine oz_istore_n (q := 2) cx d_Line_write_1 rfl rfl (by rw [hnL]; decide) (lv2 := [(3, .int 0), (0, .ref (oz_b G + 53)), (1, .long a0)]) rfl ?_
  refine oz_lload_n (q := 3) cx d_Line_write_2 rfl rfl 2 rfl ?_
  refine oz_lstore (q := 5) cx d_Line_write_3 rfl (by rw [hnL]; decide) (lv2 := [(4, .long a0), (3, .int 0), (0, .ref (oz_b G + 53)), (1, .long a0)]) rfl ?_
  refine oz_iconst (q := 6) cx d_Line_write_5 rfl (v := 0) rfl ?_
  refine oz_istore (q := 8) cx d_Line_write_6 rfl (by rw [hnL]; decide) (lv2 := [(6, .int 0), (4, .long a0), (3, .int 0), (0, .ref (oz_b G + 53)), (1, .long a0)]) rfl ?_
  refine oz_lv [3, 2, 1, 0] rfl ?_
  refine oz_seq (p2 := 90) (lv2 := fun (y10 : Int32 × Int64 × Int32 × oz_M) => [(0, .ref (oz_b G + 53))]) (st2 := fun y10 => []) (M2 := fun y10 => y10.2.2.2) ?_ (fun y10 => ?_)
  · refine oz_loop (Y := Int32 × Int64 × Int32 × oz_M) 8 (fun (s1 : Int32 × Int64 × Int32 × oz_M) => [(0, .ref (oz_b G + 53)), (3, .int s1.1), (4, .long s1.2.1), (6, .int s1.2.2.1)]) (fun (s1 : Int32 × Int64 × Int32 × oz_M) => s1.2.2.2) (0, a0, 0, M) (fun s1 => ?_)
    refine oz_iload (q := 10) cx d_Line_write_8 rfl 3 rfl ?_
    refine oz_aload_n (q := 11) cx d_Line_write_10 rfl rfl 0 rfl ?_
    refine oz_get (q := 14) cx 53 3 (by decide) (ci := 6) rfl rfl tin_Line (by decide) rfl rfl tw_186 d_Line_write_11 rfl ?_
    refine oz_get (q := 17) cx 6 0 (by decide) (ci := 3) rfl rfl tin_Order (by decide) rfl rfl tw_72 d_Line_write_14 rfl ?_
    refine oz_icmp_ge (q := 20) cx d_Line_write_17 rfl rfl (fun h9 => ?_) (fun h9 => ?_)
    · exact oz_lv [0] rfl (oz_leaf (fun h => h))
    · refine oz_iconst (q := 21) cx d_Line_write_20 rfl (v := 0) rfl ?_
      refine oz_istore (q := 23) cx d_Line_write_21 rfl (by rw [hnL]; decide) (lv2 := [(7, .int 0), (0, .ref (oz_b G + 53)), (3, .int s1.1), (4, .long s1.2.1), (6, .int s1.2.2.1)]) rfl ?_
      refine oz_lv [1, 2, 3, 4, 0] rfl ?_
      refine oz_seq (p2 := 84) (lv2 := fun (y8 : Int32 × Int64 × Int32 × oz_M) => [(0, .ref (oz_b G + 53)), (3, .int y8.1), (4, .long y8.2.1), (6, .int s1.2.2.1)]) (st2 := fun y8 => []) (M2 := fun y8 => y8.2.2.2) ?_ (fun y8 => ?_)
      · refine oz_loop (Y := Int32 × Int64 × Int32 × oz_M) 23 (fun (s2 : Int32 × Int64 × Int32 × oz_M) => [(0, .ref (oz_b G + 53)), (3, .int s2.1), (4, .long s2.2.1), (6, .int s1.2.2.1), (7, .int s2.2.2.1)]) (fun (s2 : Int32 × Int64 × Int32 × oz_M) => s2.2.2.2) (s1.1, s1.2.1, 0, s1.2.2.2) (fun s2 => ?_)
        refine oz_iload (q := 25) cx d_Line_write_23 rfl 4 rfl ?_
        refine oz_aload_n (q := 26) cx d_Line_write_25 rfl rfl 0 rfl ?_
        refine oz_get (q := 29) cx 53 3 (by decide) (ci := 6) rfl rfl tin_Line (by decide) rfl rfl tw_186 d_Line_write_26 rfl ?_
        refine oz_get (q := 32) cx 6 0 (by decide) (ci := 3) rfl rfl tin_Order (by decide) rfl rfl tw_72 d_Line_write_29 rfl ?_
        refine oz_icmp_ge (q := 35) cx d_Line_write_32 rfl rfl (fun h7 => ?_) (fun h7 => ?_)
        · exact oz_lv [0, 1, 2, 3] rfl (oz_leaf (fun h => h))
        · refine oz_aload_n (q := 36) cx d_Line_write_35 rfl rfl 0 rfl ?_
          refine oz_iload_n (q := 37) cx d_Line_write_36 rfl rfl 1 rfl ?_
          refine oz_iload (q := 39) cx d_Line_write_37 rfl 4 rfl ?_
          refine oz_cVlp (q := 42) cx 53 [.int s2.1, .int s2.2.2.1] 2 6 hRm (by decide) (by decide) (fun _ h => c_Line_waysWith h) ⟨tw_350, tw_352, ts_9, tw_7⟩ tw_353 (by decide +kernel) rfl (by decide) rfl rfl (st := []) rfl (Nat.le_of_ble_eq_true rfl) d_Line_write_39 rfl (fun v3 hv3 => ?_)
          refine oz_lstore (q := 44) cx d_Line_write_42 rfl (by rw [hnL]; decide) (lv2 := [(8, .long v3), (0, .ref (oz_b G + 53)), (3, .int s2.1), (4, .long s2.2.1), (6, .int s1.2.2.1), (7, .int s2.2.2.1)]) rfl ?_
          refine oz_lload (q := 46) cx d_Line_write_44 rfl 3 rfl ?_
          refine oz_lload (q := 48) cx d_Line_write_46 rfl 0 rfl ?_
          refine oz_lcmp (q := 49) cx d_Line_write_48 rfl ?_
          refine oz_if_ge (q := 52) cx d_Line_write_49 rfl rfl (fun h6 => ?_) (fun h6 => ?_)
          · refine oz_lload (q := 73) cx d_Line_write_71 rfl 3 rfl ?_
            refine oz_lload (q := 75) cx d_Line_write_73 rfl 0 rfl ?_
            refine oz_lsub (q := 76) cx d_Line_write_75 rfl ?_
            refine oz_lstore (q := 78) cx d_Line_write_76 rfl (by rw [hnL]; decide) (lv2 := [(4, .long (s2.2.1 - v3)), (8, .long v3), (0, .ref (oz_b G + 53)), (3, .int s2.1), (6, .int s1.2.2.1), (7, .int s2.2.2.1)]) rfl ?_
            refine oz_iinc (q := 81) cx (s2.2.2.1 + 1) d_Line_write_78 rfl 5 rfl rfl (by rw [hnL]; decide) (lv2 := [(7, .int (s2.2.2.1 + 1)), (4, .long (s2.2.1 - v3)), (8, .long v3), (0, .ref (oz_b G + 53)), (3, .int s2.1), (6, .int s1.2.2.1)]) rfl ?_
            refine oz_goto cx d_Line_write_81 rfl ?_
            exact oz_lv [3, 4, 1, 5, 0] rfl (oz_leaf (fun h => h))
          · refine oz_aload_n (q := 53) cx d_Line_write_52 rfl rfl 1 rfl ?_
            refine oz_get (q := 56) cx 53 2 (by decide) (ci := 6) rfl rfl tin_Line (by decide) rfl rfl tw_184 d_Line_write_53 rfl ?_
            refine oz_iload (q := 58) cx d_Line_write_56 rfl 4 rfl ?_
            refine oz_iload (q := 60) cx d_Line_write_58 rfl 5 rfl ?_
            refine oz_iast (q := 61) cx 54 14 (by decide) (fun _ => rfl) d_Line_write_60 rfl (fun j4 hj4 => ?_)
            refine oz_nm (fun M5 hM5 => ?_)
            refine oz_iload_n (q := 62) cx d_Line_write_61 rfl rfl 2 rfl ?_
            refine oz_iconst (q := 63) cx d_Line_write_62 rfl (v := 1) rfl ?_
            refine oz_iload (q := 65) cx d_Line_write_63 rfl 5 rfl ?_
            refine oz_ishl (q := 66) cx d_Line_write_65 rfl ?_
            refine oz_ior (q := 67) cx d_Line_write_66 rfl ?_
            refine oz_istore_n (q := 68) cx d_Line_write_67 rfl rfl (by rw [hnL]; decide) (lv2 := [(3, .int (s2.1 ||| (1 <<< (s2.2.2.1 &&& 31)))), (8, .long v3), (0, .ref (oz_b G + 53)), (4, .long s2.2.1), (6, .int s1.2.2.1), (7, .int s2.2.2.1)]) rfl ?_
            refine oz_goto cx d_Line_write_68 rfl ?_
            exact oz_lv [2, 0, 3, 4] rfl (oz_leaf (fun h => h))
      · refine oz_iinc (q := 87) cx (s1.2.2.1 + 1) d_Line_write_84 rfl 3 rfl rfl (by rw [hnL]; decide) (lv2 := [(6, .int (s1.2.2.1 + 1)), (0, .ref (oz_b G + 53)), (3, .int y8.1), (4, .long y8.2.1)]) rfl ?_
        refine oz_goto cx d_Line_write_87 rfl ?_
        exact oz_lv [1, 2, 3, 0] rfl (oz_leaf (fun h => h))
  · refine oz_aload_n (q := 91) cx d_Line_write_90 rfl rfl 0 rfl ?_
    refine oz_iconst (q := 92) cx d_Line_write_91 rfl (v := 1) rfl ?_
    refine oz_put (q := 95) cx 53 1 (by decide) (ci := 6) rfl rfl rfl tin_Line t_Line t_Line_ok n_Line (by decide) (Nat.le_of_ble_eq_true rfl) rfl tw_182 rfl rfl rfl d_Line_write_92 rfl ?_
    refine oz_nm (fun M11 hM11 => ?_)
    exact oz_vret cx hR d_Line_write_95
def y_Order_chainsOf : MethodName := ⟨"OrderHall$Order", "chainsOf", "(I)I"⟩
theorem d_Order_chainsOf_0 : decode prog_6_method_14_code 0 = .ok (.iload_n 1, 1) := by decide +kernel
theorem d_Order_chainsOf_1 : decode prog_6_method_14_code 1 = .ok (.ifCond .ne 5, 3) := by decide +kernel
theorem d_Order_chainsOf_4 : decode prog_6_method_14_code 4 = .ok (.iconst 1, 1) := by decide +kernel
theorem d_Order_chainsOf_5 : decode prog_6_method_14_code 5 = .ok (.ireturn, 1) := by decide +kernel
theorem d_Order_chainsOf_6 : decode prog_6_method_14_code 6 = .ok (.iconst 0, 1) := by decide +kernel
theorem d_Order_chainsOf_7 : decode prog_6_method_14_code 7 = .ok (.istore_n 2, 1) := by decide +kernel
theorem d_Order_chainsOf_8 : decode prog_6_method_14_code 8 = .ok (.iload_n 2, 1) := by decide +kernel
theorem d_Order_chainsOf_9 : decode prog_6_method_14_code 9 = .ok (.aload_n 0, 1) := by decide +kernel
theorem d_Order_chainsOf_10 : decode prog_6_method_14_code 10 = .ok (.getfield 9, 3) := by decide +kernel
theorem d_Order_chainsOf_13 : decode prog_6_method_14_code 13 = .ok (.if_icmp .ge 16, 3) := by decide +kernel
theorem d_Order_chainsOf_16 : decode prog_6_method_14_code 16 = .ok (.aload_n 0, 1) := by decide +kernel
theorem d_Order_chainsOf_17 : decode prog_6_method_14_code 17 = .ok (.getfield 34, 3) := by decide +kernel
theorem d_Order_chainsOf_20 : decode prog_6_method_14_code 20 = .ok (.iload_n 2, 1) := by decide +kernel
theorem d_Order_chainsOf_21 : decode prog_6_method_14_code 21 = .ok (.iconst 1, 1) := by decide +kernel
theorem d_Order_chainsOf_22 : decode prog_6_method_14_code 22 = .ok (.iastore, 1) := by decide +kernel
theorem d_Order_chainsOf_23 : decode prog_6_method_14_code 23 = .ok (.iinc 2 1, 3) := by decide +kernel
theorem d_Order_chainsOf_26 : decode prog_6_method_14_code 26 = .ok (.goto (-18), 3) := by decide +kernel
theorem d_Order_chainsOf_29 : decode prog_6_method_14_code 29 = .ok (.iconst 2, 1) := by decide +kernel
theorem d_Order_chainsOf_30 : decode prog_6_method_14_code 30 = .ok (.istore_n 2, 1) := by decide +kernel
theorem d_Order_chainsOf_31 : decode prog_6_method_14_code 31 = .ok (.iload_n 2, 1) := by decide +kernel
theorem d_Order_chainsOf_32 : decode prog_6_method_14_code 32 = .ok (.iload_n 1, 1) := by decide +kernel
theorem d_Order_chainsOf_33 : decode prog_6_method_14_code 33 = .ok (.if_icmp .gt 56, 3) := by decide +kernel
theorem d_Order_chainsOf_36 : decode prog_6_method_14_code 36 = .ok (.aload_n 0, 1) := by decide +kernel
theorem d_Order_chainsOf_37 : decode prog_6_method_14_code 37 = .ok (.getfield 9, 3) := by decide +kernel
theorem d_Order_chainsOf_40 : decode prog_6_method_14_code 40 = .ok (.iconst 1, 1) := by decide +kernel
theorem d_Order_chainsOf_41 : decode prog_6_method_14_code 41 = .ok (.isub, 1) := by decide +kernel
theorem d_Order_chainsOf_42 : decode prog_6_method_14_code 42 = .ok (.istore_n 3, 1) := by decide +kernel
theorem d_Order_chainsOf_43 : decode prog_6_method_14_code 43 = .ok (.iload_n 3, 1) := by decide +kernel
theorem d_Order_chainsOf_44 : decode prog_6_method_14_code 44 = .ok (.ifCond .lt 39, 3) := by decide +kernel
theorem d_Order_chainsOf_47 : decode prog_6_method_14_code 47 = .ok (.aload_n 0, 1) := by decide +kernel
theorem d_Order_chainsOf_48 : decode prog_6_method_14_code 48 = .ok (.getfield 34, 3) := by decide +kernel
theorem d_Order_chainsOf_51 : decode prog_6_method_14_code 51 = .ok (.aload_n 0, 1) := by decide +kernel
theorem d_Order_chainsOf_52 : decode prog_6_method_14_code 52 = .ok (.getfield 31, 3) := by decide +kernel
theorem d_Order_chainsOf_55 : decode prog_6_method_14_code 55 = .ok (.iload_n 3, 1) := by decide +kernel
theorem d_Order_chainsOf_56 : decode prog_6_method_14_code 56 = .ok (.iaload, 1) := by decide +kernel
theorem d_Order_chainsOf_57 : decode prog_6_method_14_code 57 = .ok (.aload_n 0, 1) := by decide +kernel
theorem d_Order_chainsOf_58 : decode prog_6_method_14_code 58 = .ok (.aload_n 0, 1) := by decide +kernel
theorem d_Order_chainsOf_59 : decode prog_6_method_14_code 59 = .ok (.getfield 34, 3) := by decide +kernel
theorem d_Order_chainsOf_62 : decode prog_6_method_14_code 62 = .ok (.aload_n 0, 1) := by decide +kernel
theorem d_Order_chainsOf_63 : decode prog_6_method_14_code 63 = .ok (.getfield 15, 3) := by decide +kernel
theorem d_Order_chainsOf_66 : decode prog_6_method_14_code 66 = .ok (.aload_n 0, 1) := by decide +kernel
theorem d_Order_chainsOf_67 : decode prog_6_method_14_code 67 = .ok (.getfield 31, 3) := by decide +kernel
theorem d_Order_chainsOf_70 : decode prog_6_method_14_code 70 = .ok (.iload_n 3, 1) := by decide +kernel
theorem d_Order_chainsOf_71 : decode prog_6_method_14_code 71 = .ok (.iaload, 1) := by decide +kernel
theorem d_Order_chainsOf_72 : decode prog_6_method_14_code 72 = .ok (.iaload, 1) := by decide +kernel
theorem d_Order_chainsOf_73 : decode prog_6_method_14_code 73 = .ok (.invokevirtual 84, 3) := by decide +kernel
theorem d_Order_chainsOf_76 : decode prog_6_method_14_code 76 = .ok (.iastore, 1) := by decide +kernel
theorem d_Order_chainsOf_77 : decode prog_6_method_14_code 77 = .ok (.iinc 3 (-1), 3) := by decide +kernel
theorem d_Order_chainsOf_80 : decode prog_6_method_14_code 80 = .ok (.goto (-37), 3) := by decide +kernel
theorem d_Order_chainsOf_83 : decode prog_6_method_14_code 83 = .ok (.iinc 2 1, 3) := by decide +kernel
theorem d_Order_chainsOf_86 : decode prog_6_method_14_code 86 = .ok (.goto (-55), 3) := by decide +kernel
theorem d_Order_chainsOf_89 : decode prog_6_method_14_code 89 = .ok (.aload_n 0, 1) := by decide +kernel
theorem d_Order_chainsOf_90 : decode prog_6_method_14_code 90 = .ok (.aload_n 0, 1) := by decide +kernel
theorem d_Order_chainsOf_91 : decode prog_6_method_14_code 91 = .ok (.getfield 34, 3) := by decide +kernel
theorem d_Order_chainsOf_94 : decode prog_6_method_14_code 94 = .ok (.aload_n 0, 1) := by decide +kernel
theorem d_Order_chainsOf_95 : decode prog_6_method_14_code 95 = .ok (.invokevirtual 48, 3) := by decide +kernel
theorem d_Order_chainsOf_98 : decode prog_6_method_14_code 98 = .ok (.invokevirtual 84, 3) := by decide +kernel
theorem d_Order_chainsOf_101 : decode prog_6_method_14_code 101 = .ok (.ireturn, 1) := by decide +kernel
noncomputable def f_Order_chainsOf (a0 : Int32) (M : oz_M) : Option (Int32 × oz_M) := if a0 = 0 then (some (1, M)) else ((oz_lp (fun (s1 : Int32 × oz_M) => (if s1.1 < (s1.2.1 6 0) then ((oz_in s1.1 14).bind fun j2 => (some (oz_s s1.2 13 j2 1)).bind fun M3 => some (.inl (s1.1 + 1, M3))) else (some (.inr (s1.1, s1.2))) : Option ((Int32 × oz_M) ⊕ (Int32 × oz_M)))) (0, M)).bind fun (y5 : Int32 × oz_M) => (oz_lp (fun (s6 : Int32 × oz_M) => (if a0 < s6.1 then (some (.inr (s6.1, s6.2))) else ((oz_lp (fun (s7 : Int32 × oz_M) => (if s7.1 < 0 then (some (.inr (s7.1, s7.2))) else ((oz_in s7.1 14).bind fun j8 => (oz_in s7.1 14).bind fun j9 => (oz_in (s7.2.1 12 j9) 14).bind fun j10 => (f_Order_sum 13 (s7.2.1 7 j10) s7.2).bind fun v11 => (oz_in (s7.2.1 12 j8) 14).bind fun j12 => (some (oz_s s7.2 13 j12 v11)).bind fun M13 => some (.inl (s7.1 + (-1), M13))) : Option ((Int32 × oz_M) ⊕ (Int32 × oz_M)))) ((s6.2.1 6 0) - 1, s6.2)).bind fun (y15 : Int32 × oz_M) => some (.inl (s6.1 + 1, y15.2))) : Option ((Int32 × oz_M) ⊕ (Int32 × oz_M)))) (2, y5.2)).bind fun (y17 : Int32 × oz_M) => (f_Order_everything y17.2).bind fun v18 => (f_Order_sum 13 v18 y17.2).bind fun v19 => some (v19, y17.2))
set_option maxRecDepth 20000 in
set_option maxHeartbeats 4000000 in
theorem c_Order_chainsOf {l : Launch} {D : va_G} {cs : Nat → ClassId} {b : Nat} {a0 : Int32} {M : oz_M} {vz : Int32} {Mz : oz_M} (hF : f_Order_chainsOf a0 M = some (vz, Mz)) : oz_Met l D cs b y_Order_chainsOf prog_6_method_14_code 4 (some .int) (oz_rm 2) [.ref (b + 6), .int a0] M (some (.int vz)) Mz := by
  refine oz_enter (by decide) (Nat.le_of_ble_eq_true rfl) (fun G cx hR e1 hRm e2 e3 e4 hnL => ?_)
  subst e1; subst e2; subst e3; subst e4
  refine (?_ : oz_R G 0 [(0, .ref (oz_b G + 6)), (1, .int a0)] [] M (f_Order_chainsOf a0 M) (fun x => x = (vz, Mz))) _ hF rfl
  unfold f_Order_chainsOf
  refine oz_iload_n (q := 1) cx d_Order_chainsOf_0 rfl rfl 1 rfl ?_
  refine oz_if_ne (q := 4) cx d_Order_chainsOf_1 rfl rfl (fun h20 => ?_) (fun h20 => ?_)
  · refine oz_iconst (q := 7) cx d_Order_chainsOf_6 rfl (v := 0) rfl ?_
    refine oz_istore_n (q := 8) cx d_Order_chainsOf_7 rfl rfl (by rw [hnL]; decide) (lv2 := [(2, .int 0), (0, .ref (oz_b G + 6)), (1, .int a0)]) rfl ?_
    refine oz_lv [1, 2, 0] rfl ?_
    refine oz_seq (p2 := 29) (lv2 := fun (y5 : Int32 × oz_M) => [(0, .ref (oz_b G + 6)), (1, .int a0)]) (st2 := fun y5 => []) (M2 := fun y5 => y5.2) ?_ (fun y5 => ?_)
    · refine oz_loop (Y := Int32 × oz_M) 8 (fun (s1 : Int32 × oz_M) => [(0, .ref (oz_b G + 6)), (1, .int a0), (2, .int s1.1)]) (fun (s1 : Int32 × oz_M) => s1.2) (0, M) (fun s1 => ?_)
      refine oz_iload_n (q := 9) cx d_Order_chainsOf_8 rfl rfl 2 rfl ?_
      refine oz_aload_n (q := 10) cx d_Order_chainsOf_9 rfl rfl 0 rfl ?_
      refine oz_get (q := 13) cx 6 0 (by decide) (ci := 3) rfl rfl tin_Order (by decide) rfl rfl tw_69 d_Order_chainsOf_10 rfl ?_
      refine oz_icmp_ge (q := 16) cx d_Order_chainsOf_13 rfl rfl (fun h4 => ?_) (fun h4 => ?_)
      · exact oz_lv [0, 1] rfl (oz_leaf (fun h => h))
      · refine oz_aload_n (q := 17) cx d_Order_chainsOf_16 rfl rfl 0 rfl ?_
        refine oz_get (q := 20) cx 6 7 (by decide) (ci := 3) rfl rfl tin_Order (by decide) rfl rfl tw_97 d_Order_chainsOf_17 rfl ?_
        refine oz_iload_n (q := 21) cx d_Order_chainsOf_20 rfl rfl 2 rfl ?_
        refine oz_iconst (q := 22) cx d_Order_chainsOf_21 rfl (v := 1) rfl ?_
        refine oz_iast (q := 23) cx 13 14 (by decide) (fun _ => rfl) d_Order_chainsOf_22 rfl (fun j2 hj2 => ?_)
        refine oz_nm (fun M3 hM3 => ?_)
        refine oz_iinc (q := 26) cx (s1.1 + 1) d_Order_chainsOf_23 rfl 2 rfl rfl (by rw [hnL]; decide) (lv2 := [(2, .int (s1.1 + 1)), (0, .ref (oz_b G + 6)), (1, .int a0)]) rfl ?_
        refine oz_goto cx d_Order_chainsOf_26 rfl ?_
        exact oz_lv [1, 2, 0] rfl (oz_leaf (fun h => h))
    · refine oz_iconst (q := 30) cx d_Order_chainsOf_29 rfl (v := 2) rfl ?_
      refine oz_istore_n (q := 31) cx d_Order_chainsOf_30 rfl rfl (by rw [hnL]; decide) (lv2 := [(2, .int 2), (0, .ref (oz_b G + 6)), (1, .int a0)]) rfl ?_
      refine oz_lv [1, 2, 0] rfl ?_
      refine oz_seq (p2 := 89) (lv2 := fun (y17 : Int32 × oz_M) => [(0, .ref (oz_b G + 6))]) (st2 := fun y17 => []) (M2 := fun y17 => y17.2) ?_ (fun y17 => ?_)
      · refine oz_loop (Y := Int32 × oz_M) 31 (fun (s6 : Int32 × oz_M) => [(0, .ref (oz_b G + 6)), (1, .int a0), (2, .int s6.1)]) (fun (s6 : Int32 × oz_M) => s6.2) (2, y5.2) (fun s6 => ?_)
        refine oz_iload_n (q := 32) cx d_Order_chainsOf_31 rfl rfl 2 rfl ?_
        refine oz_iload_n (q := 33) cx d_Order_chainsOf_32 rfl rfl 1 rfl ?_
        refine oz_icmp_gt (q := 36) cx d_Order_chainsOf_33 rfl rfl (fun h16 => ?_) (fun h16 => ?_)
        · exact oz_lv [0] rfl (oz_leaf (fun h => h))
        · refine oz_aload_n (q := 37) cx d_Order_chainsOf_36 rfl rfl 0 rfl ?_
          refine oz_get (q := 40) cx 6 0 (by decide) (ci := 3) rfl rfl tin_Order (by decide) rfl rfl tw_69 d_Order_chainsOf_37 rfl ?_
          refine oz_iconst (q := 41) cx d_Order_chainsOf_40 rfl (v := 1) rfl ?_
          refine oz_isub (q := 42) cx d_Order_chainsOf_41 rfl ?_
          refine oz_istore_n (q := 43) cx d_Order_chainsOf_42 rfl rfl (by rw [hnL]; decide) (lv2 := [(3, .int ((s6.2.1 6 0) - 1)), (0, .ref (oz_b G + 6)), (1, .int a0), (2, .int s6.1)]) rfl ?_
          refine oz_lv [1, 2, 3, 0] rfl ?_
          refine oz_seq (p2 := 83) (lv2 := fun (y15 : Int32 × oz_M) => [(0, .ref (oz_b G + 6)), (1, .int a0), (2, .int s6.1)]) (st2 := fun y15 => []) (M2 := fun y15 => y15.2) ?_ (fun y15 => ?_)
          · refine oz_loop (Y := Int32 × oz_M) 43 (fun (s7 : Int32 × oz_M) => [(0, .ref (oz_b G + 6)), (1, .int a0), (2, .int s6.1), (3, .int s7.1)]) (fun (s7 : Int32 × oz_M) => s7.2) ((s6.2.1 6 0) - 1, s6.2) (fun s7 => ?_)
            refine oz_iload_n (q := 44) cx d_Order_chainsOf_43 rfl rfl 3 rfl ?_
            refine oz_if_lt (q := 47) cx d_Order_chainsOf_44 rfl rfl (fun h14 => ?_) (fun h14 => ?_)
            · exact oz_lv [0, 1, 2] rfl (oz_leaf (fun h => h))
            · refine oz_aload_n (q := 48) cx d_Order_chainsOf_47 rfl rfl 0 rfl ?_
              refine oz_get (q := 51) cx 6 7 (by decide) (ci := 3) rfl rfl tin_Order (by decide) rfl rfl tw_97 d_Order_chainsOf_48 rfl ?_
              refine oz_aload_n (q := 52) cx d_Order_chainsOf_51 rfl rfl 0 rfl ?_
              refine oz_get (q := 55) cx 6 6 (by decide) (ci := 3) rfl rfl tin_Order (by decide) rfl rfl tw_96 d_Order_chainsOf_52 rfl ?_
              refine oz_iload_n (q := 56) cx d_Order_chainsOf_55 rfl rfl 3 rfl ?_
              refine oz_iald (q := 57) cx 12 14 (by decide) rfl d_Order_chainsOf_56 rfl (fun j8 hj8 => ?_)
              refine oz_aload_n (q := 58) cx d_Order_chainsOf_57 rfl rfl 0 rfl ?_
              refine oz_aload_n (q := 59) cx d_Order_chainsOf_58 rfl rfl 0 rfl ?_
              refine oz_get (q := 62) cx 6 7 (by decide) (ci := 3) rfl rfl tin_Order (by decide) rfl rfl tw_97 d_Order_chainsOf_59 rfl ?_
              refine oz_aload_n (q := 63) cx d_Order_chainsOf_62 rfl rfl 0 rfl ?_
              refine oz_get (q := 66) cx 6 1 (by decide) (ci := 3) rfl rfl tin_Order (by decide) rfl rfl tw_76 d_Order_chainsOf_63 rfl ?_
              refine oz_aload_n (q := 67) cx d_Order_chainsOf_66 rfl rfl 0 rfl ?_
              refine oz_get (q := 70) cx 6 6 (by decide) (ci := 3) rfl rfl tin_Order (by decide) rfl rfl tw_96 d_Order_chainsOf_67 rfl ?_
              refine oz_iload_n (q := 71) cx d_Order_chainsOf_70 rfl rfl 3 rfl ?_
              refine oz_iald (q := 72) cx 12 14 (by decide) rfl d_Order_chainsOf_71 rfl (fun j9 hj9 => ?_)
              refine oz_iald (q := 73) cx 7 14 (by decide) rfl d_Order_chainsOf_72 rfl (fun j10 hj10 => ?_)
              refine oz_cVip (q := 76) cx 6 [.ref (oz_b G + 13), .int (s7.2.1 7 j10)] 2 3 hRm (by decide) (by decide) (fun _ h => c_Order_sum ⟨by decide, fun _ _ _ _ => rfl⟩ h) ⟨tw_607, tw_609, ts_17, tw_4⟩ tw_610 (by decide +kernel) rfl (by decide) rfl rfl (st := [.int (s7.2.1 12 j8), .ref (oz_b G + 13)]) rfl (Nat.le_of_ble_eq_true rfl) d_Order_chainsOf_73 rfl (fun v11 hv11 => ?_)
              refine oz_iast (q := 77) cx 13 14 (by decide) (fun _ => rfl) d_Order_chainsOf_76 rfl (fun j12 hj12 => ?_)
              refine oz_nm (fun M13 hM13 => ?_)
              refine oz_iinc (q := 80) cx (s7.1 + (-1)) d_Order_chainsOf_77 rfl 3 rfl rfl (by rw [hnL]; decide) (lv2 := [(3, .int (s7.1 + (-1))), (0, .ref (oz_b G + 6)), (1, .int a0), (2, .int s6.1)]) rfl ?_
              refine oz_goto cx d_Order_chainsOf_80 rfl ?_
              exact oz_lv [1, 2, 3, 0] rfl (oz_leaf (fun h => h))
          · refine oz_iinc (q := 86) cx (s6.1 + 1) d_Order_chainsOf_83 rfl 2 rfl rfl (by rw [hnL]; decide) (lv2 := [(2, .int (s6.1 + 1)), (0, .ref (oz_b G + 6)), (1, .int a0)]) rfl ?_
            refine oz_goto cx d_Order_chainsOf_86 rfl ?_
            exact oz_lv [1, 2, 0] rfl (oz_leaf (fun h => h))
      · refine oz_aload_n (q := 90) cx d_Order_chainsOf_89 rfl rfl 0 rfl ?_
        refine oz_aload_n (q := 91) cx d_Order_chainsOf_90 rfl rfl 0 rfl ?_
        refine oz_get (q := 94) cx 6 7 (by decide) (ci := 3) rfl rfl tin_Order (by decide) rfl rfl tw_97 d_Order_chainsOf_91 rfl ?_
        refine oz_aload_n (q := 95) cx d_Order_chainsOf_94 rfl rfl 0 rfl ?_
        refine oz_cVip (q := 98) cx 6 [] 0 3 hRm (by decide) (by decide) (fun _ h => c_Order_everything h) ⟨tw_300, tw_301, tw_302, tw_4⟩ tw_303 (by decide +kernel) rfl (by decide) rfl rfl (st := [.ref (oz_b G + 13), .ref (oz_b G + 6)]) rfl (Nat.le_of_ble_eq_true rfl) d_Order_chainsOf_95 rfl (fun v18 hv18 => ?_)
        refine oz_cVip (q := 101) cx 6 [.ref (oz_b G + 13), .int v18] 2 3 hRm (by decide) (by decide) (fun _ h => c_Order_sum ⟨by decide, fun _ _ _ _ => rfl⟩ h) ⟨tw_607, tw_609, ts_17, tw_4⟩ tw_610 (by decide +kernel) rfl (by decide) rfl rfl (st := []) rfl (Nat.le_of_ble_eq_true rfl) d_Order_chainsOf_98 rfl (fun v19 hv19 => ?_)
        exact oz_iret cx hR d_Order_chainsOf_101
  · refine oz_iconst (q := 5) cx d_Order_chainsOf_4 rfl (v := 1) rfl ?_
    exact oz_iret cx hR d_Order_chainsOf_5
def y_Order_coverPairs : MethodName := ⟨"OrderHall$Order", "coverPairs", "()I"⟩
theorem d_Order_coverPairs_0 : decode prog_6_method_13_code 0 = .ok (.iconst 0, 1) := by decide +kernel
theorem d_Order_coverPairs_1 : decode prog_6_method_13_code 1 = .ok (.istore_n 1, 1) := by decide +kernel
theorem d_Order_coverPairs_2 : decode prog_6_method_13_code 2 = .ok (.iconst 0, 1) := by decide +kernel
theorem d_Order_coverPairs_3 : decode prog_6_method_13_code 3 = .ok (.istore_n 2, 1) := by decide +kernel
theorem d_Order_coverPairs_4 : decode prog_6_method_13_code 4 = .ok (.iload_n 2, 1) := by decide +kernel
theorem d_Order_coverPairs_5 : decode prog_6_method_13_code 5 = .ok (.aload_n 0, 1) := by decide +kernel
theorem d_Order_coverPairs_6 : decode prog_6_method_13_code 6 = .ok (.getfield 9, 3) := by decide +kernel
theorem d_Order_coverPairs_9 : decode prog_6_method_13_code 9 = .ok (.if_icmp .ge 29, 3) := by decide +kernel
theorem d_Order_coverPairs_12 : decode prog_6_method_13_code 12 = .ok (.iload_n 1, 1) := by decide +kernel
theorem d_Order_coverPairs_13 : decode prog_6_method_13_code 13 = .ok (.aload_n 0, 1) := by decide +kernel
theorem d_Order_coverPairs_14 : decode prog_6_method_13_code 14 = .ok (.aload_n 0, 1) := by decide +kernel
theorem d_Order_coverPairs_15 : decode prog_6_method_13_code 15 = .ok (.getfield 15, 3) := by decide +kernel
theorem d_Order_coverPairs_18 : decode prog_6_method_13_code 18 = .ok (.iload_n 2, 1) := by decide +kernel
theorem d_Order_coverPairs_19 : decode prog_6_method_13_code 19 = .ok (.iaload, 1) := by decide +kernel
theorem d_Order_coverPairs_20 : decode prog_6_method_13_code 20 = .ok (.aload_n 0, 1) := by decide +kernel
theorem d_Order_coverPairs_21 : decode prog_6_method_13_code 21 = .ok (.getfield 19, 3) := by decide +kernel
theorem d_Order_coverPairs_24 : decode prog_6_method_13_code 24 = .ok (.invokevirtual 80, 3) := by decide +kernel
theorem d_Order_coverPairs_27 : decode prog_6_method_13_code 27 = .ok (.invokestatic 65, 3) := by decide +kernel
theorem d_Order_coverPairs_30 : decode prog_6_method_13_code 30 = .ok (.iadd, 1) := by decide +kernel
theorem d_Order_coverPairs_31 : decode prog_6_method_13_code 31 = .ok (.istore_n 1, 1) := by decide +kernel
theorem d_Order_coverPairs_32 : decode prog_6_method_13_code 32 = .ok (.iinc 2 1, 3) := by decide +kernel
theorem d_Order_coverPairs_35 : decode prog_6_method_13_code 35 = .ok (.goto (-31), 3) := by decide +kernel
theorem d_Order_coverPairs_38 : decode prog_6_method_13_code 38 = .ok (.iload_n 1, 1) := by decide +kernel
theorem d_Order_coverPairs_39 : decode prog_6_method_13_code 39 = .ok (.ireturn, 1) := by decide +kernel
noncomputable def f_Order_coverPairs (M : oz_M) : Option (Int32) := (oz_lp (fun (s1 : Int32 × Int32) => (if s1.2 < (M.1 6 0) then ((oz_in s1.2 14).bind fun j2 => (f_Order_ends (M.1 7 j2) 8 M).bind fun v3 => (f_Integer_bitCount v3 M).bind fun v4 => some (.inl (s1.1 + v4, s1.2 + 1))) else (some (.inr (s1.1, s1.2))) : Option ((Int32 × Int32) ⊕ (Int32 × Int32)))) (0, 0)).bind fun (y6 : Int32 × Int32) => some y6.1
set_option maxRecDepth 20000 in
set_option maxHeartbeats 4000000 in
theorem c_Order_coverPairs {l : Launch} {D : va_G} {cs : Nat → ClassId} {b : Nat} {M : oz_M} {vz : Int32} (hF : f_Order_coverPairs M = some vz) : oz_Met l D cs b y_Order_coverPairs prog_6_method_13_code 3 (some .int) (oz_rm 2) [.ref (b + 6)] M (some (.int vz)) M := by
  refine oz_enter (by decide) (Nat.le_of_ble_eq_true rfl) (fun G cx hR e1 hRm e2 e3 e4 hnL => ?_)
  subst e1; subst e2; subst e3; subst e4
  refine (?_ : oz_R G 0 [(0, .ref (oz_b G + 6))] [] M (f_Order_coverPairs  M) (fun x => x = vz)) _ hF rfl
  unfold f_Order_coverPairs
  refine oz_iconst (q := 1) cx d_Order_coverPairs_0 rfl (v := 0) rfl ?_
  refine oz_istore_n (q := 2) cx d_Order_coverPairs_1 rfl rfl (by rw [hnL]; decide) (lv2 := [(1, .int 0), (0, .ref (oz_b G + 6))]) rfl ?_
  refine oz_iconst (q := 3) cx d_Order_coverPairs_2 rfl (v := 0) rfl ?_
  refine oz_istore_n (q := 4) cx d_Order_coverPairs_3 rfl rfl (by rw [hnL]; decide) (lv2 := [(2, .int 0), (1, .int 0), (0, .ref (oz_b G + 6))]) rfl ?_
  refine oz_lv [2, 1, 0] rfl ?_
  refine oz_seq (p2 := 38) (lv2 := fun (y6 : Int32 × Int32) => [(1, .int y6.1)]) (st2 := fun y6 => []) (M2 := fun y6 => M) ?_ (fun y6 => ?_)
  · refine oz_loop (Y := Int32 × Int32) 4 (fun (s1 : Int32 × Int32) => [(0, .ref (oz_b G + 6)), (1, .int s1.1), (2, .int s1.2)]) (fun (s1 : Int32 × Int32) => M) (0, 0) (fun s1 => ?_)
    refine oz_iload_n (q := 5) cx d_Order_coverPairs_4 rfl rfl 2 rfl ?_
    refine oz_aload_n (q := 6) cx d_Order_coverPairs_5 rfl rfl 0 rfl ?_
    refine oz_get (q := 9) cx 6 0 (by decide) (ci := 3) rfl rfl tin_Order (by decide) rfl rfl tw_69 d_Order_coverPairs_6 rfl ?_
    refine oz_icmp_ge (q := 12) cx d_Order_coverPairs_9 rfl rfl (fun h5 => ?_) (fun h5 => ?_)
    · exact oz_lv [1] rfl (oz_leaf (fun h => h))
    · refine oz_iload_n (q := 13) cx d_Order_coverPairs_12 rfl rfl 1 rfl ?_
      refine oz_aload_n (q := 14) cx d_Order_coverPairs_13 rfl rfl 0 rfl ?_
      refine oz_aload_n (q := 15) cx d_Order_coverPairs_14 rfl rfl 0 rfl ?_
      refine oz_get (q := 18) cx 6 1 (by decide) (ci := 3) rfl rfl tin_Order (by decide) rfl rfl tw_76 d_Order_coverPairs_15 rfl ?_
      refine oz_iload_n (q := 19) cx d_Order_coverPairs_18 rfl rfl 2 rfl ?_
      refine oz_iald (q := 20) cx 7 14 (by decide) rfl d_Order_coverPairs_19 rfl (fun j2 hj2 => ?_)
      refine oz_aload_n (q := 21) cx d_Order_coverPairs_20 rfl rfl 0 rfl ?_
      refine oz_get (q := 24) cx 6 2 (by decide) (ci := 3) rfl rfl tin_Order (by decide) rfl rfl tw_82 d_Order_coverPairs_21 rfl ?_
      refine oz_cVip (q := 27) cx 6 [.int (M.1 7 j2), .ref (oz_b G + 8)] 2 3 hRm (by decide) (by decide) (fun _ h => c_Order_ends ⟨by decide, fun _ _ _ _ => rfl⟩ h) ⟨tw_574, tw_518, tw_519, tw_4⟩ tw_520 (by decide +kernel) rfl (by decide) rfl rfl (st := [.int s1.1]) rfl (Nat.le_of_ble_eq_true rfl) d_Order_coverPairs_24 rfl (fun v3 hv3 => ?_)
      refine oz_cSip (q := 30) cx [.int v3] 1 hRm (by decide) (by decide) (fun _ h => c_Integer_bitCount h) ⟨tw_308, tw_309, tw_15⟩ tw_310 (by decide +kernel) rfl (st := [.int s1.1]) rfl (Nat.le_of_ble_eq_true rfl) d_Order_coverPairs_27 rfl (fun v4 hv4 => ?_)
      refine oz_iadd (q := 31) cx d_Order_coverPairs_30 rfl ?_
      refine oz_istore_n (q := 32) cx d_Order_coverPairs_31 rfl rfl (by rw [hnL]; decide) (lv2 := [(1, .int (s1.1 + v4)), (0, .ref (oz_b G + 6)), (2, .int s1.2)]) rfl ?_
      refine oz_iinc (q := 35) cx (s1.2 + 1) d_Order_coverPairs_32 rfl 2 rfl rfl (by rw [hnL]; decide) (lv2 := [(2, .int (s1.2 + 1)), (1, .int (s1.1 + v4)), (0, .ref (oz_b G + 6))]) rfl ?_
      refine oz_goto cx d_Order_coverPairs_35 rfl ?_
      exact oz_lv [2, 1, 0] rfl (oz_leaf (fun h => h))
  · refine oz_iload_n (q := 39) cx d_Order_coverPairs_38 rfl rfl 0 rfl ?_
    exact oz_iretp cx hR d_Order_coverPairs_39
def y_Order_height : MethodName := ⟨"OrderHall$Order", "height", "()I"⟩
theorem d_Order_height_0 : decode prog_6_method_10_code 0 = .ok (.aload_n 0, 1) := by decide +kernel
theorem d_Order_height_1 : decode prog_6_method_10_code 1 = .ok (.aload_n 0, 1) := by decide +kernel
theorem d_Order_height_2 : decode prog_6_method_10_code 2 = .ok (.getfield 25, 3) := by decide +kernel
theorem d_Order_height_5 : decode prog_6_method_10_code 5 = .ok (.aload_n 0, 1) := by decide +kernel
theorem d_Order_height_6 : decode prog_6_method_10_code 6 = .ok (.invokevirtual 48, 3) := by decide +kernel
theorem d_Order_height_9 : decode prog_6_method_10_code 9 = .ok (.invokevirtual 70, 3) := by decide +kernel
theorem d_Order_height_12 : decode prog_6_method_10_code 12 = .ok (.ireturn, 1) := by decide +kernel
noncomputable def f_Order_height (M : oz_M) : Option (Int32) := (f_Order_everything M).bind fun v1 => (f_Order_greatest 10 v1 M).bind fun v2 => some v2
set_option maxRecDepth 20000 in
set_option maxHeartbeats 4000000 in
theorem c_Order_height {l : Launch} {D : va_G} {cs : Nat → ClassId} {b : Nat} {M : oz_M} {vz : Int32} (hF : f_Order_height M = some vz) : oz_Met l D cs b y_Order_height prog_6_method_10_code 1 (some .int) (oz_rm 2) [.ref (b + 6)] M (some (.int vz)) M := by
  refine oz_enter (by decide) (Nat.le_of_ble_eq_true rfl) (fun G cx hR e1 hRm e2 e3 e4 hnL => ?_)
  subst e1; subst e2; subst e3; subst e4
  refine (?_ : oz_R G 0 [(0, .ref (oz_b G + 6))] [] M (f_Order_height  M) (fun x => x = vz)) _ hF rfl
  unfold f_Order_height
  refine oz_aload_n (q := 1) cx d_Order_height_0 rfl rfl 0 rfl ?_
  refine oz_aload_n (q := 2) cx d_Order_height_1 rfl rfl 0 rfl ?_
  refine oz_get (q := 5) cx 6 4 (by decide) (ci := 3) rfl rfl tin_Order (by decide) rfl rfl tw_92 d_Order_height_2 rfl ?_
  refine oz_aload_n (q := 6) cx d_Order_height_5 rfl rfl 0 rfl ?_
  refine oz_cVip (q := 9) cx 6 [] 0 3 hRm (by decide) (by decide) (fun _ h => c_Order_everything h) ⟨tw_300, tw_301, tw_302, tw_4⟩ tw_303 (by decide +kernel) rfl (by decide) rfl rfl (st := [.ref (oz_b G + 10), .ref (oz_b G + 6)]) rfl (Nat.le_of_ble_eq_true rfl) d_Order_height_6 rfl (fun v1 hv1 => ?_)
  refine oz_cVip (q := 12) cx 6 [.ref (oz_b G + 10), .int v1] 2 3 hRm (by decide) (by decide) (fun _ h => c_Order_greatest ⟨by decide, fun _ _ _ _ => rfl⟩ h) ⟨tw_318, tw_320, ts_8, tw_4⟩ tw_321 (by decide +kernel) rfl (by decide) rfl rfl (st := []) rfl (Nat.le_of_ble_eq_true rfl) d_Order_height_9 rfl (fun v2 hv2 => ?_)
  exact oz_iretp cx hR d_Order_height_12
def y_Order_measureLevels : MethodName := ⟨"OrderHall$Order", "measureLevels", "()V"⟩
theorem d_Order_measureLevels_0 : decode prog_6_method_7_code 0 = .ok (.iconst 0, 1) := by decide +kernel
theorem d_Order_measureLevels_1 : decode prog_6_method_7_code 1 = .ok (.istore_n 1, 1) := by decide +kernel
theorem d_Order_measureLevels_2 : decode prog_6_method_7_code 2 = .ok (.iload_n 1, 1) := by decide +kernel
theorem d_Order_measureLevels_3 : decode prog_6_method_7_code 3 = .ok (.aload_n 0, 1) := by decide +kernel
theorem d_Order_measureLevels_4 : decode prog_6_method_7_code 4 = .ok (.getfield 9, 3) := by decide +kernel
theorem d_Order_measureLevels_7 : decode prog_6_method_7_code 7 = .ok (.if_icmp .ge 41, 3) := by decide +kernel
theorem d_Order_measureLevels_10 : decode prog_6_method_7_code 10 = .ok (.aload_n 0, 1) := by decide +kernel
theorem d_Order_measureLevels_11 : decode prog_6_method_7_code 11 = .ok (.getfield 25, 3) := by decide +kernel
theorem d_Order_measureLevels_14 : decode prog_6_method_7_code 14 = .ok (.aload_n 0, 1) := by decide +kernel
theorem d_Order_measureLevels_15 : decode prog_6_method_7_code 15 = .ok (.getfield 31, 3) := by decide +kernel
theorem d_Order_measureLevels_18 : decode prog_6_method_7_code 18 = .ok (.iload_n 1, 1) := by decide +kernel
theorem d_Order_measureLevels_19 : decode prog_6_method_7_code 19 = .ok (.iaload, 1) := by decide +kernel
theorem d_Order_measureLevels_20 : decode prog_6_method_7_code 20 = .ok (.iconst 1, 1) := by decide +kernel
theorem d_Order_measureLevels_21 : decode prog_6_method_7_code 21 = .ok (.aload_n 0, 1) := by decide +kernel
theorem d_Order_measureLevels_22 : decode prog_6_method_7_code 22 = .ok (.aload_n 0, 1) := by decide +kernel
theorem d_Order_measureLevels_23 : decode prog_6_method_7_code 23 = .ok (.getfield 25, 3) := by decide +kernel
theorem d_Order_measureLevels_26 : decode prog_6_method_7_code 26 = .ok (.aload_n 0, 1) := by decide +kernel
theorem d_Order_measureLevels_27 : decode prog_6_method_7_code 27 = .ok (.getfield 15, 3) := by decide +kernel
theorem d_Order_measureLevels_30 : decode prog_6_method_7_code 30 = .ok (.aload_n 0, 1) := by decide +kernel
theorem d_Order_measureLevels_31 : decode prog_6_method_7_code 31 = .ok (.getfield 31, 3) := by decide +kernel
theorem d_Order_measureLevels_34 : decode prog_6_method_7_code 34 = .ok (.iload_n 1, 1) := by decide +kernel
theorem d_Order_measureLevels_35 : decode prog_6_method_7_code 35 = .ok (.iaload, 1) := by decide +kernel
theorem d_Order_measureLevels_36 : decode prog_6_method_7_code 36 = .ok (.iaload, 1) := by decide +kernel
theorem d_Order_measureLevels_37 : decode prog_6_method_7_code 37 = .ok (.invokevirtual 70, 3) := by decide +kernel
theorem d_Order_measureLevels_40 : decode prog_6_method_7_code 40 = .ok (.iadd, 1) := by decide +kernel
theorem d_Order_measureLevels_41 : decode prog_6_method_7_code 41 = .ok (.iastore, 1) := by decide +kernel
theorem d_Order_measureLevels_42 : decode prog_6_method_7_code 42 = .ok (.iinc 1 1, 3) := by decide +kernel
theorem d_Order_measureLevels_45 : decode prog_6_method_7_code 45 = .ok (.goto (-43), 3) := by decide +kernel
theorem d_Order_measureLevels_48 : decode prog_6_method_7_code 48 = .ok (.aload_n 0, 1) := by decide +kernel
theorem d_Order_measureLevels_49 : decode prog_6_method_7_code 49 = .ok (.getfield 9, 3) := by decide +kernel
theorem d_Order_measureLevels_52 : decode prog_6_method_7_code 52 = .ok (.iconst 1, 1) := by decide +kernel
theorem d_Order_measureLevels_53 : decode prog_6_method_7_code 53 = .ok (.isub, 1) := by decide +kernel
theorem d_Order_measureLevels_54 : decode prog_6_method_7_code 54 = .ok (.istore_n 1, 1) := by decide +kernel
theorem d_Order_measureLevels_55 : decode prog_6_method_7_code 55 = .ok (.iload_n 1, 1) := by decide +kernel
theorem d_Order_measureLevels_56 : decode prog_6_method_7_code 56 = .ok (.ifCond .lt 41, 3) := by decide +kernel
theorem d_Order_measureLevels_59 : decode prog_6_method_7_code 59 = .ok (.aload_n 0, 1) := by decide +kernel
theorem d_Order_measureLevels_60 : decode prog_6_method_7_code 60 = .ok (.getfield 28, 3) := by decide +kernel
theorem d_Order_measureLevels_63 : decode prog_6_method_7_code 63 = .ok (.aload_n 0, 1) := by decide +kernel
theorem d_Order_measureLevels_64 : decode prog_6_method_7_code 64 = .ok (.getfield 31, 3) := by decide +kernel
theorem d_Order_measureLevels_67 : decode prog_6_method_7_code 67 = .ok (.iload_n 1, 1) := by decide +kernel
theorem d_Order_measureLevels_68 : decode prog_6_method_7_code 68 = .ok (.iaload, 1) := by decide +kernel
theorem d_Order_measureLevels_69 : decode prog_6_method_7_code 69 = .ok (.iconst 1, 1) := by decide +kernel
theorem d_Order_measureLevels_70 : decode prog_6_method_7_code 70 = .ok (.aload_n 0, 1) := by decide +kernel
theorem d_Order_measureLevels_71 : decode prog_6_method_7_code 71 = .ok (.aload_n 0, 1) := by decide +kernel
theorem d_Order_measureLevels_72 : decode prog_6_method_7_code 72 = .ok (.getfield 28, 3) := by decide +kernel
theorem d_Order_measureLevels_75 : decode prog_6_method_7_code 75 = .ok (.aload_n 0, 1) := by decide +kernel
theorem d_Order_measureLevels_76 : decode prog_6_method_7_code 76 = .ok (.getfield 19, 3) := by decide +kernel
theorem d_Order_measureLevels_79 : decode prog_6_method_7_code 79 = .ok (.aload_n 0, 1) := by decide +kernel
theorem d_Order_measureLevels_80 : decode prog_6_method_7_code 80 = .ok (.getfield 31, 3) := by decide +kernel
theorem d_Order_measureLevels_83 : decode prog_6_method_7_code 83 = .ok (.iload_n 1, 1) := by decide +kernel
theorem d_Order_measureLevels_84 : decode prog_6_method_7_code 84 = .ok (.iaload, 1) := by decide +kernel
theorem d_Order_measureLevels_85 : decode prog_6_method_7_code 85 = .ok (.iaload, 1) := by decide +kernel
theorem d_Order_measureLevels_86 : decode prog_6_method_7_code 86 = .ok (.invokevirtual 70, 3) := by decide +kernel
theorem d_Order_measureLevels_89 : decode prog_6_method_7_code 89 = .ok (.iadd, 1) := by decide +kernel
theorem d_Order_measureLevels_90 : decode prog_6_method_7_code 90 = .ok (.iastore, 1) := by decide +kernel
theorem d_Order_measureLevels_91 : decode prog_6_method_7_code 91 = .ok (.iinc 1 (-1), 3) := by decide +kernel
theorem d_Order_measureLevels_94 : decode prog_6_method_7_code 94 = .ok (.goto (-39), 3) := by decide +kernel
theorem d_Order_measureLevels_97 : decode prog_6_method_7_code 97 = .ok (.return_, 1) := by decide +kernel
noncomputable def f_Order_measureLevels (M : oz_M) : Option (Unit × oz_M) := (oz_lp (fun (s1 : Int32 × oz_M) => (if s1.1 < (s1.2.1 6 0) then ((oz_in s1.1 14).bind fun j2 => (oz_in s1.1 14).bind fun j3 => (oz_in (s1.2.1 12 j3) 14).bind fun j4 => (f_Order_greatest 10 (s1.2.1 7 j4) s1.2).bind fun v5 => (oz_in (s1.2.1 12 j2) 14).bind fun j6 => (some (oz_s s1.2 10 j6 (1 + v5))).bind fun M7 => some (.inl (s1.1 + 1, M7))) else (some (.inr (s1.1, s1.2))) : Option ((Int32 × oz_M) ⊕ (Int32 × oz_M)))) (0, M)).bind fun (y9 : Int32 × oz_M) => (oz_lp (fun (s10 : Int32 × oz_M) => (if s10.1 < 0 then (some (.inr (s10.1, s10.2))) else ((oz_in s10.1 14).bind fun j11 => (oz_in s10.1 14).bind fun j12 => (oz_in (s10.2.1 12 j12) 14).bind fun j13 => (f_Order_greatest 11 (s10.2.1 8 j13) s10.2).bind fun v14 => (oz_in (s10.2.1 12 j11) 14).bind fun j15 => (some (oz_s s10.2 11 j15 (1 + v14))).bind fun M16 => some (.inl (s10.1 + (-1), M16))) : Option ((Int32 × oz_M) ⊕ (Int32 × oz_M)))) ((y9.2.1 6 0) - 1, y9.2)).bind fun (y18 : Int32 × oz_M) => some ((), y18.2)
set_option maxRecDepth 20000 in
set_option maxHeartbeats 4000000 in
theorem c_Order_measureLevels {l : Launch} {D : va_G} {cs : Nat → ClassId} {b : Nat} {M : oz_M} {vz : Unit} {Mz : oz_M} (hF : f_Order_measureLevels M = some (vz, Mz)) : oz_Met l D cs b y_Order_measureLevels prog_6_method_7_code 2 none (oz_rm 2) [.ref (b + 6)] M (none) Mz := by
  refine oz_enter (by decide) (Nat.le_of_ble_eq_true rfl) (fun G cx hR e1 hRm e2 e3 e4 hnL => ?_)
  subst e1; subst e2; subst e3; subst e4
  refine (?_ : oz_R G 0 [(0, .ref (oz_b G + 6))] [] M (f_Order_measureLevels  M) (fun x => x = (vz, Mz))) _ hF rfl
  unfold f_Order_measureLevels
  refine oz_iconst (q := 1) cx d_Order_measureLevels_0 rfl (v := 0) rfl ?_
  refine oz_istore_n (q := 2) cx d_Order_measureLevels_1 rfl rfl (by rw [hnL]; decide) (lv2 := [(1, .int 0), (0, .ref (oz_b G + 6))]) rfl ?_
  refine oz_lv [1, 0] rfl ?_
  refine oz_seq (p2 := 48) (lv2 := fun (y9 : Int32 × oz_M) => [(0, .ref (oz_b G + 6))]) (st2 := fun y9 => []) (M2 := fun y9 => y9.2) ?_ (fun y9 => ?_)
  · refine oz_loop (Y := Int32 × oz_M) 2 (fun (s1 : Int32 × oz_M) => [(0, .ref (oz_b G + 6)), (1, .int s1.1)]) (fun (s1 : Int32 × oz_M) => s1.2) (0, M) (fun s1 => ?_)
    refine oz_iload_n (q := 3) cx d_Order_measureLevels_2 rfl rfl 1 rfl ?_
    refine oz_aload_n (q := 4) cx d_Order_measureLevels_3 rfl rfl 0 rfl ?_
    refine oz_get (q := 7) cx 6 0 (by decide) (ci := 3) rfl rfl tin_Order (by decide) rfl rfl tw_69 d_Order_measureLevels_4 rfl ?_
    refine oz_icmp_ge (q := 10) cx d_Order_measureLevels_7 rfl rfl (fun h8 => ?_) (fun h8 => ?_)
    · exact oz_lv [0] rfl (oz_leaf (fun h => h))
    · refine oz_aload_n (q := 11) cx d_Order_measureLevels_10 rfl rfl 0 rfl ?_
      refine oz_get (q := 14) cx 6 4 (by decide) (ci := 3) rfl rfl tin_Order (by decide) rfl rfl tw_92 d_Order_measureLevels_11 rfl ?_
      refine oz_aload_n (q := 15) cx d_Order_measureLevels_14 rfl rfl 0 rfl ?_
      refine oz_get (q := 18) cx 6 6 (by decide) (ci := 3) rfl rfl tin_Order (by decide) rfl rfl tw_96 d_Order_measureLevels_15 rfl ?_
      refine oz_iload_n (q := 19) cx d_Order_measureLevels_18 rfl rfl 1 rfl ?_
      refine oz_iald (q := 20) cx 12 14 (by decide) rfl d_Order_measureLevels_19 rfl (fun j2 hj2 => ?_)
      refine oz_iconst (q := 21) cx d_Order_measureLevels_20 rfl (v := 1) rfl ?_
      refine oz_aload_n (q := 22) cx d_Order_measureLevels_21 rfl rfl 0 rfl ?_
      refine oz_aload_n (q := 23) cx d_Order_measureLevels_22 rfl rfl 0 rfl ?_
      refine oz_get (q := 26) cx 6 4 (by decide) (ci := 3) rfl rfl tin_Order (by decide) rfl rfl tw_92 d_Order_measureLevels_23 rfl ?_
      refine oz_aload_n (q := 27) cx d_Order_measureLevels_26 rfl rfl 0 rfl ?_
      refine oz_get (q := 30) cx 6 1 (by decide) (ci := 3) rfl rfl tin_Order (by decide) rfl rfl tw_76 d_Order_measureLevels_27 rfl ?_
      refine oz_aload_n (q := 31) cx d_Order_measureLevels_30 rfl rfl 0 rfl ?_
      refine oz_get (q := 34) cx 6 6 (by decide) (ci := 3) rfl rfl tin_Order (by decide) rfl rfl tw_96 d_Order_measureLevels_31 rfl ?_
      refine oz_iload_n (q := 35) cx d_Order_measureLevels_34 rfl rfl 1 rfl ?_
      refine oz_iald (q := 36) cx 12 14 (by decide) rfl d_Order_measureLevels_35 rfl (fun j3 hj3 => ?_)
      refine oz_iald (q := 37) cx 7 14 (by decide) rfl d_Order_measureLevels_36 rfl (fun j4 hj4 => ?_)
      refine oz_cVip (q := 40) cx 6 [.ref (oz_b G + 10), .int (s1.2.1 7 j4)] 2 3 hRm (by decide) (by decide) (fun _ h => c_Order_greatest ⟨by decide, fun _ _ _ _ => rfl⟩ h) ⟨tw_318, tw_320, ts_8, tw_4⟩ tw_321 (by decide +kernel) rfl (by decide) rfl rfl (st := [.int 1, .int (s1.2.1 12 j2), .ref (oz_b G + 10)]) rfl (Nat.le_of_ble_eq_true rfl) d_Order_measureLevels_37 rfl (fun v5 hv5 => ?_)
      refine oz_iadd (q := 41) cx d_Order_measureLevels_40 rfl ?_
      refine oz_iast (q := 42) cx 10 14 (by decide) (fun _ => rfl) d_Order_measureLevels_41 rfl (fun j6 hj6 => ?_)
      refine oz_nm (fun M7 hM7 => ?_)
      refine oz_iinc (q := 45) cx (s1.1 + 1) d_Order_measureLevels_42 rfl 1 rfl rfl (by rw [hnL]; decide) (lv2 := [(1, .int (s1.1 + 1)), (0, .ref (oz_b G + 6))]) rfl ?_
      refine oz_goto cx d_Order_measureLevels_45 rfl ?_
      exact oz_lv [1, 0] rfl (oz_leaf (fun h => h))
  · refine oz_aload_n (q := 49) cx d_Order_measureLevels_48 rfl rfl 0 rfl ?_
    refine oz_get (q := 52) cx 6 0 (by decide) (ci := 3) rfl rfl tin_Order (by decide) rfl rfl tw_69 d_Order_measureLevels_49 rfl ?_
    refine oz_iconst (q := 53) cx d_Order_measureLevels_52 rfl (v := 1) rfl ?_
    refine oz_isub (q := 54) cx d_Order_measureLevels_53 rfl ?_
    refine oz_istore_n (q := 55) cx d_Order_measureLevels_54 rfl rfl (by rw [hnL]; decide) (lv2 := [(1, .int ((y9.2.1 6 0) - 1)), (0, .ref (oz_b G + 6))]) rfl ?_
    refine oz_lv [1, 0] rfl ?_
    refine oz_seq (p2 := 97) (lv2 := fun (y18 : Int32 × oz_M) => []) (st2 := fun y18 => []) (M2 := fun y18 => y18.2) ?_ (fun y18 => ?_)
    · refine oz_loop (Y := Int32 × oz_M) 55 (fun (s10 : Int32 × oz_M) => [(0, .ref (oz_b G + 6)), (1, .int s10.1)]) (fun (s10 : Int32 × oz_M) => s10.2) ((y9.2.1 6 0) - 1, y9.2) (fun s10 => ?_)
      refine oz_iload_n (q := 56) cx d_Order_measureLevels_55 rfl rfl 1 rfl ?_
      refine oz_if_lt (q := 59) cx d_Order_measureLevels_56 rfl rfl (fun h17 => ?_) (fun h17 => ?_)
      · exact oz_lv [] rfl (oz_leaf (fun h => h))
      · refine oz_aload_n (q := 60) cx d_Order_measureLevels_59 rfl rfl 0 rfl ?_
        refine oz_get (q := 63) cx 6 5 (by decide) (ci := 3) rfl rfl tin_Order (by decide) rfl rfl tw_94 d_Order_measureLevels_60 rfl ?_
        refine oz_aload_n (q := 64) cx d_Order_measureLevels_63 rfl rfl 0 rfl ?_
        refine oz_get (q := 67) cx 6 6 (by decide) (ci := 3) rfl rfl tin_Order (by decide) rfl rfl tw_96 d_Order_measureLevels_64 rfl ?_
        refine oz_iload_n (q := 68) cx d_Order_measureLevels_67 rfl rfl 1 rfl ?_
        refine oz_iald (q := 69) cx 12 14 (by decide) rfl d_Order_measureLevels_68 rfl (fun j11 hj11 => ?_)
        refine oz_iconst (q := 70) cx d_Order_measureLevels_69 rfl (v := 1) rfl ?_
        refine oz_aload_n (q := 71) cx d_Order_measureLevels_70 rfl rfl 0 rfl ?_
        refine oz_aload_n (q := 72) cx d_Order_measureLevels_71 rfl rfl 0 rfl ?_
        refine oz_get (q := 75) cx 6 5 (by decide) (ci := 3) rfl rfl tin_Order (by decide) rfl rfl tw_94 d_Order_measureLevels_72 rfl ?_
        refine oz_aload_n (q := 76) cx d_Order_measureLevels_75 rfl rfl 0 rfl ?_
        refine oz_get (q := 79) cx 6 2 (by decide) (ci := 3) rfl rfl tin_Order (by decide) rfl rfl tw_82 d_Order_measureLevels_76 rfl ?_
        refine oz_aload_n (q := 80) cx d_Order_measureLevels_79 rfl rfl 0 rfl ?_
        refine oz_get (q := 83) cx 6 6 (by decide) (ci := 3) rfl rfl tin_Order (by decide) rfl rfl tw_96 d_Order_measureLevels_80 rfl ?_
        refine oz_iload_n (q := 84) cx d_Order_measureLevels_83 rfl rfl 1 rfl ?_
        refine oz_iald (q := 85) cx 12 14 (by decide) rfl d_Order_measureLevels_84 rfl (fun j12 hj12 => ?_)
        refine oz_iald (q := 86) cx 8 14 (by decide) rfl d_Order_measureLevels_85 rfl (fun j13 hj13 => ?_)
        refine oz_cVip (q := 89) cx 6 [.ref (oz_b G + 11), .int (s10.2.1 8 j13)] 2 3 hRm (by decide) (by decide) (fun _ h => c_Order_greatest ⟨by decide, fun _ _ _ _ => rfl⟩ h) ⟨tw_318, tw_320, ts_8, tw_4⟩ tw_321 (by decide +kernel) rfl (by decide) rfl rfl (st := [.int 1, .int (s10.2.1 12 j11), .ref (oz_b G + 11)]) rfl (Nat.le_of_ble_eq_true rfl) d_Order_measureLevels_86 rfl (fun v14 hv14 => ?_)
        refine oz_iadd (q := 90) cx d_Order_measureLevels_89 rfl ?_
        refine oz_iast (q := 91) cx 11 14 (by decide) (fun _ => rfl) d_Order_measureLevels_90 rfl (fun j15 hj15 => ?_)
        refine oz_nm (fun M16 hM16 => ?_)
        refine oz_iinc (q := 94) cx (s10.1 + (-1)) d_Order_measureLevels_91 rfl 1 rfl rfl (by rw [hnL]; decide) (lv2 := [(1, .int (s10.1 + (-1))), (0, .ref (oz_b G + 6))]) rfl ?_
        refine oz_goto cx d_Order_measureLevels_94 rfl ?_
        exact oz_lv [1, 0] rfl (oz_leaf (fun h => h))
    · exact oz_vret cx hR d_Order_measureLevels_97
def y_Order_signOf : MethodName := ⟨"OrderHall$Order", "signOf", "(II)I"⟩
theorem d_Order_signOf_0 : decode prog_6_method_15_code 0 = .ok (.iconst 0, 1) := by decide +kernel
theorem d_Order_signOf_1 : decode prog_6_method_15_code 1 = .ok (.istore_n 3, 1) := by decide +kernel
theorem d_Order_signOf_2 : decode prog_6_method_15_code 2 = .ok (.iload_n 3, 1) := by decide +kernel
theorem d_Order_signOf_3 : decode prog_6_method_15_code 3 = .ok (.aload_n 0, 1) := by decide +kernel
theorem d_Order_signOf_4 : decode prog_6_method_15_code 4 = .ok (.getfield 9, 3) := by decide +kernel
theorem d_Order_signOf_7 : decode prog_6_method_15_code 7 = .ok (.if_icmp .ge 72, 3) := by decide +kernel
theorem d_Order_signOf_10 : decode prog_6_method_15_code 10 = .ok (.aload_n 0, 1) := by decide +kernel
theorem d_Order_signOf_11 : decode prog_6_method_15_code 11 = .ok (.getfield 31, 3) := by decide +kernel
theorem d_Order_signOf_14 : decode prog_6_method_15_code 14 = .ok (.iload_n 3, 1) := by decide +kernel
theorem d_Order_signOf_15 : decode prog_6_method_15_code 15 = .ok (.iaload, 1) := by decide +kernel
theorem d_Order_signOf_16 : decode prog_6_method_15_code 16 = .ok (.istore 4, 2) := by decide +kernel
theorem d_Order_signOf_18 : decode prog_6_method_15_code 18 = .ok (.aload_n 0, 1) := by decide +kernel
theorem d_Order_signOf_19 : decode prog_6_method_15_code 19 = .ok (.getfield 34, 3) := by decide +kernel
theorem d_Order_signOf_22 : decode prog_6_method_15_code 22 = .ok (.iload 4, 2) := by decide +kernel
theorem d_Order_signOf_24 : decode prog_6_method_15_code 24 = .ok (.aload_n 0, 1) := by decide +kernel
theorem d_Order_signOf_25 : decode prog_6_method_15_code 25 = .ok (.getfield 19, 3) := by decide +kernel
theorem d_Order_signOf_28 : decode prog_6_method_15_code 28 = .ok (.iload_n 1, 1) := by decide +kernel
theorem d_Order_signOf_29 : decode prog_6_method_15_code 29 = .ok (.iaload, 1) := by decide +kernel
theorem d_Order_signOf_30 : decode prog_6_method_15_code 30 = .ok (.iload 4, 2) := by decide +kernel
theorem d_Order_signOf_32 : decode prog_6_method_15_code 32 = .ok (.invokestatic 61, 3) := by decide +kernel
theorem d_Order_signOf_35 : decode prog_6_method_15_code 35 = .ok (.ifCond .eq 22, 3) := by decide +kernel
theorem d_Order_signOf_38 : decode prog_6_method_15_code 38 = .ok (.aload_n 0, 1) := by decide +kernel
theorem d_Order_signOf_39 : decode prog_6_method_15_code 39 = .ok (.aload_n 0, 1) := by decide +kernel
theorem d_Order_signOf_40 : decode prog_6_method_15_code 40 = .ok (.getfield 34, 3) := by decide +kernel
theorem d_Order_signOf_43 : decode prog_6_method_15_code 43 = .ok (.aload_n 0, 1) := by decide +kernel
theorem d_Order_signOf_44 : decode prog_6_method_15_code 44 = .ok (.getfield 15, 3) := by decide +kernel
theorem d_Order_signOf_47 : decode prog_6_method_15_code 47 = .ok (.iload 4, 2) := by decide +kernel
theorem d_Order_signOf_49 : decode prog_6_method_15_code 49 = .ok (.iaload, 1) := by decide +kernel
theorem d_Order_signOf_50 : decode prog_6_method_15_code 50 = .ok (.invokevirtual 84, 3) := by decide +kernel
theorem d_Order_signOf_53 : decode prog_6_method_15_code 53 = .ok (.ineg, 1) := by decide +kernel
theorem d_Order_signOf_54 : decode prog_6_method_15_code 54 = .ok (.goto 4, 3) := by decide +kernel
theorem d_Order_signOf_57 : decode prog_6_method_15_code 57 = .ok (.iconst 0, 1) := by decide +kernel
theorem d_Order_signOf_58 : decode prog_6_method_15_code 58 = .ok (.iastore, 1) := by decide +kernel
theorem d_Order_signOf_59 : decode prog_6_method_15_code 59 = .ok (.iload 4, 2) := by decide +kernel
theorem d_Order_signOf_61 : decode prog_6_method_15_code 61 = .ok (.iload_n 1, 1) := by decide +kernel
theorem d_Order_signOf_62 : decode prog_6_method_15_code 62 = .ok (.if_icmp .ne 11, 3) := by decide +kernel
theorem d_Order_signOf_65 : decode prog_6_method_15_code 65 = .ok (.aload_n 0, 1) := by decide +kernel
theorem d_Order_signOf_66 : decode prog_6_method_15_code 66 = .ok (.getfield 34, 3) := by decide +kernel
theorem d_Order_signOf_69 : decode prog_6_method_15_code 69 = .ok (.iload 4, 2) := by decide +kernel
theorem d_Order_signOf_71 : decode prog_6_method_15_code 71 = .ok (.iconst 1, 1) := by decide +kernel
theorem d_Order_signOf_72 : decode prog_6_method_15_code 72 = .ok (.iastore, 1) := by decide +kernel
theorem d_Order_signOf_73 : decode prog_6_method_15_code 73 = .ok (.iinc 3 1, 3) := by decide +kernel
theorem d_Order_signOf_76 : decode prog_6_method_15_code 76 = .ok (.goto (-74), 3) := by decide +kernel
theorem d_Order_signOf_79 : decode prog_6_method_15_code 79 = .ok (.aload_n 0, 1) := by decide +kernel
theorem d_Order_signOf_80 : decode prog_6_method_15_code 80 = .ok (.getfield 34, 3) := by decide +kernel
theorem d_Order_signOf_83 : decode prog_6_method_15_code 83 = .ok (.iload_n 2, 1) := by decide +kernel
theorem d_Order_signOf_84 : decode prog_6_method_15_code 84 = .ok (.iaload, 1) := by decide +kernel
theorem d_Order_signOf_85 : decode prog_6_method_15_code 85 = .ok (.ireturn, 1) := by decide +kernel
noncomputable def f_Order_signOf (a0 : Int32) (a1 : Int32) (M : oz_M) : Option (Int32 × oz_M) := (oz_lp (fun (s1 : Int32 × oz_M) => (if s1.1 < (s1.2.1 6 0) then ((oz_in s1.1 14).bind fun j2 => (oz_in a0 14).bind fun j3 => (f_Hall_has (s1.2.1 8 j3) (s1.2.1 12 j2) s1.2).bind fun v4 => (if v4 = 0 then (some 0) else ((oz_in (s1.2.1 12 j2) 14).bind fun j6 => (f_Order_sum 13 (s1.2.1 7 j6) s1.2).bind fun v7 => some (-v7))).bind fun (z5 : Int32) => (oz_in (s1.2.1 12 j2) 14).bind fun j9 => (some (oz_s s1.2 13 j9 z5)).bind fun M10 => if (s1.2.1 12 j2) = a0 then ((oz_in (s1.2.1 12 j2) 14).bind fun j11 => (some (oz_s M10 13 j11 1)).bind fun M12 => some (.inl (s1.1 + 1, M12))) else (some (.inl (s1.1 + 1, M10)))) else (some (.inr (s1.1, s1.2))) : Option ((Int32 × oz_M) ⊕ (Int32 × oz_M)))) (0, M)).bind fun (y15 : Int32 × oz_M) => (oz_in a1 14).bind fun j16 => some (y15.2.1 13 j16, y15.2)
set_option maxRecDepth 20000 in
set_option maxHeartbeats 4000000 in
theorem c_Order_signOf {l : Launch} {D : va_G} {cs : Nat → ClassId} {b : Nat} {a0 : Int32} {a1 : Int32} {M : oz_M} {vz : Int32} {Mz : oz_M} (hF : f_Order_signOf a0 a1 M = some (vz, Mz)) : oz_Met l D cs b y_Order_signOf prog_6_method_15_code 5 (some .int) (oz_rm 2) [.ref (b + 6), .int a0, .int a1] M (some (.int vz)) Mz := by
  refine oz_enter (by decide) (Nat.le_of_ble_eq_true rfl) (fun G cx hR e1 hRm e2 e3 e4 hnL => ?_)
  subst e1; subst e2; subst e3; subst e4
  refine (?_ : oz_R G 0 [(0, .ref (oz_b G + 6)), (1, .int a0), (2, .int a1)] [] M (f_Order_signOf a0 a1 M) (fun x => x = (vz, Mz))) _ hF rfl
  unfold f_Order_signOf
  refine oz_iconst (q := 1) cx d_Order_signOf_0 rfl (v := 0) rfl ?_
  refine oz_istore_n (q := 2) cx d_Order_signOf_1 rfl rfl (by rw [hnL]; decide) (lv2 := [(3, .int 0), (0, .ref (oz_b G + 6)), (1, .int a0), (2, .int a1)]) rfl ?_
  refine oz_lv [1, 2, 3, 0] rfl ?_
  refine oz_seq (p2 := 79) (lv2 := fun (y15 : Int32 × oz_M) => [(0, .ref (oz_b G + 6)), (2, .int a1)]) (st2 := fun y15 => []) (M2 := fun y15 => y15.2) ?_ (fun y15 => ?_)
  · refine oz_loop (Y := Int32 × oz_M) 2 (fun (s1 : Int32 × oz_M) => [(0, .ref (oz_b G + 6)), (1, .int a0), (2, .int a1), (3, .int s1.1)]) (fun (s1 : Int32 × oz_M) => s1.2) (0, M) (fun s1 => ?_)
    refine oz_iload_n (q := 3) cx d_Order_signOf_2 rfl rfl 3 rfl ?_
    refine oz_aload_n (q := 4) cx d_Order_signOf_3 rfl rfl 0 rfl ?_
    refine oz_get (q := 7) cx 6 0 (by decide) (ci := 3) rfl rfl tin_Order (by decide) rfl rfl tw_69 d_Order_signOf_4 rfl ?_
    refine oz_icmp_ge (q := 10) cx d_Order_signOf_7 rfl rfl (fun h14 => ?_) (fun h14 => ?_)
    · exact oz_lv [0, 2] rfl (oz_leaf (fun h => h))
    · refine oz_aload_n (q := 11) cx d_Order_signOf_10 rfl rfl 0 rfl ?_
      refine oz_get (q := 14) cx 6 6 (by decide) (ci := 3) rfl rfl tin_Order (by decide) rfl rfl tw_96 d_Order_signOf_11 rfl ?_
      refine oz_iload_n (q := 15) cx d_Order_signOf_14 rfl rfl 3 rfl ?_
      refine oz_iald (q := 16) cx 12 14 (by decide) rfl d_Order_signOf_15 rfl (fun j2 hj2 => ?_)
      refine oz_istore (q := 18) cx d_Order_signOf_16 rfl (by rw [hnL]; decide) (lv2 := [(4, .int (s1.2.1 12 j2)), (0, .ref (oz_b G + 6)), (1, .int a0), (2, .int a1), (3, .int s1.1)]) rfl ?_
      refine oz_aload_n (q := 19) cx d_Order_signOf_18 rfl rfl 1 rfl ?_
      refine oz_get (q := 22) cx 6 7 (by decide) (ci := 3) rfl rfl tin_Order (by decide) rfl rfl tw_97 d_Order_signOf_19 rfl ?_
      refine oz_iload (q := 24) cx d_Order_signOf_22 rfl 0 rfl ?_
      refine oz_aload_n (q := 25) cx d_Order_signOf_24 rfl rfl 1 rfl ?_
      refine oz_get (q := 28) cx 6 2 (by decide) (ci := 3) rfl rfl tin_Order (by decide) rfl rfl tw_82 d_Order_signOf_25 rfl ?_
      refine oz_iload_n (q := 29) cx d_Order_signOf_28 rfl rfl 2 rfl ?_
      refine oz_iald (q := 30) cx 8 14 (by decide) rfl d_Order_signOf_29 rfl (fun j3 hj3 => ?_)
      refine oz_iload (q := 32) cx d_Order_signOf_30 rfl 0 rfl ?_
      refine oz_cSNip (q := 35) cx [.int (s1.2.1 8 j3), .int (s1.2.1 12 j2)] 2 hRm (by decide) (by decide) (fun _ h => c_Hall_has h) tn_295 ⟨tw_274, tw_1⟩ tw_275 (by decide +kernel) rfl (st := [.int (s1.2.1 12 j2), .ref (oz_b G + 13)]) rfl (Nat.le_of_ble_eq_true rfl) d_Order_signOf_32 rfl (fun v4 hv4 => ?_)
      refine oz_seq (p2 := 58) (lv2 := fun (z5 : Int32) => [(0, .ref (oz_b G + 6)), (1, .int a0), (2, .int a1), (3, .int s1.1), (4, .int (s1.2.1 12 j2))]) (st2 := fun z5 => [.int z5, .int (s1.2.1 12 j2), .ref (oz_b G + 13)]) (M2 := fun z5 => s1.2) ?_ (fun z5 => ?_)
      · refine oz_if_eq (q := 38) cx d_Order_signOf_35 rfl rfl (fun h8 => ?_) (fun h8 => ?_)
        · refine oz_iconst (q := 58) cx d_Order_signOf_57 rfl (v := 0) rfl ?_
          exact oz_lv [1, 2, 3, 4, 0] rfl (oz_leaf (fun h => h))
        · refine oz_aload_n (q := 39) cx d_Order_signOf_38 rfl rfl 1 rfl ?_
          refine oz_aload_n (q := 40) cx d_Order_signOf_39 rfl rfl 1 rfl ?_
          refine oz_get (q := 43) cx 6 7 (by decide) (ci := 3) rfl rfl tin_Order (by decide) rfl rfl tw_97 d_Order_signOf_40 rfl ?_
          refine oz_aload_n (q := 44) cx d_Order_signOf_43 rfl rfl 1 rfl ?_
          refine oz_get (q := 47) cx 6 1 (by decide) (ci := 3) rfl rfl tin_Order (by decide) rfl rfl tw_76 d_Order_signOf_44 rfl ?_
          refine oz_iload (q := 49) cx d_Order_signOf_47 rfl 0 rfl ?_
          refine oz_iald (q := 50) cx 7 14 (by decide) rfl d_Order_signOf_49 rfl (fun j6 hj6 => ?_)
          refine oz_cVip (q := 53) cx 6 [.ref (oz_b G + 13), .int (s1.2.1 7 j6)] 2 3 hRm (by decide) (by decide) (fun _ h => c_Order_sum ⟨by decide, fun _ _ _ _ => rfl⟩ h) ⟨tw_607, tw_609, ts_17, tw_4⟩ tw_610 (by decide +kernel) rfl (by decide) rfl rfl (st := [.int (s1.2.1 12 j2), .ref (oz_b G + 13)]) rfl (Nat.le_of_ble_eq_true rfl) d_Order_signOf_50 rfl (fun v7 hv7 => ?_)
          refine oz_ineg (q := 54) cx d_Order_signOf_53 rfl ?_
          refine oz_goto cx d_Order_signOf_54 rfl ?_
          exact oz_lv [1, 2, 3, 4, 0] rfl (oz_leaf (fun h => h))
      · refine oz_iast (q := 59) cx 13 14 (by decide) (fun _ => rfl) d_Order_signOf_58 rfl (fun j9 hj9 => ?_)
        refine oz_nm (fun M10 hM10 => ?_)
        refine oz_iload (q := 61) cx d_Order_signOf_59 rfl 4 rfl ?_
        refine oz_iload_n (q := 62) cx d_Order_signOf_61 rfl rfl 1 rfl ?_
        refine oz_icmp_ne (q := 65) cx d_Order_signOf_62 rfl rfl (fun h13 => ?_) (fun h13 => ?_)
        · refine oz_iinc (q := 76) cx (s1.1 + 1) d_Order_signOf_73 rfl 3 rfl rfl (by rw [hnL]; decide) (lv2 := [(3, .int (s1.1 + 1)), (0, .ref (oz_b G + 6)), (1, .int a0), (2, .int a1), (4, .int (s1.2.1 12 j2))]) rfl ?_
          refine oz_goto cx d_Order_signOf_76 rfl ?_
          exact oz_lv [1, 2, 3, 0] rfl (oz_leaf (fun h => h))
        · refine oz_aload_n (q := 66) cx d_Order_signOf_65 rfl rfl 0 rfl ?_
          refine oz_get (q := 69) cx 6 7 (by decide) (ci := 3) rfl rfl tin_Order (by decide) rfl rfl tw_97 d_Order_signOf_66 rfl ?_
          refine oz_iload (q := 71) cx d_Order_signOf_69 rfl 4 rfl ?_
          refine oz_iconst (q := 72) cx d_Order_signOf_71 rfl (v := 1) rfl ?_
          refine oz_iast (q := 73) cx 13 14 (by decide) (fun _ => rfl) d_Order_signOf_72 rfl (fun j11 hj11 => ?_)
          refine oz_nm (fun M12 hM12 => ?_)
          refine oz_iinc (q := 76) cx (s1.1 + 1) d_Order_signOf_73 rfl 3 rfl rfl (by rw [hnL]; decide) (lv2 := [(3, .int (s1.1 + 1)), (0, .ref (oz_b G + 6)), (1, .int a0), (2, .int a1), (4, .int (s1.2.1 12 j2))]) rfl ?_
          refine oz_goto cx d_Order_signOf_76 rfl ?_
          exact oz_lv [1, 2, 3, 0] rfl (oz_leaf (fun h => h))
  · refine oz_aload_n (q := 80) cx d_Order_signOf_79 rfl rfl 0 rfl ?_
    refine oz_get (q := 83) cx 6 7 (by decide) (ci := 3) rfl rfl tin_Order (by decide) rfl rfl tw_97 d_Order_signOf_80 rfl ?_
    refine oz_iload_n (q := 84) cx d_Order_signOf_83 rfl rfl 1 rfl ?_
    refine oz_iald (q := 85) cx 13 14 (by decide) rfl d_Order_signOf_84 rfl (fun j16 hj16 => ?_)
    exact oz_iret cx hR d_Order_signOf_85
def y_Parts_cutLayers : MethodName := ⟨"OrderHall$Parts", "cutLayers", "(I)V"⟩
theorem d_Parts_cutLayers_0 : decode prog_7_method_6_code 0 = .ok (.iload_n 1, 1) := by decide +kernel
theorem d_Parts_cutLayers_1 : decode prog_7_method_6_code 1 = .ok (.istore_n 2, 1) := by decide +kernel
theorem d_Parts_cutLayers_2 : decode prog_7_method_6_code 2 = .ok (.iconst 0, 1) := by decide +kernel
theorem d_Parts_cutLayers_3 : decode prog_7_method_6_code 3 = .ok (.istore_n 3, 1) := by decide +kernel
theorem d_Parts_cutLayers_4 : decode prog_7_method_6_code 4 = .ok (.iload_n 3, 1) := by decide +kernel
theorem d_Parts_cutLayers_5 : decode prog_7_method_6_code 5 = .ok (.aload_n 0, 1) := by decide +kernel
theorem d_Parts_cutLayers_6 : decode prog_7_method_6_code 6 = .ok (.getfield 31, 3) := by decide +kernel
theorem d_Parts_cutLayers_9 : decode prog_7_method_6_code 9 = .ok (.getfield 35, 3) := by decide +kernel
theorem d_Parts_cutLayers_12 : decode prog_7_method_6_code 12 = .ok (.if_icmp .ge 46, 3) := by decide +kernel
theorem d_Parts_cutLayers_15 : decode prog_7_method_6_code 15 = .ok (.iload_n 2, 1) := by decide +kernel
theorem d_Parts_cutLayers_16 : decode prog_7_method_6_code 16 = .ok (.ifCond .eq 42, 3) := by decide +kernel
theorem d_Parts_cutLayers_19 : decode prog_7_method_6_code 19 = .ok (.aload_n 0, 1) := by decide +kernel
theorem d_Parts_cutLayers_20 : decode prog_7_method_6_code 20 = .ok (.getfield 31, 3) := by decide +kernel
theorem d_Parts_cutLayers_23 : decode prog_7_method_6_code 23 = .ok (.iload_n 2, 1) := by decide +kernel
theorem d_Parts_cutLayers_24 : decode prog_7_method_6_code 24 = .ok (.aload_n 0, 1) := by decide +kernel
theorem d_Parts_cutLayers_25 : decode prog_7_method_6_code 25 = .ok (.getfield 31, 3) := by decide +kernel
theorem d_Parts_cutLayers_28 : decode prog_7_method_6_code 28 = .ok (.getfield 84, 3) := by decide +kernel
theorem d_Parts_cutLayers_31 : decode prog_7_method_6_code 31 = .ok (.invokevirtual 87, 3) := by decide +kernel
theorem d_Parts_cutLayers_34 : decode prog_7_method_6_code 34 = .ok (.istore 4, 2) := by decide +kernel
theorem d_Parts_cutLayers_36 : decode prog_7_method_6_code 36 = .ok (.aload_n 0, 1) := by decide +kernel
theorem d_Parts_cutLayers_37 : decode prog_7_method_6_code 37 = .ok (.iload 4, 2) := by decide +kernel
theorem d_Parts_cutLayers_39 : decode prog_7_method_6_code 39 = .ok (.invokestatic 76, 3) := by decide +kernel
theorem d_Parts_cutLayers_42 : decode prog_7_method_6_code 42 = .ok (.invokevirtual 81, 3) := by decide +kernel
theorem d_Parts_cutLayers_45 : decode prog_7_method_6_code 45 = .ok (.iload_n 2, 1) := by decide +kernel
theorem d_Parts_cutLayers_46 : decode prog_7_method_6_code 46 = .ok (.iload 4, 2) := by decide +kernel
theorem d_Parts_cutLayers_48 : decode prog_7_method_6_code 48 = .ok (.iconst (-1), 1) := by decide +kernel
theorem d_Parts_cutLayers_49 : decode prog_7_method_6_code 49 = .ok (.ixor, 1) := by decide +kernel
theorem d_Parts_cutLayers_50 : decode prog_7_method_6_code 50 = .ok (.iand, 1) := by decide +kernel
theorem d_Parts_cutLayers_51 : decode prog_7_method_6_code 51 = .ok (.istore_n 2, 1) := by decide +kernel
theorem d_Parts_cutLayers_52 : decode prog_7_method_6_code 52 = .ok (.iinc 3 1, 3) := by decide +kernel
theorem d_Parts_cutLayers_55 : decode prog_7_method_6_code 55 = .ok (.goto (-51), 3) := by decide +kernel
theorem d_Parts_cutLayers_58 : decode prog_7_method_6_code 58 = .ok (.return_, 1) := by decide +kernel
noncomputable def f_Parts_cutLayers (a0 : Int32) (M : oz_M) : Option (Unit × oz_M) := (oz_lp (fun (s1 : Int32 × Int32 × oz_M) => (if s1.2.1 < (s1.2.2.1 6 0) then (if s1.1 = 0 then (some (.inr (s1.1, s1.2.1, s1.2.2))) else ((f_Order_ends s1.1 7 s1.2.2).bind fun v2 => (f_Integer_bitCount v2 s1.2.2).bind fun v3 => oz_b2 (f_Parts_addPart v3 s1.2.2) fun v4 M5 => some (.inl (s1.1 &&& (v2 ^^^ (-1)), s1.2.1 + 1, M5)))) else (some (.inr (s1.1, s1.2.1, s1.2.2))) : Option ((Int32 × Int32 × oz_M) ⊕ (Int32 × Int32 × oz_M)))) (a0, 0, M)).bind fun (y8 : Int32 × Int32 × oz_M) => some ((), y8.2.2)
set_option maxRecDepth 20000 in
set_option maxHeartbeats 4000000 in
theorem c_Parts_cutLayers {l : Launch} {D : va_G} {cs : Nat → ClassId} {b : Nat} {a0 : Int32} {M : oz_M} {vz : Unit} {Mz : oz_M} (hF : f_Parts_cutLayers a0 M = some (vz, Mz)) : oz_Met l D cs b y_Parts_cutLayers prog_7_method_6_code 5 none (oz_rm 2) [.ref (b + 56), .int a0] M (none) Mz := by
  refine oz_enter (by decide) (Nat.le_of_ble_eq_true rfl) (fun G cx hR e1 hRm e2 e3 e4 hnL => ?_)
  subst e1; subst e2; subst e3; subst e4
  refine (?_ : oz_R G 0 [(0, .ref (oz_b G + 56)), (1, .int a0)] [] M (f_Parts_cutLayers a0 M) (fun x => x = (vz, Mz))) _ hF rfl
  unfold f_Parts_cutLayers
  refine oz_iload_n (q := 1) cx d_Parts_cutLayers_0 rfl rfl 1 rfl ?_
  refine oz_istore_n (q := 2) cx d_Parts_cutLayers_1 rfl rfl (by rw [hnL]; decide) (lv2 := [(2, .int a0), (0, .ref (oz_b G + 56)), (1, .int a0)]) rfl ?_
  refine oz_iconst (q := 3) cx d_Parts_cutLayers_2 rfl (v := 0) rfl ?_
  refine oz_istore_n (q := 4) cx d_Parts_cutLayers_3 rfl rfl (by rw [hnL]; decide) (lv2 := [(3, .int 0), (2, .int a0), (0, .ref (oz_b G + 56)), (1, .int a0)]) rfl ?_
  refine oz_lv [2, 1, 0] rfl ?_
  refine oz_seq (p2 := 58) (lv2 := fun (y8 : Int32 × Int32 × oz_M) => []) (st2 := fun y8 => []) (M2 := fun y8 => y8.2.2) ?_ (fun y8 => ?_)
  · refine oz_loop (Y := Int32 × Int32 × oz_M) 4 (fun (s1 : Int32 × Int32 × oz_M) => [(0, .ref (oz_b G + 56)), (2, .int s1.1), (3, .int s1.2.1)]) (fun (s1 : Int32 × Int32 × oz_M) => s1.2.2) (a0, 0, M) (fun s1 => ?_)
    refine oz_iload_n (q := 5) cx d_Parts_cutLayers_4 rfl rfl 2 rfl ?_
    refine oz_aload_n (q := 6) cx d_Parts_cutLayers_5 rfl rfl 0 rfl ?_
    refine oz_get (q := 9) cx 56 0 (by decide) (ci := 7) rfl rfl tin_Parts (by decide) rfl rfl tw_206 d_Parts_cutLayers_6 rfl ?_
    refine oz_get (q := 12) cx 6 0 (by decide) (ci := 3) rfl rfl tin_Order (by decide) rfl rfl tw_70 d_Parts_cutLayers_9 rfl ?_
    refine oz_icmp_ge (q := 15) cx d_Parts_cutLayers_12 rfl rfl (fun h7 => ?_) (fun h7 => ?_)
    · exact oz_lv [] rfl (oz_leaf (fun h => h))
    · refine oz_iload_n (q := 16) cx d_Parts_cutLayers_15 rfl rfl 1 rfl ?_
      refine oz_if_eq (q := 19) cx d_Parts_cutLayers_16 rfl rfl (fun h6 => ?_) (fun h6 => ?_)
      · exact oz_lv [] rfl (oz_leaf (fun h => h))
      · refine oz_aload_n (q := 20) cx d_Parts_cutLayers_19 rfl rfl 0 rfl ?_
        refine oz_get (q := 23) cx 56 0 (by decide) (ci := 7) rfl rfl tin_Parts (by decide) rfl rfl tw_206 d_Parts_cutLayers_20 rfl ?_
        refine oz_iload_n (q := 24) cx d_Parts_cutLayers_23 rfl rfl 1 rfl ?_
        refine oz_aload_n (q := 25) cx d_Parts_cutLayers_24 rfl rfl 0 rfl ?_
        refine oz_get (q := 28) cx 56 0 (by decide) (ci := 7) rfl rfl tin_Parts (by decide) rfl rfl tw_206 d_Parts_cutLayers_25 rfl ?_
        refine oz_get (q := 31) cx 6 1 (by decide) (ci := 3) rfl rfl tin_Order (by decide) rfl rfl tw_80 d_Parts_cutLayers_28 rfl ?_
        refine oz_cVip (q := 34) cx 6 [.int s1.1, .ref (oz_b G + 7)] 2 3 hRm (by decide) (by decide) (fun _ h => c_Order_ends ⟨by decide, fun _ _ _ _ => rfl⟩ h) ⟨tw_770, tw_518, tw_519, tw_4⟩ tw_520 (by decide +kernel) rfl (by decide) rfl rfl (st := []) rfl (Nat.le_of_ble_eq_true rfl) d_Parts_cutLayers_31 rfl (fun v2 hv2 => ?_)
        refine oz_istore (q := 36) cx d_Parts_cutLayers_34 rfl (by rw [hnL]; decide) (lv2 := [(4, .int v2), (0, .ref (oz_b G + 56)), (2, .int s1.1), (3, .int s1.2.1)]) rfl ?_
        refine oz_aload_n (q := 37) cx d_Parts_cutLayers_36 rfl rfl 1 rfl ?_
        refine oz_iload (q := 39) cx d_Parts_cutLayers_37 rfl 0 rfl ?_
        refine oz_cSip (q := 42) cx [.int v2] 1 hRm (by decide) (by decide) (fun _ h => c_Integer_bitCount h) ⟨tw_771, tw_309, tw_15⟩ tw_310 (by decide +kernel) rfl (st := [.ref (oz_b G + 56)]) rfl (Nat.le_of_ble_eq_true rfl) d_Parts_cutLayers_39 rfl (fun v3 hv3 => ?_)
        refine oz_cVv (q := 45) cx 56 [.int v3] 1 7 hRm (by decide) (by decide) (fun _ _ h => c_Parts_addPart h) ⟨tw_762, tw_764, ts_27, tw_8⟩ tw_765 (by decide +kernel) rfl (by decide) rfl rfl (st := []) rfl (Nat.le_of_ble_eq_true rfl) d_Parts_cutLayers_42 rfl (fun v4 M5 hv4 => ?_)
        refine oz_iload_n (q := 46) cx d_Parts_cutLayers_45 rfl rfl 2 rfl ?_
        refine oz_iload (q := 48) cx d_Parts_cutLayers_46 rfl 0 rfl ?_
        refine oz_iconst (q := 49) cx d_Parts_cutLayers_48 rfl (v := (-1)) rfl ?_
        refine oz_ixor (q := 50) cx d_Parts_cutLayers_49 rfl ?_
        refine oz_iand (q := 51) cx d_Parts_cutLayers_50 rfl ?_
        refine oz_istore_n (q := 52) cx d_Parts_cutLayers_51 rfl rfl (by rw [hnL]; decide) (lv2 := [(2, .int (s1.1 &&& (v2 ^^^ (-1)))), (4, .int v2), (0, .ref (oz_b G + 56)), (3, .int s1.2.1)]) rfl ?_
        refine oz_iinc (q := 55) cx (s1.2.1 + 1) d_Parts_cutLayers_52 rfl 3 rfl rfl (by rw [hnL]; decide) (lv2 := [(3, .int (s1.2.1 + 1)), (2, .int (s1.1 &&& (v2 ^^^ (-1)))), (4, .int v2), (0, .ref (oz_b G + 56))]) rfl ?_
        refine oz_goto cx d_Parts_cutLayers_55 rfl ?_
        exact oz_lv [3, 1, 0] rfl (oz_leaf (fun h => h))
  · exact oz_vret cx hR d_Parts_cutLayers_58
def y_Parts_linkChains : MethodName := ⟨"OrderHall$Parts", "linkChains", "(I)V"⟩
theorem d_Parts_linkChains_0 : decode prog_7_method_9_code 0 = .ok (.iconst 0, 1) := by decide +kernel
theorem d_Parts_linkChains_1 : decode prog_7_method_9_code 1 = .ok (.istore_n 2, 1) := by decide +kernel
theorem d_Parts_linkChains_2 : decode prog_7_method_9_code 2 = .ok (.iload_n 2, 1) := by decide +kernel
theorem d_Parts_linkChains_3 : decode prog_7_method_9_code 3 = .ok (.aload_n 0, 1) := by decide +kernel
theorem d_Parts_linkChains_4 : decode prog_7_method_9_code 4 = .ok (.getfield 31, 3) := by decide +kernel
theorem d_Parts_linkChains_7 : decode prog_7_method_9_code 7 = .ok (.getfield 35, 3) := by decide +kernel
theorem d_Parts_linkChains_10 : decode prog_7_method_9_code 10 = .ok (.if_icmp .ge 23, 3) := by decide +kernel
theorem d_Parts_linkChains_13 : decode prog_7_method_9_code 13 = .ok (.aload_n 0, 1) := by decide +kernel
theorem d_Parts_linkChains_14 : decode prog_7_method_9_code 14 = .ok (.getfield 19, 3) := by decide +kernel
theorem d_Parts_linkChains_17 : decode prog_7_method_9_code 17 = .ok (.iload_n 2, 1) := by decide +kernel
theorem d_Parts_linkChains_18 : decode prog_7_method_9_code 18 = .ok (.iconst (-1), 1) := by decide +kernel
theorem d_Parts_linkChains_19 : decode prog_7_method_9_code 19 = .ok (.iastore, 1) := by decide +kernel
theorem d_Parts_linkChains_20 : decode prog_7_method_9_code 20 = .ok (.aload_n 0, 1) := by decide +kernel
theorem d_Parts_linkChains_21 : decode prog_7_method_9_code 21 = .ok (.getfield 22, 3) := by decide +kernel
theorem d_Parts_linkChains_24 : decode prog_7_method_9_code 24 = .ok (.iload_n 2, 1) := by decide +kernel
theorem d_Parts_linkChains_25 : decode prog_7_method_9_code 25 = .ok (.iconst (-1), 1) := by decide +kernel
theorem d_Parts_linkChains_26 : decode prog_7_method_9_code 26 = .ok (.iastore, 1) := by decide +kernel
theorem d_Parts_linkChains_27 : decode prog_7_method_9_code 27 = .ok (.iinc 2 1, 3) := by decide +kernel
theorem d_Parts_linkChains_30 : decode prog_7_method_9_code 30 = .ok (.goto (-28), 3) := by decide +kernel
theorem d_Parts_linkChains_33 : decode prog_7_method_9_code 33 = .ok (.iconst 0, 1) := by decide +kernel
theorem d_Parts_linkChains_34 : decode prog_7_method_9_code 34 = .ok (.istore_n 2, 1) := by decide +kernel
theorem d_Parts_linkChains_35 : decode prog_7_method_9_code 35 = .ok (.iload_n 2, 1) := by decide +kernel
theorem d_Parts_linkChains_36 : decode prog_7_method_9_code 36 = .ok (.aload_n 0, 1) := by decide +kernel
theorem d_Parts_linkChains_37 : decode prog_7_method_9_code 37 = .ok (.getfield 31, 3) := by decide +kernel
theorem d_Parts_linkChains_40 : decode prog_7_method_9_code 40 = .ok (.getfield 35, 3) := by decide +kernel
theorem d_Parts_linkChains_43 : decode prog_7_method_9_code 43 = .ok (.if_icmp .ge 23, 3) := by decide +kernel
theorem d_Parts_linkChains_46 : decode prog_7_method_9_code 46 = .ok (.iload_n 1, 1) := by decide +kernel
theorem d_Parts_linkChains_47 : decode prog_7_method_9_code 47 = .ok (.iload_n 2, 1) := by decide +kernel
theorem d_Parts_linkChains_48 : decode prog_7_method_9_code 48 = .ok (.invokestatic 91, 3) := by decide +kernel
theorem d_Parts_linkChains_51 : decode prog_7_method_9_code 51 = .ok (.ifCond .eq 9, 3) := by decide +kernel
theorem d_Parts_linkChains_54 : decode prog_7_method_9_code 54 = .ok (.aload_n 0, 1) := by decide +kernel
theorem d_Parts_linkChains_55 : decode prog_7_method_9_code 55 = .ok (.iload_n 2, 1) := by decide +kernel
theorem d_Parts_linkChains_56 : decode prog_7_method_9_code 56 = .ok (.iload_n 1, 1) := by decide +kernel
theorem d_Parts_linkChains_57 : decode prog_7_method_9_code 57 = .ok (.invokevirtual 98, 3) := by decide +kernel
theorem d_Parts_linkChains_60 : decode prog_7_method_9_code 60 = .ok (.iinc 2 1, 3) := by decide +kernel
theorem d_Parts_linkChains_63 : decode prog_7_method_9_code 63 = .ok (.goto (-28), 3) := by decide +kernel
theorem d_Parts_linkChains_66 : decode prog_7_method_9_code 66 = .ok (.return_, 1) := by decide +kernel
noncomputable def f_Parts_linkChains (a0 : Int32) (M : oz_M) : Option (Unit × oz_M) := (oz_lp (fun (s1 : Int32 × oz_M) => (if s1.1 < (s1.2.1 6 0) then ((oz_in s1.1 14).bind fun j2 => (some (oz_s s1.2 58 j2 (-1))).bind fun M3 => (oz_in s1.1 14).bind fun j4 => (some (oz_s M3 59 j4 (-1))).bind fun M5 => some (.inl (s1.1 + 1, M5))) else (some (.inr (s1.1, s1.2))) : Option ((Int32 × oz_M) ⊕ (Int32 × oz_M)))) (0, M)).bind fun (y7 : Int32 × oz_M) => (oz_lp (fun (s8 : Int32 × oz_M) => (if s8.1 < (s8.2.1 6 0) then ((f_Hall_has a0 s8.1 s8.2).bind fun v9 => if v9 = 0 then (some (.inl (s8.1 + 1, s8.2))) else (oz_b2 (f_Parts_linkOn s8.1 a0 s8.2) fun v10 M11 => some (.inl (s8.1 + 1, M11)))) else (some (.inr (s8.1, s8.2))) : Option ((Int32 × oz_M) ⊕ (Int32 × oz_M)))) (0, y7.2)).bind fun (y14 : Int32 × oz_M) => some ((), y14.2)
set_option maxRecDepth 20000 in
set_option maxHeartbeats 4000000 in
theorem c_Parts_linkChains {l : Launch} {D : va_G} {cs : Nat → ClassId} {b : Nat} {a0 : Int32} {M : oz_M} {vz : Unit} {Mz : oz_M} (hF : f_Parts_linkChains a0 M = some (vz, Mz)) : oz_Met l D cs b y_Parts_linkChains prog_7_method_9_code 3 none (oz_rm 2) [.ref (b + 56), .int a0] M (none) Mz := by
  refine oz_enter (by decide) (Nat.le_of_ble_eq_true rfl) (fun G cx hR e1 hRm e2 e3 e4 hnL => ?_)
  subst e1; subst e2; subst e3; subst e4
  refine (?_ : oz_R G 0 [(0, .ref (oz_b G + 56)), (1, .int a0)] [] M (f_Parts_linkChains a0 M) (fun x => x = (vz, Mz))) _ hF rfl
  unfold f_Parts_linkChains
  refine oz_iconst (q := 1) cx d_Parts_linkChains_0 rfl (v := 0) rfl ?_
  refine oz_istore_n (q := 2) cx d_Parts_linkChains_1 rfl rfl (by rw [hnL]; decide) (lv2 := [(2, .int 0), (0, .ref (oz_b G + 56)), (1, .int a0)]) rfl ?_
  refine oz_lv [1, 2, 0] rfl ?_
  refine oz_seq (p2 := 33) (lv2 := fun (y7 : Int32 × oz_M) => [(0, .ref (oz_b G + 56)), (1, .int a0)]) (st2 := fun y7 => []) (M2 := fun y7 => y7.2) ?_ (fun y7 => ?_)
  · refine oz_loop (Y := Int32 × oz_M) 2 (fun (s1 : Int32 × oz_M) => [(0, .ref (oz_b G + 56)), (1, .int a0), (2, .int s1.1)]) (fun (s1 : Int32 × oz_M) => s1.2) (0, M) (fun s1 => ?_)
    refine oz_iload_n (q := 3) cx d_Parts_linkChains_2 rfl rfl 2 rfl ?_
    refine oz_aload_n (q := 4) cx d_Parts_linkChains_3 rfl rfl 0 rfl ?_
    refine oz_get (q := 7) cx 56 0 (by decide) (ci := 7) rfl rfl tin_Parts (by decide) rfl rfl tw_206 d_Parts_linkChains_4 rfl ?_
    refine oz_get (q := 10) cx 6 0 (by decide) (ci := 3) rfl rfl tin_Order (by decide) rfl rfl tw_70 d_Parts_linkChains_7 rfl ?_
    refine oz_icmp_ge (q := 13) cx d_Parts_linkChains_10 rfl rfl (fun h6 => ?_) (fun h6 => ?_)
    · exact oz_lv [0, 1] rfl (oz_leaf (fun h => h))
    · refine oz_aload_n (q := 14) cx d_Parts_linkChains_13 rfl rfl 0 rfl ?_
      refine oz_get (q := 17) cx 56 3 (by decide) (ci := 7) rfl rfl tin_Parts (by decide) rfl rfl tw_209 d_Parts_linkChains_14 rfl ?_
      refine oz_iload_n (q := 18) cx d_Parts_linkChains_17 rfl rfl 2 rfl ?_
      refine oz_iconst (q := 19) cx d_Parts_linkChains_18 rfl (v := (-1)) rfl ?_
      refine oz_iast (q := 20) cx 58 14 (by decide) (fun _ => rfl) d_Parts_linkChains_19 rfl (fun j2 hj2 => ?_)
      refine oz_nm (fun M3 hM3 => ?_)
      refine oz_aload_n (q := 21) cx d_Parts_linkChains_20 rfl rfl 0 rfl ?_
      refine oz_get (q := 24) cx 56 4 (by decide) (ci := 7) rfl rfl tin_Parts (by decide) rfl rfl tw_210 d_Parts_linkChains_21 rfl ?_
      refine oz_iload_n (q := 25) cx d_Parts_linkChains_24 rfl rfl 2 rfl ?_
      refine oz_iconst (q := 26) cx d_Parts_linkChains_25 rfl (v := (-1)) rfl ?_
      refine oz_iast (q := 27) cx 59 14 (by decide) (fun _ => rfl) d_Parts_linkChains_26 rfl (fun j4 hj4 => ?_)
      refine oz_nm (fun M5 hM5 => ?_)
      refine oz_iinc (q := 30) cx (s1.1 + 1) d_Parts_linkChains_27 rfl 2 rfl rfl (by rw [hnL]; decide) (lv2 := [(2, .int (s1.1 + 1)), (0, .ref (oz_b G + 56)), (1, .int a0)]) rfl ?_
      refine oz_goto cx d_Parts_linkChains_30 rfl ?_
      exact oz_lv [1, 2, 0] rfl (oz_leaf (fun h => h))
  · refine oz_iconst (q := 34) cx d_Parts_linkChains_33 rfl (v := 0) rfl ?_
    refine oz_istore_n (q := 35) cx d_Parts_linkChains_34 rfl rfl (by rw [hnL]; decide) (lv2 := [(2, .int 0), (0, .ref (oz_b G + 56)), (1, .int a0)]) rfl ?_
    refine oz_lv [1, 2, 0] rfl ?_
    refine oz_seq (p2 := 66) (lv2 := fun (y14 : Int32 × oz_M) => []) (st2 := fun y14 => []) (M2 := fun y14 => y14.2) ?_ (fun y14 => ?_)
    · refine oz_loop (Y := Int32 × oz_M) 35 (fun (s8 : Int32 × oz_M) => [(0, .ref (oz_b G + 56)), (1, .int a0), (2, .int s8.1)]) (fun (s8 : Int32 × oz_M) => s8.2) (0, y7.2) (fun s8 => ?_)
      refine oz_iload_n (q := 36) cx d_Parts_linkChains_35 rfl rfl 2 rfl ?_
      refine oz_aload_n (q := 37) cx d_Parts_linkChains_36 rfl rfl 0 rfl ?_
      refine oz_get (q := 40) cx 56 0 (by decide) (ci := 7) rfl rfl tin_Parts (by decide) rfl rfl tw_206 d_Parts_linkChains_37 rfl ?_
      refine oz_get (q := 43) cx 6 0 (by decide) (ci := 3) rfl rfl tin_Order (by decide) rfl rfl tw_70 d_Parts_linkChains_40 rfl ?_
      refine oz_icmp_ge (q := 46) cx d_Parts_linkChains_43 rfl rfl (fun h13 => ?_) (fun h13 => ?_)
      · exact oz_lv [] rfl (oz_leaf (fun h => h))
      · refine oz_iload_n (q := 47) cx d_Parts_linkChains_46 rfl rfl 1 rfl ?_
        refine oz_iload_n (q := 48) cx d_Parts_linkChains_47 rfl rfl 2 rfl ?_
        refine oz_cSNip (q := 51) cx [.int a0, .int s8.1] 2 hRm (by decide) (by decide) (fun _ h => c_Hall_has h) tn_745 ⟨tw_274, tw_1⟩ tw_275 (by decide +kernel) rfl (st := []) rfl (Nat.le_of_ble_eq_true rfl) d_Parts_linkChains_48 rfl (fun v9 hv9 => ?_)
        refine oz_if_eq (q := 54) cx d_Parts_linkChains_51 rfl rfl (fun h12 => ?_) (fun h12 => ?_)
        · refine oz_iinc (q := 63) cx (s8.1 + 1) d_Parts_linkChains_60 rfl 2 rfl rfl (by rw [hnL]; decide) (lv2 := [(2, .int (s8.1 + 1)), (0, .ref (oz_b G + 56)), (1, .int a0)]) rfl ?_
          refine oz_goto cx d_Parts_linkChains_63 rfl ?_
          exact oz_lv [1, 2, 0] rfl (oz_leaf (fun h => h))
        · refine oz_aload_n (q := 55) cx d_Parts_linkChains_54 rfl rfl 0 rfl ?_
          refine oz_iload_n (q := 56) cx d_Parts_linkChains_55 rfl rfl 2 rfl ?_
          refine oz_iload_n (q := 57) cx d_Parts_linkChains_56 rfl rfl 1 rfl ?_
          refine oz_cVv (q := 60) cx 56 [.int s8.1, .int a0] 2 7 hRm (by decide) (by decide) (fun _ _ h => c_Parts_linkOn h) ⟨tw_746, tw_748, ts_23, tw_8⟩ tw_749 (by decide +kernel) rfl (by decide) rfl rfl (st := []) rfl (Nat.le_of_ble_eq_true rfl) d_Parts_linkChains_57 rfl (fun v10 M11 hv10 => ?_)
          refine oz_iinc (q := 63) cx (s8.1 + 1) d_Parts_linkChains_60 rfl 2 rfl rfl (by rw [hnL]; decide) (lv2 := [(2, .int (s8.1 + 1)), (0, .ref (oz_b G + 56)), (1, .int a0)]) rfl ?_
          refine oz_goto cx d_Parts_linkChains_63 rfl ?_
          exact oz_lv [1, 2, 0] rfl (oz_leaf (fun h => h))
    · exact oz_vret cx hR d_Parts_linkChains_66
def y_Ring_write : MethodName := ⟨"OrderHall$Ring", "write", "(LOrderHall$Arcs;I)V"⟩
theorem d_Ring_write_0 : decode prog_8_method_4_code 0 = .ok (.aload_n 0, 1) := by decide +kernel
theorem d_Ring_write_1 : decode prog_8_method_4_code 1 = .ok (.aload_n 1, 1) := by decide +kernel
theorem d_Ring_write_2 : decode prog_8_method_4_code 2 = .ok (.iload_n 2, 1) := by decide +kernel
theorem d_Ring_write_3 : decode prog_8_method_4_code 3 = .ok (.aload_n 0, 1) := by decide +kernel
theorem d_Ring_write_4 : decode prog_8_method_4_code 4 = .ok (.getfield 9, 3) := by decide +kernel
theorem d_Ring_write_7 : decode prog_8_method_4_code 7 = .ok (.invokevirtual 27, 3) := by decide +kernel
theorem d_Ring_write_10 : decode prog_8_method_4_code 10 = .ok (.pop, 1) := by decide +kernel
theorem d_Ring_write_11 : decode prog_8_method_4_code 11 = .ok (.iload_n 2, 1) := by decide +kernel
theorem d_Ring_write_12 : decode prog_8_method_4_code 12 = .ok (.istore_n 3, 1) := by decide +kernel
theorem d_Ring_write_13 : decode prog_8_method_4_code 13 = .ok (.iconst 0, 1) := by decide +kernel
theorem d_Ring_write_14 : decode prog_8_method_4_code 14 = .ok (.istore 4, 2) := by decide +kernel
theorem d_Ring_write_16 : decode prog_8_method_4_code 16 = .ok (.iload 4, 2) := by decide +kernel
theorem d_Ring_write_18 : decode prog_8_method_4_code 18 = .ok (.aload_n 0, 1) := by decide +kernel
theorem d_Ring_write_19 : decode prog_8_method_4_code 19 = .ok (.getfield 9, 3) := by decide +kernel
theorem d_Ring_write_22 : decode prog_8_method_4_code 22 = .ok (.if_icmp .ge 42, 3) := by decide +kernel
theorem d_Ring_write_25 : decode prog_8_method_4_code 25 = .ok (.aload_n 0, 1) := by decide +kernel
theorem d_Ring_write_26 : decode prog_8_method_4_code 26 = .ok (.getfield 15, 3) := by decide +kernel
theorem d_Ring_write_29 : decode prog_8_method_4_code 29 = .ok (.iload 4, 2) := by decide +kernel
theorem d_Ring_write_31 : decode prog_8_method_4_code 31 = .ok (.iload_n 3, 1) := by decide +kernel
theorem d_Ring_write_32 : decode prog_8_method_4_code 32 = .ok (.iastore, 1) := by decide +kernel
theorem d_Ring_write_33 : decode prog_8_method_4_code 33 = .ok (.aload_n 1, 1) := by decide +kernel
theorem d_Ring_write_34 : decode prog_8_method_4_code 34 = .ok (.getfield 43, 3) := by decide +kernel
theorem d_Ring_write_37 : decode prog_8_method_4_code 37 = .ok (.iload_n 3, 1) := by decide +kernel
theorem d_Ring_write_38 : decode prog_8_method_4_code 38 = .ok (.iaload, 1) := by decide +kernel
theorem d_Ring_write_39 : decode prog_8_method_4_code 39 = .ok (.aload_n 0, 1) := by decide +kernel
theorem d_Ring_write_40 : decode prog_8_method_4_code 40 = .ok (.getfield 19, 3) := by decide +kernel
theorem d_Ring_write_43 : decode prog_8_method_4_code 43 = .ok (.aload_n 0, 1) := by decide +kernel
theorem d_Ring_write_44 : decode prog_8_method_4_code 44 = .ok (.getfield 9, 3) := by decide +kernel
theorem d_Ring_write_47 : decode prog_8_method_4_code 47 = .ok (.iconst 1, 1) := by decide +kernel
theorem d_Ring_write_48 : decode prog_8_method_4_code 48 = .ok (.isub, 1) := by decide +kernel
theorem d_Ring_write_49 : decode prog_8_method_4_code 49 = .ok (.iload 4, 2) := by decide +kernel
theorem d_Ring_write_51 : decode prog_8_method_4_code 51 = .ok (.isub, 1) := by decide +kernel
theorem d_Ring_write_52 : decode prog_8_method_4_code 52 = .ok (.iaload, 1) := by decide +kernel
theorem d_Ring_write_53 : decode prog_8_method_4_code 53 = .ok (.iand, 1) := by decide +kernel
theorem d_Ring_write_54 : decode prog_8_method_4_code 54 = .ok (.invokestatic 46, 3) := by decide +kernel
theorem d_Ring_write_57 : decode prog_8_method_4_code 57 = .ok (.istore_n 3, 1) := by decide +kernel
theorem d_Ring_write_58 : decode prog_8_method_4_code 58 = .ok (.iinc 4 1, 3) := by decide +kernel
theorem d_Ring_write_61 : decode prog_8_method_4_code 61 = .ok (.goto (-45), 3) := by decide +kernel
theorem d_Ring_write_64 : decode prog_8_method_4_code 64 = .ok (.return_, 1) := by decide +kernel
noncomputable def f_Ring_write (a1 : Int32) (M : oz_M) : Option (Unit × oz_M) := oz_b2 (f_Ring_stepsRound a1 (M.1 3 0) M) fun v1 M2 => (oz_lp (fun (s3 : Int32 × Int32 × oz_M) => (if s3.2.1 < (s3.2.2.1 3 0) then ((oz_in s3.2.1 14).bind fun j4 => (some (oz_s s3.2.2 4 j4 s3.1)).bind fun M5 => (oz_in s3.1 14).bind fun j6 => (oz_in (((M5.1 3 0) - 1) - s3.2.1) 15).bind fun j7 => (f_Ring_least ((M5.1 2 j6) &&& (M5.1 5 j7)) M5).bind fun v8 => some (.inl (v8, s3.2.1 + 1, M5))) else (some (.inr (s3.1, s3.2.1, s3.2.2))) : Option ((Int32 × Int32 × oz_M) ⊕ (Int32 × Int32 × oz_M)))) (a1, 0, M2)).bind fun (y10 : Int32 × Int32 × oz_M) => some ((), y10.2.2)
set_option maxRecDepth 20000 in
set_option maxHeartbeats 4000000 in
theorem c_Ring_write {l : Launch} {D : va_G} {cs : Nat → ClassId} {b : Nat} {a1 : Int32} {M : oz_M} {vz : Unit} {Mz : oz_M} (hF : f_Ring_write a1 M = some (vz, Mz)) : oz_Met l D cs b y_Ring_write prog_8_method_4_code 5 none (oz_rm 2) [.ref (b + 3), .ref (b + 1), .int a1] M (none) Mz := by
  refine oz_enter (by decide) (Nat.le_of_ble_eq_true rfl) (fun G cx hR e1 hRm e2 e3 e4 hnL => ?_)
  subst e1; subst e2; subst e3; subst e4
  refine (?_ : oz_R G 0 [(0, .ref (oz_b G + 3)), (1, .ref (oz_b G + 1)), (2, .int a1)] [] M (f_Ring_write a1 M) (fun x => x = (vz, Mz))) _ hF rfl
  unfold f_Ring_write
  refine oz_aload_n (q := 1) cx d_Ring_write_0 rfl rfl 0 rfl ?_
  refine oz_aload_n (q := 2) cx d_Ring_write_1 rfl rfl 1 rfl ?_
  refine oz_iload_n (q := 3) cx d_Ring_write_2 rfl rfl 2 rfl ?_
  refine oz_aload_n (q := 4) cx d_Ring_write_3 rfl rfl 0 rfl ?_
  refine oz_get (q := 7) cx 3 0 (by decide) (ci := 2) rfl rfl tin_Ring (by decide) rfl rfl tw_51 d_Ring_write_4 rfl ?_
  refine oz_cVi (q := 10) cx 3 [.ref (oz_b G + 1), .int a1, .int (M.1 3 0)] 3 2 hRm (by decide) (by decide) (fun _ _ h => c_Ring_stepsRound h) ⟨tw_265, tw_267, ts_1, tw_3⟩ tw_268 (by decide +kernel) rfl (by decide) rfl rfl (st := []) rfl (Nat.le_of_ble_eq_true rfl) d_Ring_write_7 rfl (fun v1 M2 hv1 => ?_)
  refine oz_pop (q := 11) cx d_Ring_write_10 rfl rfl ?_
  refine oz_iload_n (q := 12) cx d_Ring_write_11 rfl rfl 2 rfl ?_
  refine oz_istore_n (q := 13) cx d_Ring_write_12 rfl rfl (by rw [hnL]; decide) (lv2 := [(3, .int a1), (0, .ref (oz_b G + 3)), (1, .ref (oz_b G + 1)), (2, .int a1)]) rfl ?_
  refine oz_iconst (q := 14) cx d_Ring_write_13 rfl (v := 0) rfl ?_
  refine oz_istore (q := 16) cx d_Ring_write_14 rfl (by rw [hnL]; decide) (lv2 := [(4, .int 0), (3, .int a1), (0, .ref (oz_b G + 3)), (1, .ref (oz_b G + 1)), (2, .int a1)]) rfl ?_
  refine oz_lv [2, 3, 1, 0] rfl ?_
  refine oz_seq (p2 := 64) (lv2 := fun (y10 : Int32 × Int32 × oz_M) => []) (st2 := fun y10 => []) (M2 := fun y10 => y10.2.2) ?_ (fun y10 => ?_)
  · refine oz_loop (Y := Int32 × Int32 × oz_M) 16 (fun (s3 : Int32 × Int32 × oz_M) => [(0, .ref (oz_b G + 3)), (1, .ref (oz_b G + 1)), (3, .int s3.1), (4, .int s3.2.1)]) (fun (s3 : Int32 × Int32 × oz_M) => s3.2.2) (a1, 0, M2) (fun s3 => ?_)
    refine oz_iload (q := 18) cx d_Ring_write_16 rfl 3 rfl ?_
    refine oz_aload_n (q := 19) cx d_Ring_write_18 rfl rfl 0 rfl ?_
    refine oz_get (q := 22) cx 3 0 (by decide) (ci := 2) rfl rfl tin_Ring (by decide) rfl rfl tw_51 d_Ring_write_19 rfl ?_
    refine oz_icmp_ge (q := 25) cx d_Ring_write_22 rfl rfl (fun h9 => ?_) (fun h9 => ?_)
    · exact oz_lv [] rfl (oz_leaf (fun h => h))
    · refine oz_aload_n (q := 26) cx d_Ring_write_25 rfl rfl 0 rfl ?_
      refine oz_get (q := 29) cx 3 1 (by decide) (ci := 2) rfl rfl tin_Ring (by decide) rfl rfl tw_53 d_Ring_write_26 rfl ?_
      refine oz_iload (q := 31) cx d_Ring_write_29 rfl 3 rfl ?_
      refine oz_iload_n (q := 32) cx d_Ring_write_31 rfl rfl 2 rfl ?_
      refine oz_iast (q := 33) cx 4 14 (by decide) (fun _ => rfl) d_Ring_write_32 rfl (fun j4 hj4 => ?_)
      refine oz_nm (fun M5 hM5 => ?_)
      refine oz_aload_n (q := 34) cx d_Ring_write_33 rfl rfl 1 rfl ?_
      refine oz_get (q := 37) cx 1 1 (by decide) (ci := 1) rfl rfl tin_Arcs (by decide) rfl rfl tw_38 d_Ring_write_34 rfl ?_
      refine oz_iload_n (q := 38) cx d_Ring_write_37 rfl rfl 2 rfl ?_
      refine oz_iald (q := 39) cx 2 14 (by decide) rfl d_Ring_write_38 rfl (fun j6 hj6 => ?_)
      refine oz_aload_n (q := 40) cx d_Ring_write_39 rfl rfl 0 rfl ?_
      refine oz_get (q := 43) cx 3 2 (by decide) (ci := 2) rfl rfl tin_Ring (by decide) rfl rfl tw_55 d_Ring_write_40 rfl ?_
      refine oz_aload_n (q := 44) cx d_Ring_write_43 rfl rfl 0 rfl ?_
      refine oz_get (q := 47) cx 3 0 (by decide) (ci := 2) rfl rfl tin_Ring (by decide) rfl rfl tw_51 d_Ring_write_44 rfl ?_
      refine oz_iconst (q := 48) cx d_Ring_write_47 rfl (v := 1) rfl ?_
      refine oz_isub (q := 49) cx d_Ring_write_48 rfl ?_
      refine oz_iload (q := 51) cx d_Ring_write_49 rfl 3 rfl ?_
      refine oz_isub (q := 52) cx d_Ring_write_51 rfl ?_
      refine oz_iald (q := 53) cx 5 15 (by decide) rfl d_Ring_write_52 rfl (fun j7 hj7 => ?_)
      refine oz_iand (q := 54) cx d_Ring_write_53 rfl ?_
      refine oz_cSip (q := 57) cx [.int ((M5.1 2 j6) &&& (M5.1 5 j7))] 1 hRm (by decide) (by decide) (fun _ h => c_Ring_least h) ⟨tw_280, tw_281, tw_3⟩ tw_282 (by decide +kernel) rfl (st := []) rfl (Nat.le_of_ble_eq_true rfl) d_Ring_write_54 rfl (fun v8 hv8 => ?_)
      refine oz_istore_n (q := 58) cx d_Ring_write_57 rfl rfl (by rw [hnL]; decide) (lv2 := [(3, .int v8), (0, .ref (oz_b G + 3)), (1, .ref (oz_b G + 1)), (4, .int s3.2.1)]) rfl ?_
      refine oz_iinc (q := 61) cx (s3.2.1 + 1) d_Ring_write_58 rfl 3 rfl rfl (by rw [hnL]; decide) (lv2 := [(4, .int (s3.2.1 + 1)), (3, .int v8), (0, .ref (oz_b G + 3)), (1, .ref (oz_b G + 1))]) rfl ?_
      refine oz_goto cx d_Ring_write_61 rfl ?_
      exact oz_lv [2, 3, 1, 0] rfl (oz_leaf (fun h => h))
  · exact oz_vret cx hR d_Ring_write_64
def y_Hall_exchange : MethodName := ⟨"OrderHall", "exchange", "(I)I"⟩
theorem d_Hall_exchange_0 : decode prog_1_method_18_code 0 = .ok (.aload_n 0, 1) := by decide +kernel
theorem d_Hall_exchange_1 : decode prog_1_method_18_code 1 = .ok (.getfield 49, 3) := by decide +kernel
theorem d_Hall_exchange_4 : decode prog_1_method_18_code 4 = .ok (.getfield 175, 3) := by decide +kernel
theorem d_Hall_exchange_7 : decode prog_1_method_18_code 7 = .ok (.ifCond .eq 20, 3) := by decide +kernel
theorem d_Hall_exchange_10 : decode prog_1_method_18_code 10 = .ok (.iload_n 1, 1) := by decide +kernel
theorem d_Hall_exchange_11 : decode prog_1_method_18_code 11 = .ok (.ifCond .lt 16, 3) := by decide +kernel
theorem d_Hall_exchange_14 : decode prog_1_method_18_code 14 = .ok (.iload_n 1, 1) := by decide +kernel
theorem d_Hall_exchange_15 : decode prog_1_method_18_code 15 = .ok (.aload_n 0, 1) := by decide +kernel
theorem d_Hall_exchange_16 : decode prog_1_method_18_code 16 = .ok (.getfield 26, 3) := by decide +kernel
theorem d_Hall_exchange_19 : decode prog_1_method_18_code 19 = .ok (.getfield 106, 3) := by decide +kernel
theorem d_Hall_exchange_22 : decode prog_1_method_18_code 22 = .ok (.iconst 1, 1) := by decide +kernel
theorem d_Hall_exchange_23 : decode prog_1_method_18_code 23 = .ok (.isub, 1) := by decide +kernel
theorem d_Hall_exchange_24 : decode prog_1_method_18_code 24 = .ok (.if_icmp .lt 5, 3) := by decide +kernel
theorem d_Hall_exchange_27 : decode prog_1_method_18_code 27 = .ok (.iconst 0, 1) := by decide +kernel
theorem d_Hall_exchange_28 : decode prog_1_method_18_code 28 = .ok (.ireturn, 1) := by decide +kernel
theorem d_Hall_exchange_29 : decode prog_1_method_18_code 29 = .ok (.aload_n 0, 1) := by decide +kernel
theorem d_Hall_exchange_30 : decode prog_1_method_18_code 30 = .ok (.getfield 49, 3) := by decide +kernel
theorem d_Hall_exchange_33 : decode prog_1_method_18_code 33 = .ok (.iload_n 1, 1) := by decide +kernel
theorem d_Hall_exchange_34 : decode prog_1_method_18_code 34 = .ok (.invokevirtual 180, 3) := by decide +kernel
theorem d_Hall_exchange_37 : decode prog_1_method_18_code 37 = .ok (.ifCond .eq 7, 3) := by decide +kernel
theorem d_Hall_exchange_40 : decode prog_1_method_18_code 40 = .ok (.iconst 1, 1) := by decide +kernel
theorem d_Hall_exchange_41 : decode prog_1_method_18_code 41 = .ok (.goto 4, 3) := by decide +kernel
theorem d_Hall_exchange_44 : decode prog_1_method_18_code 44 = .ok (.iconst 0, 1) := by decide +kernel
theorem d_Hall_exchange_45 : decode prog_1_method_18_code 45 = .ok (.ireturn, 1) := by decide +kernel
def f_Hall_exchange (a0 : Int32) (M : oz_M) : Option (Int32 × oz_M) := if (M.1 53 1) = 0 then (some (0, M)) else (if a0 < 0 then (some (0, M)) else (if a0 < ((M.1 6 0) - 1) then (oz_b2 (f_Line_swap a0 M) fun v1 M2 => if v1 = 0 then (some (0, M2)) else (some (1, M2))) else (some (0, M))))
set_option maxRecDepth 20000 in
set_option maxHeartbeats 4000000 in
theorem c_Hall_exchange {l : Launch} {D : va_G} {cs : Nat → ClassId} {b : Nat} {a0 : Int32} {M : oz_M} {vz : Int32} {Mz : oz_M} (hF : f_Hall_exchange a0 M = some (vz, Mz)) : oz_Met l D cs b y_Hall_exchange prog_1_method_18_code 2 (some .int) (oz_rm 2) [.ref (b + 0), .int a0] M (some (.int vz)) Mz := by
  refine oz_enter (by decide) (Nat.le_of_ble_eq_true rfl) (fun G cx hR e1 hRm e2 e3 e4 hnL => ?_)
  subst e1; subst e2; subst e3; subst e4
  refine (?_ : oz_R G 0 [(0, .ref (oz_b G + 0)), (1, .int a0)] [] M (f_Hall_exchange a0 M) (fun x => x = (vz, Mz))) _ hF rfl
  unfold f_Hall_exchange
  refine oz_aload_n (q := 1) cx d_Hall_exchange_0 rfl rfl 0 rfl ?_
  refine oz_get (q := 4) cx 0 5 (by decide) (ci := 0) rfl rfl tin_Hall (by decide) rfl rfl tw_233 d_Hall_exchange_1 rfl ?_
  refine oz_get (q := 7) cx 53 1 (by decide) (ci := 6) rfl rfl tin_Line (by decide) rfl rfl tw_183 d_Hall_exchange_4 rfl ?_
  refine oz_if_eq (q := 10) cx d_Hall_exchange_7 rfl rfl (fun h6 => ?_) (fun h6 => ?_)
  · refine oz_iconst (q := 28) cx d_Hall_exchange_27 rfl (v := 0) rfl ?_
    exact oz_iret cx hR d_Hall_exchange_28
  · refine oz_iload_n (q := 11) cx d_Hall_exchange_10 rfl rfl 1 rfl ?_
    refine oz_if_lt (q := 14) cx d_Hall_exchange_11 rfl rfl (fun h5 => ?_) (fun h5 => ?_)
    · refine oz_iconst (q := 28) cx d_Hall_exchange_27 rfl (v := 0) rfl ?_
      exact oz_iret cx hR d_Hall_exchange_28
    · refine oz_iload_n (q := 15) cx d_Hall_exchange_14 rfl rfl 1 rfl ?_
      refine oz_aload_n (q := 16) cx d_Hall_exchange_15 rfl rfl 0 rfl ?_
      refine oz_get (q := 19) cx 0 2 (by decide) (ci := 0) rfl rfl tin_Hall (by decide) rfl rfl tw_230 d_Hall_exchange_16 rfl ?_
      refine oz_get (q := 22) cx 6 0 (by decide) (ci := 3) rfl rfl tin_Order (by decide) rfl rfl tw_74 d_Hall_exchange_19 rfl ?_
      refine oz_iconst (q := 23) cx d_Hall_exchange_22 rfl (v := 1) rfl ?_
      refine oz_isub (q := 24) cx d_Hall_exchange_23 rfl ?_
      refine oz_icmp_lt (q := 27) cx d_Hall_exchange_24 rfl rfl (fun h4 => ?_) (fun h4 => ?_)
      · refine oz_aload_n (q := 30) cx d_Hall_exchange_29 rfl rfl 0 rfl ?_
        refine oz_get (q := 33) cx 0 5 (by decide) (ci := 0) rfl rfl tin_Hall (by decide) rfl rfl tw_233 d_Hall_exchange_30 rfl ?_
        refine oz_iload_n (q := 34) cx d_Hall_exchange_33 rfl rfl 1 rfl ?_
        refine oz_cVi (q := 37) cx 53 [.int a0] 1 6 hRm (by decide) (by decide) (fun _ _ h => c_Line_swap h) ⟨tw_337, tw_338, tw_339, tw_7⟩ tw_340 (by decide +kernel) rfl (by decide) rfl rfl (st := []) rfl (Nat.le_of_ble_eq_true rfl) d_Hall_exchange_34 rfl (fun v1 M2 hv1 => ?_)
        refine oz_if_eq (q := 40) cx d_Hall_exchange_37 rfl rfl (fun h3 => ?_) (fun h3 => ?_)
        · refine oz_iconst (q := 45) cx d_Hall_exchange_44 rfl (v := 0) rfl ?_
          exact oz_iret cx hR d_Hall_exchange_45
        · refine oz_iconst (q := 41) cx d_Hall_exchange_40 rfl (v := 1) rfl ?_
          refine oz_goto cx d_Hall_exchange_41 rfl ?_
          exact oz_iret cx hR d_Hall_exchange_45
      · refine oz_iconst (q := 28) cx d_Hall_exchange_27 rfl (v := 0) rfl ?_
        exact oz_iret cx hR d_Hall_exchange_28
