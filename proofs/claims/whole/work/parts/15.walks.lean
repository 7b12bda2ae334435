def y_Model_lattice : MethodName := ⟨"OrderHallModel", "lattice", "()I"⟩
theorem d_Model_lattice_0 : decode prog_10_method_46_code 0 = .ok (.aload_n 0, 1) := by decide +kernel
theorem d_Model_lattice_1 : decode prog_10_method_46_code 1 = .ok (.aload_n 0, 1) := by decide +kernel
theorem d_Model_lattice_2 : decode prog_10_method_46_code 2 = .ok (.getfield 53, 3) := by decide +kernel
theorem d_Model_lattice_5 : decode prog_10_method_46_code 5 = .ok (.ifCond .eq 7, 3) := by decide +kernel
theorem d_Model_lattice_8 : decode prog_10_method_46_code 8 = .ok (.iconst 0, 1) := by decide +kernel
theorem d_Model_lattice_9 : decode prog_10_method_46_code 9 = .ok (.goto 4, 3) := by decide +kernel
theorem d_Model_lattice_12 : decode prog_10_method_46_code 12 = .ok (.iconst 1, 1) := by decide +kernel
theorem d_Model_lattice_13 : decode prog_10_method_46_code 13 = .ok (.putfield 50, 3) := by decide +kernel
theorem d_Model_lattice_16 : decode prog_10_method_46_code 16 = .ok (.aload_n 0, 1) := by decide +kernel
theorem d_Model_lattice_17 : decode prog_10_method_46_code 17 = .ok (.getfield 50, 3) := by decide +kernel
theorem d_Model_lattice_20 : decode prog_10_method_46_code 20 = .ok (.ifCond .le 5, 3) := by decide +kernel
theorem d_Model_lattice_23 : decode prog_10_method_46_code 23 = .ok (.iconst 0, 1) := by decide +kernel
theorem d_Model_lattice_24 : decode prog_10_method_46_code 24 = .ok (.ireturn, 1) := by decide +kernel
theorem d_Model_lattice_25 : decode prog_10_method_46_code 25 = .ok (.iconst 0, 1) := by decide +kernel
theorem d_Model_lattice_26 : decode prog_10_method_46_code 26 = .ok (.istore_n 1, 1) := by decide +kernel
theorem d_Model_lattice_27 : decode prog_10_method_46_code 27 = .ok (.iload_n 1, 1) := by decide +kernel
theorem d_Model_lattice_28 : decode prog_10_method_46_code 28 = .ok (.aload_n 0, 1) := by decide +kernel
theorem d_Model_lattice_29 : decode prog_10_method_46_code 29 = .ok (.getfield 7, 3) := by decide +kernel
theorem d_Model_lattice_32 : decode prog_10_method_46_code 32 = .ok (.if_icmp .ge 47, 3) := by decide +kernel
theorem d_Model_lattice_35 : decode prog_10_method_46_code 35 = .ok (.iconst 0, 1) := by decide +kernel
theorem d_Model_lattice_36 : decode prog_10_method_46_code 36 = .ok (.istore_n 2, 1) := by decide +kernel
theorem d_Model_lattice_37 : decode prog_10_method_46_code 37 = .ok (.iload_n 2, 1) := by decide +kernel
theorem d_Model_lattice_38 : decode prog_10_method_46_code 38 = .ok (.aload_n 0, 1) := by decide +kernel
theorem d_Model_lattice_39 : decode prog_10_method_46_code 39 = .ok (.getfield 7, 3) := by decide +kernel
theorem d_Model_lattice_42 : decode prog_10_method_46_code 42 = .ok (.if_icmp .ge 31, 3) := by decide +kernel
theorem d_Model_lattice_45 : decode prog_10_method_46_code 45 = .ok (.aload_n 0, 1) := by decide +kernel
theorem d_Model_lattice_46 : decode prog_10_method_46_code 46 = .ok (.iconst 0, 1) := by decide +kernel
theorem d_Model_lattice_47 : decode prog_10_method_46_code 47 = .ok (.iload_n 1, 1) := by decide +kernel
theorem d_Model_lattice_48 : decode prog_10_method_46_code 48 = .ok (.iload_n 2, 1) := by decide +kernel
theorem d_Model_lattice_49 : decode prog_10_method_46_code 49 = .ok (.invokevirtual 145, 3) := by decide +kernel
theorem d_Model_lattice_52 : decode prog_10_method_46_code 52 = .ok (.ifCond .lt 13, 3) := by decide +kernel
theorem d_Model_lattice_55 : decode prog_10_method_46_code 55 = .ok (.aload_n 0, 1) := by decide +kernel
theorem d_Model_lattice_56 : decode prog_10_method_46_code 56 = .ok (.iconst 1, 1) := by decide +kernel
theorem d_Model_lattice_57 : decode prog_10_method_46_code 57 = .ok (.iload_n 1, 1) := by decide +kernel
theorem d_Model_lattice_58 : decode prog_10_method_46_code 58 = .ok (.iload_n 2, 1) := by decide +kernel
theorem d_Model_lattice_59 : decode prog_10_method_46_code 59 = .ok (.invokevirtual 145, 3) := by decide +kernel
theorem d_Model_lattice_62 : decode prog_10_method_46_code 62 = .ok (.ifCond .ge 5, 3) := by decide +kernel
theorem d_Model_lattice_65 : decode prog_10_method_46_code 65 = .ok (.iconst 0, 1) := by decide +kernel
theorem d_Model_lattice_66 : decode prog_10_method_46_code 66 = .ok (.ireturn, 1) := by decide +kernel
theorem d_Model_lattice_67 : decode prog_10_method_46_code 67 = .ok (.iinc 2 1, 3) := by decide +kernel
theorem d_Model_lattice_70 : decode prog_10_method_46_code 70 = .ok (.goto (-33), 3) := by decide +kernel
theorem d_Model_lattice_73 : decode prog_10_method_46_code 73 = .ok (.iinc 1 1, 3) := by decide +kernel
theorem d_Model_lattice_76 : decode prog_10_method_46_code 76 = .ok (.goto (-49), 3) := by decide +kernel
theorem d_Model_lattice_79 : decode prog_10_method_46_code 79 = .ok (.iconst 0, 1) := by decide +kernel
theorem d_Model_lattice_80 : decode prog_10_method_46_code 80 = .ok (.istore_n 1, 1) := by decide +kernel
theorem d_Model_lattice_81 : decode prog_10_method_46_code 81 = .ok (.iload_n 1, 1) := by decide +kernel
theorem d_Model_lattice_82 : decode prog_10_method_46_code 82 = .ok (.aload_n 0, 1) := by decide +kernel
theorem d_Model_lattice_83 : decode prog_10_method_46_code 83 = .ok (.getfield 7, 3) := by decide +kernel
theorem d_Model_lattice_86 : decode prog_10_method_46_code 86 = .ok (.if_icmp .ge 78, 3) := by decide +kernel
theorem d_Model_lattice_89 : decode prog_10_method_46_code 89 = .ok (.iconst 0, 1) := by decide +kernel
theorem d_Model_lattice_90 : decode prog_10_method_46_code 90 = .ok (.istore_n 2, 1) := by decide +kernel
theorem d_Model_lattice_91 : decode prog_10_method_46_code 91 = .ok (.iload_n 2, 1) := by decide +kernel
theorem d_Model_lattice_92 : decode prog_10_method_46_code 92 = .ok (.aload_n 0, 1) := by decide +kernel
theorem d_Model_lattice_93 : decode prog_10_method_46_code 93 = .ok (.getfield 7, 3) := by decide +kernel
theorem d_Model_lattice_96 : decode prog_10_method_46_code 96 = .ok (.if_icmp .ge 62, 3) := by decide +kernel
theorem d_Model_lattice_99 : decode prog_10_method_46_code 99 = .ok (.iconst 0, 1) := by decide +kernel
theorem d_Model_lattice_100 : decode prog_10_method_46_code 100 = .ok (.istore_n 3, 1) := by decide +kernel
theorem d_Model_lattice_101 : decode prog_10_method_46_code 101 = .ok (.iload_n 3, 1) := by decide +kernel
theorem d_Model_lattice_102 : decode prog_10_method_46_code 102 = .ok (.aload_n 0, 1) := by decide +kernel
theorem d_Model_lattice_103 : decode prog_10_method_46_code 103 = .ok (.getfield 7, 3) := by decide +kernel
theorem d_Model_lattice_106 : decode prog_10_method_46_code 106 = .ok (.if_icmp .ge 46, 3) := by decide +kernel
theorem d_Model_lattice_109 : decode prog_10_method_46_code 109 = .ok (.aload_n 0, 1) := by decide +kernel
theorem d_Model_lattice_110 : decode prog_10_method_46_code 110 = .ok (.iconst 0, 1) := by decide +kernel
theorem d_Model_lattice_111 : decode prog_10_method_46_code 111 = .ok (.iload_n 1, 1) := by decide +kernel
theorem d_Model_lattice_112 : decode prog_10_method_46_code 112 = .ok (.aload_n 0, 1) := by decide +kernel
theorem d_Model_lattice_113 : decode prog_10_method_46_code 113 = .ok (.iconst 1, 1) := by decide +kernel
theorem d_Model_lattice_114 : decode prog_10_method_46_code 114 = .ok (.iload_n 2, 1) := by decide +kernel
theorem d_Model_lattice_115 : decode prog_10_method_46_code 115 = .ok (.iload_n 3, 1) := by decide +kernel
theorem d_Model_lattice_116 : decode prog_10_method_46_code 116 = .ok (.invokevirtual 145, 3) := by decide +kernel
theorem d_Model_lattice_119 : decode prog_10_method_46_code 119 = .ok (.invokevirtual 145, 3) := by decide +kernel
theorem d_Model_lattice_122 : decode prog_10_method_46_code 122 = .ok (.aload_n 0, 1) := by decide +kernel
theorem d_Model_lattice_123 : decode prog_10_method_46_code 123 = .ok (.iconst 1, 1) := by decide +kernel
theorem d_Model_lattice_124 : decode prog_10_method_46_code 124 = .ok (.aload_n 0, 1) := by decide +kernel
theorem d_Model_lattice_125 : decode prog_10_method_46_code 125 = .ok (.iconst 0, 1) := by decide +kernel
theorem d_Model_lattice_126 : decode prog_10_method_46_code 126 = .ok (.iload_n 1, 1) := by decide +kernel
theorem d_Model_lattice_127 : decode prog_10_method_46_code 127 = .ok (.iload_n 2, 1) := by decide +kernel
theorem d_Model_lattice_128 : decode prog_10_method_46_code 128 = .ok (.invokevirtual 145, 3) := by decide +kernel
theorem d_Model_lattice_131 : decode prog_10_method_46_code 131 = .ok (.aload_n 0, 1) := by decide +kernel
theorem d_Model_lattice_132 : decode prog_10_method_46_code 132 = .ok (.iconst 0, 1) := by decide +kernel
theorem d_Model_lattice_133 : decode prog_10_method_46_code 133 = .ok (.iload_n 1, 1) := by decide +kernel
theorem d_Model_lattice_134 : decode prog_10_method_46_code 134 = .ok (.iload_n 3, 1) := by decide +kernel
theorem d_Model_lattice_135 : decode prog_10_method_46_code 135 = .ok (.invokevirtual 145, 3) := by decide +kernel
theorem d_Model_lattice_138 : decode prog_10_method_46_code 138 = .ok (.invokevirtual 145, 3) := by decide +kernel
theorem d_Model_lattice_141 : decode prog_10_method_46_code 141 = .ok (.if_icmp .eq 5, 3) := by decide +kernel
theorem d_Model_lattice_144 : decode prog_10_method_46_code 144 = .ok (.iconst 1, 1) := by decide +kernel
theorem d_Model_lattice_145 : decode prog_10_method_46_code 145 = .ok (.ireturn, 1) := by decide +kernel
theorem d_Model_lattice_146 : decode prog_10_method_46_code 146 = .ok (.iinc 3 1, 3) := by decide +kernel
theorem d_Model_lattice_149 : decode prog_10_method_46_code 149 = .ok (.goto (-48), 3) := by decide +kernel
theorem d_Model_lattice_152 : decode prog_10_method_46_code 152 = .ok (.iinc 2 1, 3) := by decide +kernel
theorem d_Model_lattice_155 : decode prog_10_method_46_code 155 = .ok (.goto (-64), 3) := by decide +kernel
theorem d_Model_lattice_158 : decode prog_10_method_46_code 158 = .ok (.iinc 1 1, 3) := by decide +kernel
theorem d_Model_lattice_161 : decode prog_10_method_46_code 161 = .ok (.goto (-80), 3) := by decide +kernel
theorem d_Model_lattice_164 : decode prog_10_method_46_code 164 = .ok (.iconst 2, 1) := by decide +kernel
theorem d_Model_lattice_165 : decode prog_10_method_46_code 165 = .ok (.ireturn, 1) := by decide +kernel
noncomputable def f_Model_lattice (M : oz_M) : Option (Int32 × oz_M) := (if (M.1 62 2) = 0 then (some 1) else (some 0)).bind fun (z1 : Int32) => (some (oz_s M 62 0 z1)).bind fun M3 => if 0 < (M3.1 62 0) then (some (0, M3)) else ((oz_lp (fun (s4 : Int32) => (if s4 < (M3.1 62 1) then ((oz_lp (fun (s5 : Int32) => (if s5 < (M3.1 62 1) then ((f_Model_boundOf 0 s4 s5 M3).bind fun v6 => if v6 < 0 then (some (.inr (.inr (0, M3)))) else ((f_Model_boundOf 1 s4 s5 M3).bind fun v7 => if v7 < 0 then (some (.inr (.inr (0, M3)))) else (some (.inl (s5 + 1))))) else (some (.inr (.inl s5))) : Option ((Int32) ⊕ ((Int32) ⊕ (Int32 × oz_M))))) 0).bind (oz_el (fun (y11 : Int32) => some (.inl (s4 + 1))) (fun r12 => some (.inr (.inr r12))))) else (some (.inr (.inl s4))) : Option ((Int32) ⊕ ((Int32) ⊕ (Int32 × oz_M))))) 0).bind (oz_el (fun (y14 : Int32) => (oz_lp (fun (s15 : Int32) => (if s15 < (M3.1 62 1) then ((oz_lp (fun (s16 : Int32) => (if s16 < (M3.1 62 1) then ((oz_lp (fun (s17 : Int32) => (if s17 < (M3.1 62 1) then ((f_Model_boundOf 1 s16 s17 M3).bind fun v18 => (f_Model_boundOf 0 s15 v18 M3).bind fun v19 => (f_Model_boundOf 0 s15 s16 M3).bind fun v20 => (f_Model_boundOf 0 s15 s17 M3).bind fun v21 => (f_Model_boundOf 1 v20 v21 M3).bind fun v22 => if v19 = v22 then (some (.inl (s17 + 1))) else (some (.inr (.inr (1, M3))))) else (some (.inr (.inl s17))) : Option ((Int32) ⊕ ((Int32) ⊕ (Int32 × oz_M))))) 0).bind (oz_el (fun (y25 : Int32) => some (.inl (s16 + 1))) (fun r26 => some (.inr (.inr r26))))) else (some (.inr (.inl s16))) : Option ((Int32) ⊕ ((Int32) ⊕ (Int32 × oz_M))))) 0).bind (oz_el (fun (y28 : Int32) => some (.inl (s15 + 1))) (fun r29 => some (.inr (.inr r29))))) else (some (.inr (.inl s15))) : Option ((Int32) ⊕ ((Int32) ⊕ (Int32 × oz_M))))) 0).bind (oz_el (fun (y31 : Int32) => some (2, M3)) (fun r32 => some (r32)))) (fun r33 => some (r33))))
set_option maxRecDepth 20000 in
set_option maxHeartbeats 4000000 in
theorem c_Model_lattice {l : Launch} {D : va_G} {cs : Nat → ClassId} {b : Nat} {M : oz_M} {vz : Int32} {Mz : oz_M} (hF : f_Model_lattice M = some (vz, Mz)) : oz_Met l D cs b y_Model_lattice prog_10_method_46_code 4 (some .int) (oz_rm 4) [.ref (b + 62)] M (some (.int vz)) Mz := by
  refine oz_enter (by decide) (Nat.le_of_ble_eq_true rfl) (fun G cx hR e1 hRm e2 e3 e4 hnL => ?_)
  subst e1; subst e2; subst e3; subst e4
  refine (?_ : oz_R G 0 [(0, .ref (oz_b G + 62))] [] M (f_Model_lattice  M) (fun x => x = (vz, Mz))) _ hF rfl
  unfold f_Model_lattice
  refine oz_aload_n (q := 1) cx d_Model_lattice_0 rfl rfl 0 rfl ?_
  refine oz_aload_n (q := 2) cx d_Model_lattice_1 rfl rfl 0 rfl ?_
  refine oz_get (q := 5) cx 62 2 (by decide) (ci := 8) rfl rfl tin_Model (by decide) rfl rfl tw_788 d_Model_lattice_2 rfl ?_
  refine oz_seq (p2 := 13) (lv2 := fun (z1 : Int32) => [(0, .ref (oz_b G + 62))]) (st2 := fun z1 => [.int z1, .ref (oz_b G + 62)]) (M2 := fun z1 => M) ?_ (fun z1 => ?_)
  · refine oz_if_eq (q := 8) cx d_Model_lattice_5 rfl rfl (fun h2 => ?_) (fun h2 => ?_)
    · refine oz_iconst (q := 13) cx d_Model_lattice_12 rfl (v := 1) rfl ?_
      exact oz_lv [0] rfl (oz_leaf (fun h => h))
    · refine oz_iconst (q := 9) cx d_Model_lattice_8 rfl (v := 0) rfl ?_
      refine oz_goto cx d_Model_lattice_9 rfl ?_
      exact oz_lv [0] rfl (oz_leaf (fun h => h))
  · refine oz_put (q := 16) cx 62 0 (by decide) (ci := 8) rfl rfl rfl tin_Model t_Model t_Model_ok n_Model (by decide) (Nat.le_of_ble_eq_true rfl) rfl tw_786 rfl rfl rfl d_Model_lattice_13 rfl ?_
    refine oz_nm (fun M3 hM3 => ?_)
    refine oz_aload_n (q := 17) cx d_Model_lattice_16 rfl rfl 0 rfl ?_
    refine oz_get (q := 20) cx 62 0 (by decide) (ci := 8) rfl rfl tin_Model (by decide) rfl rfl tw_786 d_Model_lattice_17 rfl ?_
    refine oz_if_le (q := 23) cx d_Model_lattice_20 rfl rfl (fun h34 => ?_) (fun h34 => ?_)
    · refine oz_iconst (q := 26) cx d_Model_lattice_25 rfl (v := 0) rfl ?_
      refine oz_istore_n (q := 27) cx d_Model_lattice_26 rfl rfl (by rw [hnL]; decide) (lv2 := [(1, .int 0), (0, .ref (oz_b G + 62))]) rfl ?_
      refine oz_lv [1, 0] rfl ?_
      refine oz_seqE (p2 := 79) (lv2 := fun (y14 : Int32) => [(0, .ref (oz_b G + 62))]) (M2 := fun y14 => M3) (fun x => x = (vz, Mz)) ?_ (fun y14 => ?_) (fun _ _ hx hK => by cases hx; exact hK)
      · refine oz_loop (Y := (Int32) ⊕ (Int32 × oz_M)) 27 (fun (s4 : Int32) => [(0, .ref (oz_b G + 62)), (1, .int s4)]) (fun (s4 : Int32) => M3) 0 (fun s4 => ?_)
        refine oz_iload_n (q := 28) cx d_Model_lattice_27 rfl rfl 1 rfl ?_
        refine oz_aload_n (q := 29) cx d_Model_lattice_28 rfl rfl 0 rfl ?_
        refine oz_get (q := 32) cx 62 1 (by decide) (ci := 8) rfl rfl tin_Model (by decide) rfl rfl tw_787 d_Model_lattice_29 rfl ?_
        refine oz_icmp_ge (q := 35) cx d_Model_lattice_32 rfl rfl (fun h13 => ?_) (fun h13 => ?_)
        · exact oz_lv [0] rfl (oz_leaf (fun h => h))
        · refine oz_iconst (q := 36) cx d_Model_lattice_35 rfl (v := 0) rfl ?_
          refine oz_istore_n (q := 37) cx d_Model_lattice_36 rfl rfl (by rw [hnL]; decide) (lv2 := [(2, .int 0), (0, .ref (oz_b G + 62)), (1, .int s4)]) rfl ?_
          refine oz_lv [1, 2, 0] rfl ?_
          refine oz_seqE (p2 := 73) (lv2 := fun (y11 : Int32) => [(0, .ref (oz_b G + 62)), (1, .int s4)]) (M2 := fun y11 => M3) (fun x => x = (vz, Mz)) ?_ (fun y11 => ?_) (fun _ _ hx hK => by cases hx; exact hK)
          · refine oz_loop (Y := (Int32) ⊕ (Int32 × oz_M)) 37 (fun (s5 : Int32) => [(0, .ref (oz_b G + 62)), (1, .int s4), (2, .int s5)]) (fun (s5 : Int32) => M3) 0 (fun s5 => ?_)
            refine oz_iload_n (q := 38) cx d_Model_lattice_37 rfl rfl 2 rfl ?_
            refine oz_aload_n (q := 39) cx d_Model_lattice_38 rfl rfl 0 rfl ?_
            refine oz_get (q := 42) cx 62 1 (by decide) (ci := 8) rfl rfl tin_Model (by decide) rfl rfl tw_787 d_Model_lattice_39 rfl ?_
            refine oz_icmp_ge (q := 45) cx d_Model_lattice_42 rfl rfl (fun h10 => ?_) (fun h10 => ?_)
            · exact oz_lv [0, 1] rfl (oz_leaf (fun h => h))
            · refine oz_aload_n (q := 46) cx d_Model_lattice_45 rfl rfl 0 rfl ?_
              refine oz_iconst (q := 47) cx d_Model_lattice_46 rfl (v := 0) rfl ?_
              refine oz_iload_n (q := 48) cx d_Model_lattice_47 rfl rfl 1 rfl ?_
              refine oz_iload_n (q := 49) cx d_Model_lattice_48 rfl rfl 2 rfl ?_
              refine oz_cVip (q := 52) cx 62 [.int 0, .int s4, .int s5] 3 8 hRm (by decide) (by decide) (fun _ h => c_Model_boundOf h) ⟨tw_1002, tw_1004, ts_49, tw_9⟩ tw_1005 (by decide +kernel) rfl (by decide) rfl rfl (st := []) rfl (Nat.le_of_ble_eq_true rfl) d_Model_lattice_49 rfl (fun v6 hv6 => ?_)
              refine oz_if_lt (q := 55) cx d_Model_lattice_52 rfl rfl (fun h9 => ?_) (fun h9 => ?_)
              · refine oz_iconst (q := 66) cx d_Model_lattice_65 rfl (v := 0) rfl ?_
                exact oz_wrap (oz_iret cx hR d_Model_lattice_66) (fun h => h)
              · refine oz_aload_n (q := 56) cx d_Model_lattice_55 rfl rfl 0 rfl ?_
                refine oz_iconst (q := 57) cx d_Model_lattice_56 rfl (v := 1) rfl ?_
                refine oz_iload_n (q := 58) cx d_Model_lattice_57 rfl rfl 1 rfl ?_
                refine oz_iload_n (q := 59) cx d_Model_lattice_58 rfl rfl 2 rfl ?_
                refine oz_cVip (q := 62) cx 62 [.int 1, .int s4, .int s5] 3 8 hRm (by decide) (by decide) (fun _ h => c_Model_boundOf h) ⟨tw_1002, tw_1004, ts_49, tw_9⟩ tw_1005 (by decide +kernel) rfl (by decide) rfl rfl (st := []) rfl (Nat.le_of_ble_eq_true rfl) d_Model_lattice_59 rfl (fun v7 hv7 => ?_)
                refine oz_if_ge (q := 65) cx d_Model_lattice_62 rfl rfl (fun h8 => ?_) (fun h8 => ?_)
                · refine oz_iinc (q := 70) cx (s5 + 1) d_Model_lattice_67 rfl 2 rfl rfl (by rw [hnL]; decide) (lv2 := [(2, .int (s5 + 1)), (0, .ref (oz_b G + 62)), (1, .int s4)]) rfl ?_
                  refine oz_goto cx d_Model_lattice_70 rfl ?_
                  exact oz_lv [1, 2, 0] rfl (oz_leaf (fun h => h))
                · refine oz_iconst (q := 66) cx d_Model_lattice_65 rfl (v := 0) rfl ?_
                  exact oz_wrap (oz_iret cx hR d_Model_lattice_66) (fun h => h)
          · refine oz_iinc (q := 76) cx (s4 + 1) d_Model_lattice_73 rfl 1 rfl rfl (by rw [hnL]; decide) (lv2 := [(1, .int (s4 + 1)), (0, .ref (oz_b G + 62))]) rfl ?_
            refine oz_goto cx d_Model_lattice_76 rfl ?_
            exact oz_lv [1, 0] rfl (oz_leaf (fun h => h))
      · refine oz_iconst (q := 80) cx d_Model_lattice_79 rfl (v := 0) rfl ?_
        refine oz_istore_n (q := 81) cx d_Model_lattice_80 rfl rfl (by rw [hnL]; decide) (lv2 := [(1, .int 0), (0, .ref (oz_b G + 62))]) rfl ?_
        refine oz_lv [1, 0] rfl ?_
        refine oz_seqE (p2 := 164) (lv2 := fun (y31 : Int32) => []) (M2 := fun y31 => M3) (fun x => x = (vz, Mz)) ?_ (fun y31 => ?_) (fun _ _ hx hK => by cases hx; exact hK)
        · refine oz_loop (Y := (Int32) ⊕ (Int32 × oz_M)) 81 (fun (s15 : Int32) => [(0, .ref (oz_b G + 62)), (1, .int s15)]) (fun (s15 : Int32) => M3) 0 (fun s15 => ?_)
          refine oz_iload_n (q := 82) cx d_Model_lattice_81 rfl rfl 1 rfl ?_
          refine oz_aload_n (q := 83) cx d_Model_lattice_82 rfl rfl 0 rfl ?_
          refine oz_get (q := 86) cx 62 1 (by decide) (ci := 8) rfl rfl tin_Model (by decide) rfl rfl tw_787 d_Model_lattice_83 rfl ?_
          refine oz_icmp_ge (q := 89) cx d_Model_lattice_86 rfl rfl (fun h30 => ?_) (fun h30 => ?_)
          · exact oz_lv [] rfl (oz_leaf (fun h => h))
          · refine oz_iconst (q := 90) cx d_Model_lattice_89 rfl (v := 0) rfl ?_
            refine oz_istore_n (q := 91) cx d_Model_lattice_90 rfl rfl (by rw [hnL]; decide) (lv2 := [(2, .int 0), (0, .ref (oz_b G + 62)), (1, .int s15)]) rfl ?_
            refine oz_lv [1, 2, 0] rfl ?_
            refine oz_seqE (p2 := 158) (lv2 := fun (y28 : Int32) => [(0, .ref (oz_b G + 62)), (1, .int s15)]) (M2 := fun y28 => M3) (fun x => x = (vz, Mz)) ?_ (fun y28 => ?_) (fun _ _ hx hK => by cases hx; exact hK)
            · refine oz_loop (Y := (Int32) ⊕ (Int32 × oz_M)) 91 (fun (s16 : Int32) => [(0, .ref (oz_b G + 62)), (1, .int s15), (2, .int s16)]) (fun (s16 : Int32) => M3) 0 (fun s16 => ?_)
              refine oz_iload_n (q := 92) cx d_Model_lattice_91 rfl rfl 2 rfl ?_
              refine oz_aload_n (q := 93) cx d_Model_lattice_92 rfl rfl 0 rfl ?_
              refine oz_get (q := 96) cx 62 1 (by decide) (ci := 8) rfl rfl tin_Model (by decide) rfl rfl tw_787 d_Model_lattice_93 rfl ?_
              refine oz_icmp_ge (q := 99) cx d_Model_lattice_96 rfl rfl (fun h27 => ?_) (fun h27 => ?_)
              · exact oz_lv [0, 1] rfl (oz_leaf (fun h => h))
              · refine oz_iconst (q := 100) cx d_Model_lattice_99 rfl (v := 0) rfl ?_
                refine oz_istore_n (q := 101) cx d_Model_lattice_100 rfl rfl (by rw [hnL]; decide) (lv2 := [(3, .int 0), (0, .ref (oz_b G + 62)), (1, .int s15), (2, .int s16)]) rfl ?_
                refine oz_lv [1, 2, 3, 0] rfl ?_
                refine oz_seqE (p2 := 152) (lv2 := fun (y25 : Int32) => [(0, .ref (oz_b G + 62)), (1, .int s15), (2, .int s16)]) (M2 := fun y25 => M3) (fun x => x = (vz, Mz)) ?_ (fun y25 => ?_) (fun _ _ hx hK => by cases hx; exact hK)
                · refine oz_loop (Y := (Int32) ⊕ (Int32 × oz_M)) 101 (fun (s17 : Int32) => [(0, .ref (oz_b G + 62)), (1, .int s15), (2, .int s16), (3, .int s17)]) (fun (s17 : Int32) => M3) 0 (fun s17 => ?_)
                  refine oz_iload_n (q := 102) cx d_Model_lattice_101 rfl rfl 3 rfl ?_
                  refine oz_aload_n (q := 103) cx d_Model_lattice_102 rfl rfl 0 rfl ?_
                  refine oz_get (q := 106) cx 62 1 (by decide) (ci := 8) rfl rfl tin_Model (by decide) rfl rfl tw_787 d_Model_lattice_103 rfl ?_
                  refine oz_icmp_ge (q := 109) cx d_Model_lattice_106 rfl rfl (fun h24 => ?_) (fun h24 => ?_)
                  · exact oz_lv [0, 1, 2] rfl (oz_leaf (fun h => h))
                  · refine oz_aload_n (q := 110) cx d_Model_lattice_109 rfl rfl 0 rfl ?_
                    refine oz_iconst (q := 111) cx d_Model_lattice_110 rfl (v := 0) rfl ?_
                    refine oz_iload_n (q := 112) cx d_Model_lattice_111 rfl rfl 1 rfl ?_
                    refine oz_aload_n (q := 113) cx d_Model_lattice_112 rfl rfl 0 rfl ?_
                    refine oz_iconst (q := 114) cx d_Model_lattice_113 rfl (v := 1) rfl ?_
                    refine oz_iload_n (q := 115) cx d_Model_lattice_114 rfl rfl 2 rfl ?_
                    refine oz_iload_n (q := 116) cx d_Model_lattice_115 rfl rfl 3 rfl ?_
                    refine oz_cVip (q := 119) cx 62 [.int 1, .int s16, .int s17] 3 8 hRm (by decide) (by decide) (fun _ h => c_Model_boundOf h) ⟨tw_1002, tw_1004, ts_49, tw_9⟩ tw_1005 (by decide +kernel) rfl (by decide) rfl rfl (st := [.int s15, .int 0, .ref (oz_b G + 62)]) rfl (Nat.le_of_ble_eq_true rfl) d_Model_lattice_116 rfl (fun v18 hv18 => ?_)
                    refine oz_cVip (q := 122) cx 62 [.int 0, .int s15, .int v18] 3 8 hRm (by decide) (by decide) (fun _ h => c_Model_boundOf h) ⟨tw_1002, tw_1004, ts_49, tw_9⟩ tw_1005 (by decide +kernel) rfl (by decide) rfl rfl (st := []) rfl (Nat.le_of_ble_eq_true rfl) d_Model_lattice_119 rfl (fun v19 hv19 => ?_)
                    refine oz_aload_n (q := 123) cx d_Model_lattice_122 rfl rfl 0 rfl ?_
                    refine oz_iconst (q := 124) cx d_Model_lattice_123 rfl (v := 1) rfl ?_
                    refine oz_aload_n (q := 125) cx d_Model_lattice_124 rfl rfl 0 rfl ?_
                    refine oz_iconst (q := 126) cx d_Model_lattice_125 rfl (v := 0) rfl ?_
                    refine oz_iload_n (q := 127) cx d_Model_lattice_126 rfl rfl 1 rfl ?_
                    refine oz_iload_n (q := 128) cx d_Model_lattice_127 rfl rfl 2 rfl ?_
                    refine oz_cVip (q := 131) cx 62 [.int 0, .int s15, .int s16] 3 8 hRm (by decide) (by decide) (fun _ h => c_Model_boundOf h) ⟨tw_1002, tw_1004, ts_49, tw_9⟩ tw_1005 (by decide +kernel) rfl (by decide) rfl rfl (st := [.int 1, .ref (oz_b G + 62), .int v19]) rfl (Nat.le_of_ble_eq_true rfl) d_Model_lattice_128 rfl (fun v20 hv20 => ?_)
                    refine oz_aload_n (q := 132) cx d_Model_lattice_131 rfl rfl 0 rfl ?_
                    refine oz_iconst (q := 133) cx d_Model_lattice_132 rfl (v := 0) rfl ?_
                    refine oz_iload_n (q := 134) cx d_Model_lattice_133 rfl rfl 1 rfl ?_
                    refine oz_iload_n (q := 135) cx d_Model_lattice_134 rfl rfl 3 rfl ?_
                    refine oz_cVip (q := 138) cx 62 [.int 0, .int s15, .int s17] 3 8 hRm (by decide) (by decide) (fun _ h => c_Model_boundOf h) ⟨tw_1002, tw_1004, ts_49, tw_9⟩ tw_1005 (by decide +kernel) rfl (by decide) rfl rfl (st := [.int v20, .int 1, .ref (oz_b G + 62), .int v19]) rfl (Nat.le_of_ble_eq_true rfl) d_Model_lattice_135 rfl (fun v21 hv21 => ?_)
                    refine oz_cVip (q := 141) cx 62 [.int 1, .int v20, .int v21] 3 8 hRm (by decide) (by decide) (fun _ h => c_Model_boundOf h) ⟨tw_1002, tw_1004, ts_49, tw_9⟩ tw_1005 (by decide +kernel) rfl (by decide) rfl rfl (st := [.int v19]) rfl (Nat.le_of_ble_eq_true rfl) d_Model_lattice_138 rfl (fun v22 hv22 => ?_)
                    refine oz_icmp_eq (q := 144) cx d_Model_lattice_141 rfl rfl (fun h23 => ?_) (fun h23 => ?_)
                    · refine oz_iinc (q := 149) cx (s17 + 1) d_Model_lattice_146 rfl 3 rfl rfl (by rw [hnL]; decide) (lv2 := [(3, .int (s17 + 1)), (0, .ref (oz_b G + 62)), (1, .int s15), (2, .int s16)]) rfl ?_
                      refine oz_goto cx d_Model_lattice_149 rfl ?_
                      exact oz_lv [1, 2, 3, 0] rfl (oz_leaf (fun h => h))
                    · refine oz_iconst (q := 145) cx d_Model_lattice_144 rfl (v := 1) rfl ?_
                      exact oz_wrap (oz_iret cx hR d_Model_lattice_145) (fun h => h)
                · refine oz_iinc (q := 155) cx (s16 + 1) d_Model_lattice_152 rfl 2 rfl rfl (by rw [hnL]; decide) (lv2 := [(2, .int (s16 + 1)), (0, .ref (oz_b G + 62)), (1, .int s15)]) rfl ?_
                  refine oz_goto cx d_Model_lattice_155 rfl ?_
                  exact oz_lv [1, 2, 0] rfl (oz_leaf (fun h => h))
            · refine oz_iinc (q := 161) cx (s15 + 1) d_Model_lattice_158 rfl 1 rfl rfl (by rw [hnL]; decide) (lv2 := [(1, .int (s15 + 1)), (0, .ref (oz_b G + 62))]) rfl ?_
              refine oz_goto cx d_Model_lattice_161 rfl ?_
              exact oz_lv [1, 0] rfl (oz_leaf (fun h => h))
        · refine oz_iconst (q := 165) cx d_Model_lattice_164 rfl (v := 2) rfl ?_
          exact oz_iret cx hR d_Model_lattice_165
    · refine oz_iconst (q := 24) cx d_Model_lattice_23 rfl (v := 0) rfl ?_
      exact oz_iret cx hR d_Model_lattice_24
def y_Model_level : MethodName := ⟨"OrderHallModel", "level", "(II)I"⟩
theorem d_Model_level_0 : decode prog_10_method_26_code 0 = .ok (.aload_n 0, 1) := by decide +kernel
theorem d_Model_level_1 : decode prog_10_method_26_code 1 = .ok (.aload_n 0, 1) := by decide +kernel
theorem d_Model_level_2 : decode prog_10_method_26_code 2 = .ok (.getfield 53, 3) := by decide +kernel
theorem d_Model_level_5 : decode prog_10_method_26_code 5 = .ok (.ifCond .ne 7, 3) := by decide +kernel
theorem d_Model_level_8 : decode prog_10_method_26_code 8 = .ok (.iconst 1, 1) := by decide +kernel
theorem d_Model_level_9 : decode prog_10_method_26_code 9 = .ok (.goto 29, 3) := by decide +kernel
theorem d_Model_level_12 : decode prog_10_method_26_code 12 = .ok (.aload_n 0, 1) := by decide +kernel
theorem d_Model_level_13 : decode prog_10_method_26_code 13 = .ok (.iload_n 1, 1) := by decide +kernel
theorem d_Model_level_14 : decode prog_10_method_26_code 14 = .ok (.invokevirtual 69, 3) := by decide +kernel
theorem d_Model_level_17 : decode prog_10_method_26_code 17 = .ok (.ifCond .ne 7, 3) := by decide +kernel
theorem d_Model_level_20 : decode prog_10_method_26_code 20 = .ok (.iconst 2, 1) := by decide +kernel
theorem d_Model_level_21 : decode prog_10_method_26_code 21 = .ok (.goto 17, 3) := by decide +kernel
theorem d_Model_level_24 : decode prog_10_method_26_code 24 = .ok (.iload_n 2, 1) := by decide +kernel
theorem d_Model_level_25 : decode prog_10_method_26_code 25 = .ok (.ifCond .lt 8, 3) := by decide +kernel
theorem d_Model_level_28 : decode prog_10_method_26_code 28 = .ok (.iload_n 2, 1) := by decide +kernel
theorem d_Model_level_29 : decode prog_10_method_26_code 29 = .ok (.iconst 1, 1) := by decide +kernel
theorem d_Model_level_30 : decode prog_10_method_26_code 30 = .ok (.if_icmp .le 7, 3) := by decide +kernel
theorem d_Model_level_33 : decode prog_10_method_26_code 33 = .ok (.iconst 3, 1) := by decide +kernel
theorem d_Model_level_34 : decode prog_10_method_26_code 34 = .ok (.goto 4, 3) := by decide +kernel
theorem d_Model_level_37 : decode prog_10_method_26_code 37 = .ok (.iconst 0, 1) := by decide +kernel
theorem d_Model_level_38 : decode prog_10_method_26_code 38 = .ok (.putfield 50, 3) := by decide +kernel
theorem d_Model_level_41 : decode prog_10_method_26_code 41 = .ok (.aload_n 0, 1) := by decide +kernel
theorem d_Model_level_42 : decode prog_10_method_26_code 42 = .ok (.getfield 50, 3) := by decide +kernel
theorem d_Model_level_45 : decode prog_10_method_26_code 45 = .ok (.ifCond .le 5, 3) := by decide +kernel
theorem d_Model_level_48 : decode prog_10_method_26_code 48 = .ok (.iconst 0, 1) := by decide +kernel
theorem d_Model_level_49 : decode prog_10_method_26_code 49 = .ok (.ireturn, 1) := by decide +kernel
theorem d_Model_level_50 : decode prog_10_method_26_code 50 = .ok (.aload_n 0, 1) := by decide +kernel
theorem d_Model_level_51 : decode prog_10_method_26_code 51 = .ok (.invokevirtual 115, 3) := by decide +kernel
theorem d_Model_level_54 : decode prog_10_method_26_code 54 = .ok (.iconst 0, 1) := by decide +kernel
theorem d_Model_level_55 : decode prog_10_method_26_code 55 = .ok (.istore_n 3, 1) := by decide +kernel
theorem d_Model_level_56 : decode prog_10_method_26_code 56 = .ok (.iconst 0, 1) := by decide +kernel
theorem d_Model_level_57 : decode prog_10_method_26_code 57 = .ok (.istore 4, 2) := by decide +kernel
theorem d_Model_level_59 : decode prog_10_method_26_code 59 = .ok (.iload 4, 2) := by decide +kernel
theorem d_Model_level_61 : decode prog_10_method_26_code 61 = .ok (.aload_n 0, 1) := by decide +kernel
theorem d_Model_level_62 : decode prog_10_method_26_code 62 = .ok (.getfield 7, 3) := by decide +kernel
theorem d_Model_level_65 : decode prog_10_method_26_code 65 = .ok (.if_icmp .ge 47, 3) := by decide +kernel
theorem d_Model_level_68 : decode prog_10_method_26_code 68 = .ok (.iload_n 2, 1) := by decide +kernel
theorem d_Model_level_69 : decode prog_10_method_26_code 69 = .ok (.ifCond .ne 16, 3) := by decide +kernel
theorem d_Model_level_72 : decode prog_10_method_26_code 72 = .ok (.aload_n 0, 1) := by decide +kernel
theorem d_Model_level_73 : decode prog_10_method_26_code 73 = .ok (.iload 4, 2) := by decide +kernel
theorem d_Model_level_75 : decode prog_10_method_26_code 75 = .ok (.iload_n 1, 1) := by decide +kernel
theorem d_Model_level_76 : decode prog_10_method_26_code 76 = .ok (.invokevirtual 77, 3) := by decide +kernel
theorem d_Model_level_79 : decode prog_10_method_26_code 79 = .ok (.ifCond .eq 25, 3) := by decide +kernel
theorem d_Model_level_82 : decode prog_10_method_26_code 82 = .ok (.goto 13, 3) := by decide +kernel
theorem d_Model_level_85 : decode prog_10_method_26_code 85 = .ok (.aload_n 0, 1) := by decide +kernel
theorem d_Model_level_86 : decode prog_10_method_26_code 86 = .ok (.iload_n 1, 1) := by decide +kernel
theorem d_Model_level_87 : decode prog_10_method_26_code 87 = .ok (.iload 4, 2) := by decide +kernel
theorem d_Model_level_89 : decode prog_10_method_26_code 89 = .ok (.invokevirtual 77, 3) := by decide +kernel
theorem d_Model_level_92 : decode prog_10_method_26_code 92 = .ok (.ifCond .eq 12, 3) := by decide +kernel
theorem d_Model_level_95 : decode prog_10_method_26_code 95 = .ok (.iload_n 3, 1) := by decide +kernel
theorem d_Model_level_96 : decode prog_10_method_26_code 96 = .ok (.iconst 1, 1) := by decide +kernel
theorem d_Model_level_97 : decode prog_10_method_26_code 97 = .ok (.iload 4, 2) := by decide +kernel
theorem d_Model_level_99 : decode prog_10_method_26_code 99 = .ok (.ishl, 1) := by decide +kernel
theorem d_Model_level_100 : decode prog_10_method_26_code 100 = .ok (.ior, 1) := by decide +kernel
theorem d_Model_level_101 : decode prog_10_method_26_code 101 = .ok (.goto 4, 3) := by decide +kernel
theorem d_Model_level_104 : decode prog_10_method_26_code 104 = .ok (.iload_n 3, 1) := by decide +kernel
theorem d_Model_level_105 : decode prog_10_method_26_code 105 = .ok (.istore_n 3, 1) := by decide +kernel
theorem d_Model_level_106 : decode prog_10_method_26_code 106 = .ok (.iinc 4 1, 3) := by decide +kernel
theorem d_Model_level_109 : decode prog_10_method_26_code 109 = .ok (.goto (-50), 3) := by decide +kernel
theorem d_Model_level_112 : decode prog_10_method_26_code 112 = .ok (.aload_n 0, 1) := by decide +kernel
theorem d_Model_level_113 : decode prog_10_method_26_code 113 = .ok (.getfield 24, 3) := by decide +kernel
theorem d_Model_level_116 : decode prog_10_method_26_code 116 = .ok (.iload_n 3, 1) := by decide +kernel
theorem d_Model_level_117 : decode prog_10_method_26_code 117 = .ok (.baload, 1) := by decide +kernel
theorem d_Model_level_118 : decode prog_10_method_26_code 118 = .ok (.iconst 1, 1) := by decide +kernel
theorem d_Model_level_119 : decode prog_10_method_26_code 119 = .ok (.iadd, 1) := by decide +kernel
theorem d_Model_level_120 : decode prog_10_method_26_code 120 = .ok (.ireturn, 1) := by decide +kernel
noncomputable def f_Model_level (a0 : Int32) (a1 : Int32) (M : oz_M) : Option (Int32 × oz_M) := (if (M.1 62 2) = 0 then (some 1) else ((f_Model_isElement a0 M).bind fun v2 => if v2 = 0 then (some 2) else (if a1 < 0 then (some 3) else (if 1 < a1 then (some 3) else (some 0))))).bind fun (z1 : Int32) => (some (oz_s M 62 0 z1)).bind fun M7 => if 0 < (M7.1 62 0) then (some (0, M7)) else (oz_b2 (f_Model_know M7) fun v8 M9 => (oz_lp (fun (s10 : Int32 × Int32) => (if s10.2 < (M9.1 62 1) then (if a1 = 0 then ((f_Model_isLess s10.2 a0 M9).bind fun v13 => if v13 = 0 then (some (.inl (s10.1, s10.2 + 1))) else (some (.inl (s10.1 ||| (1 <<< (s10.2 &&& 31)), s10.2 + 1)))) else ((f_Model_isLess a0 s10.2 M9).bind fun v11 => if v11 = 0 then (some (.inl (s10.1, s10.2 + 1))) else (some (.inl (s10.1 ||| (1 <<< (s10.2 &&& 31)), s10.2 + 1))))) else (some (.inr (s10.1, s10.2))) : Option ((Int32 × Int32) ⊕ (Int32 × Int32)))) (0, 0)).bind fun (y17 : Int32 × Int32) => (oz_in y17.1 16384).bind fun j18 => some ((M9.1 66 j18) + 1, M9))
set_option maxRecDepth 20000 in
set_option maxHeartbeats 4000000 in
theorem c_Model_level {l : Launch} {D : va_G} {cs : Nat → ClassId} {b : Nat} {a0 : Int32} {a1 : Int32} {M : oz_M} {vz : Int32} {Mz : oz_M} (hF : f_Model_level a0 a1 M = some (vz, Mz)) : oz_Met l D cs b y_Model_level prog_10_method_26_code 5 (some .int) (oz_rm 4) [.ref (b + 62), .int a0, .int a1] M (some (.int vz)) Mz := by
  refine oz_enter (by decide) (Nat.le_of_ble_eq_true rfl) (fun G cx hR e1 hRm e2 e3 e4 hnL => ?_)
  subst e1; subst e2; subst e3; subst e4
  refine (?_ : oz_R G 0 [(0, .ref (oz_b G + 62)), (1, .int a0), (2, .int a1)] [] M (f_Model_level a0 a1 M) (fun x => x = (vz, Mz))) _ hF rfl
  unfold f_Model_level
  refine oz_aload_n (q := 1) cx d_Model_level_0 rfl rfl 0 rfl ?_
  refine oz_aload_n (q := 2) cx d_Model_level_1 rfl rfl 0 rfl ?_
  refine oz_get (q := 5) cx 62 2 (by decide) (ci := 8) rfl rfl tin_Model (by decide) rfl rfl tw_788 d_Model_level_2 rfl ?_
  refine oz_seq (p2 := 38) (lv2 := fun (z1 : Int32) => [(0, .ref (oz_b G + 62)), (1, .int a0), (2, .int a1)]) (st2 := fun z1 => [.int z1, .ref (oz_b G + 62)]) (M2 := fun z1 => M) ?_ (fun z1 => ?_)
  · refine oz_if_ne (q := 8) cx d_Model_level_5 rfl rfl (fun h6 => ?_) (fun h6 => ?_)
    · refine oz_aload_n (q := 13) cx d_Model_level_12 rfl rfl 0 rfl ?_
      refine oz_iload_n (q := 14) cx d_Model_level_13 rfl rfl 1 rfl ?_
      refine oz_cVip (q := 17) cx 62 [.int a0] 1 8 hRm (by decide) (by decide) (fun _ h => c_Model_isElement h) ⟨tw_859, tw_861, ts_32, tw_9⟩ tw_862 (by decide +kernel) rfl (by decide) rfl rfl (st := [.ref (oz_b G + 62)]) rfl (Nat.le_of_ble_eq_true rfl) d_Model_level_14 rfl (fun v2 hv2 => ?_)
      refine oz_if_ne (q := 20) cx d_Model_level_17 rfl rfl (fun h5 => ?_) (fun h5 => ?_)
      · refine oz_iload_n (q := 25) cx d_Model_level_24 rfl rfl 2 rfl ?_
        refine oz_if_lt (q := 28) cx d_Model_level_25 rfl rfl (fun h4 => ?_) (fun h4 => ?_)
        · refine oz_iconst (q := 34) cx d_Model_level_33 rfl (v := 3) rfl ?_
          refine oz_goto cx d_Model_level_34 rfl ?_
          exact oz_lv [0, 1, 2] rfl (oz_leaf (fun h => h))
        · refine oz_iload_n (q := 29) cx d_Model_level_28 rfl rfl 2 rfl ?_
          refine oz_iconst (q := 30) cx d_Model_level_29 rfl (v := 1) rfl ?_
          refine oz_icmp_le (q := 33) cx d_Model_level_30 rfl rfl (fun h3 => ?_) (fun h3 => ?_)
          · refine oz_iconst (q := 38) cx d_Model_level_37 rfl (v := 0) rfl ?_
            exact oz_lv [0, 1, 2] rfl (oz_leaf (fun h => h))
          · refine oz_iconst (q := 34) cx d_Model_level_33 rfl (v := 3) rfl ?_
            refine oz_goto cx d_Model_level_34 rfl ?_
            exact oz_lv [0, 1, 2] rfl (oz_leaf (fun h => h))
      · refine oz_iconst (q := 21) cx d_Model_level_20 rfl (v := 2) rfl ?_
        refine oz_goto cx d_Model_level_21 rfl ?_
        exact oz_lv [0, 1, 2] rfl (oz_leaf (fun h => h))
    · refine oz_iconst (q := 9) cx d_Model_level_8 rfl (v := 1) rfl ?_
      refine oz_goto cx d_Model_level_9 rfl ?_
      exact oz_lv [0, 1, 2] rfl (oz_leaf (fun h => h))
  · refine oz_put (q := 41) cx 62 0 (by decide) (ci := 8) rfl rfl rfl tin_Model t_Model t_Model_ok n_Model (by decide) (Nat.le_of_ble_eq_true rfl) rfl tw_786 rfl rfl rfl d_Model_level_38 rfl ?_
    refine oz_nm (fun M7 hM7 => ?_)
    refine oz_aload_n (q := 42) cx d_Model_level_41 rfl rfl 0 rfl ?_
    refine oz_get (q := 45) cx 62 0 (by decide) (ci := 8) rfl rfl tin_Model (by decide) rfl rfl tw_786 d_Model_level_42 rfl ?_
    refine oz_if_le (q := 48) cx d_Model_level_45 rfl rfl (fun h19 => ?_) (fun h19 => ?_)
    · refine oz_aload_n (q := 51) cx d_Model_level_50 rfl rfl 0 rfl ?_
      refine oz_cVv (q := 54) cx 62 [] 0 8 hRm (by decide) (by decide) (fun _ _ h => c_Model_know h) ⟨tw_915, tw_917, ts_40, tw_9⟩ tw_918 (by decide +kernel) rfl (by decide) rfl rfl (st := []) rfl (Nat.le_of_ble_eq_true rfl) d_Model_level_51 rfl (fun v8 M9 hv8 => ?_)
      refine oz_iconst (q := 55) cx d_Model_level_54 rfl (v := 0) rfl ?_
      refine oz_istore_n (q := 56) cx d_Model_level_55 rfl rfl (by rw [hnL]; decide) (lv2 := [(3, .int 0), (0, .ref (oz_b G + 62)), (1, .int a0), (2, .int a1)]) rfl ?_
      refine oz_iconst (q := 57) cx d_Model_level_56 rfl (v := 0) rfl ?_
      refine oz_istore (q := 59) cx d_Model_level_57 rfl (by rw [hnL]; decide) (lv2 := [(4, .int 0), (3, .int 0), (0, .ref (oz_b G + 62)), (1, .int a0), (2, .int a1)]) rfl ?_
      refine oz_lv [2, 3, 4, 1, 0] rfl ?_
      refine oz_seq (p2 := 112) (lv2 := fun (y17 : Int32 × Int32) => [(0, .ref (oz_b G + 62)), (3, .int y17.1)]) (st2 := fun y17 => []) (M2 := fun y17 => M9) ?_ (fun y17 => ?_)
      · refine oz_loop (Y := Int32 × Int32) 59 (fun (s10 : Int32 × Int32) => [(0, .ref (oz_b G + 62)), (1, .int a0), (2, .int a1), (3, .int s10.1), (4, .int s10.2)]) (fun (s10 : Int32 × Int32) => M9) (0, 0) (fun s10 => ?_)
        refine oz_iload (q := 61) cx d_Model_level_59 rfl 4 rfl ?_
        refine oz_aload_n (q := 62) cx d_Model_level_61 rfl rfl 0 rfl ?_
        refine oz_get (q := 65) cx 62 1 (by decide) (ci := 8) rfl rfl tin_Model (by decide) rfl rfl tw_787 d_Model_level_62 rfl ?_
        refine oz_icmp_ge (q := 68) cx d_Model_level_65 rfl rfl (fun h16 => ?_) (fun h16 => ?_)
        · exact oz_lv [0, 3] rfl (oz_leaf (fun h => h))
        · refine oz_iload_n (q := 69) cx d_Model_level_68 rfl rfl 2 rfl ?_
          refine oz_if_ne (q := 72) cx d_Model_level_69 rfl rfl (fun h15 => ?_) (fun h15 => ?_)
          · refine oz_aload_n (q := 86) cx d_Model_level_85 rfl rfl 0 rfl ?_
            refine oz_iload_n (q := 87) cx d_Model_level_86 rfl rfl 1 rfl ?_
            refine oz_iload (q := 89) cx d_Model_level_87 rfl 4 rfl ?_
            refine oz_cVip (q := 92) cx 62 [.int a0, .int s10.2] 2 8 hRm (by decide) (by decide) (fun _ h => c_Model_isLess h) ⟨tw_871, tw_873, ts_33, tw_9⟩ tw_874 (by decide +kernel) rfl (by decide) rfl rfl (st := []) rfl (Nat.le_of_ble_eq_true rfl) d_Model_level_89 rfl (fun v11 hv11 => ?_)
            refine oz_if_eq (q := 95) cx d_Model_level_92 rfl rfl (fun h12 => ?_) (fun h12 => ?_)
            · refine oz_iload_n (q := 105) cx d_Model_level_104 rfl rfl 3 rfl ?_
              refine oz_istore_n (q := 106) cx d_Model_level_105 rfl rfl (by rw [hnL]; decide) (lv2 := [(3, .int s10.1), (0, .ref (oz_b G + 62)), (1, .int a0), (2, .int a1), (4, .int s10.2)]) rfl ?_
              refine oz_iinc (q := 109) cx (s10.2 + 1) d_Model_level_106 rfl 4 rfl rfl (by rw [hnL]; decide) (lv2 := [(4, .int (s10.2 + 1)), (3, .int s10.1), (0, .ref (oz_b G + 62)), (1, .int a0), (2, .int a1)]) rfl ?_
              refine oz_goto cx d_Model_level_109 rfl ?_
              exact oz_lv [2, 3, 4, 1, 0] rfl (oz_leaf (fun h => h))
            · refine oz_iload_n (q := 96) cx d_Model_level_95 rfl rfl 3 rfl ?_
              refine oz_iconst (q := 97) cx d_Model_level_96 rfl (v := 1) rfl ?_
              refine oz_iload (q := 99) cx d_Model_level_97 rfl 4 rfl ?_
              refine oz_ishl (q := 100) cx d_Model_level_99 rfl ?_
              refine oz_ior (q := 101) cx d_Model_level_100 rfl ?_
              refine oz_goto cx d_Model_level_101 rfl ?_
              refine oz_istore_n (q := 106) cx d_Model_level_105 rfl rfl (by rw [hnL]; decide) (lv2 := [(3, .int (s10.1 ||| (1 <<< (s10.2 &&& 31)))), (0, .ref (oz_b G + 62)), (1, .int a0), (2, .int a1), (4, .int s10.2)]) rfl ?_
              refine oz_iinc (q := 109) cx (s10.2 + 1) d_Model_level_106 rfl 4 rfl rfl (by rw [hnL]; decide) (lv2 := [(4, .int (s10.2 + 1)), (3, .int (s10.1 ||| (1 <<< (s10.2 &&& 31)))), (0, .ref (oz_b G + 62)), (1, .int a0), (2, .int a1)]) rfl ?_
              refine oz_goto cx d_Model_level_109 rfl ?_
              exact oz_lv [2, 3, 4, 1, 0] rfl (oz_leaf (fun h => h))
          · refine oz_aload_n (q := 73) cx d_Model_level_72 rfl rfl 0 rfl ?_
            refine oz_iload (q := 75) cx d_Model_level_73 rfl 4 rfl ?_
            refine oz_iload_n (q := 76) cx d_Model_level_75 rfl rfl 1 rfl ?_
            refine oz_cVip (q := 79) cx 62 [.int s10.2, .int a0] 2 8 hRm (by decide) (by decide) (fun _ h => c_Model_isLess h) ⟨tw_871, tw_873, ts_33, tw_9⟩ tw_874 (by decide +kernel) rfl (by decide) rfl rfl (st := []) rfl (Nat.le_of_ble_eq_true rfl) d_Model_level_76 rfl (fun v13 hv13 => ?_)
            refine oz_if_eq (q := 82) cx d_Model_level_79 rfl rfl (fun h14 => ?_) (fun h14 => ?_)
            · refine oz_iload_n (q := 105) cx d_Model_level_104 rfl rfl 3 rfl ?_
              refine oz_istore_n (q := 106) cx d_Model_level_105 rfl rfl (by rw [hnL]; decide) (lv2 := [(3, .int s10.1), (0, .ref (oz_b G + 62)), (1, .int a0), (2, .int a1), (4, .int s10.2)]) rfl ?_
              refine oz_iinc (q := 109) cx (s10.2 + 1) d_Model_level_106 rfl 4 rfl rfl (by rw [hnL]; decide) (lv2 := [(4, .int (s10.2 + 1)), (3, .int s10.1), (0, .ref (oz_b G + 62)), (1, .int a0), (2, .int a1)]) rfl ?_
              refine oz_goto cx d_Model_level_109 rfl ?_
              exact oz_lv [2, 3, 4, 1, 0] rfl (oz_leaf (fun h => h))
            · refine oz_goto cx d_Model_level_82 rfl ?_
              refine oz_iload_n (q := 96) cx d_Model_level_95 rfl rfl 3 rfl ?_
              refine oz_iconst (q := 97) cx d_Model_level_96 rfl (v := 1) rfl ?_
              refine oz_iload (q := 99) cx d_Model_level_97 rfl 4 rfl ?_
              refine oz_ishl (q := 100) cx d_Model_level_99 rfl ?_
              refine oz_ior (q := 101) cx d_Model_level_100 rfl ?_
              refine oz_goto cx d_Model_level_101 rfl ?_
              refine oz_istore_n (q := 106) cx d_Model_level_105 rfl rfl (by rw [hnL]; decide) (lv2 := [(3, .int (s10.1 ||| (1 <<< (s10.2 &&& 31)))), (0, .ref (oz_b G + 62)), (1, .int a0), (2, .int a1), (4, .int s10.2)]) rfl ?_
              refine oz_iinc (q := 109) cx (s10.2 + 1) d_Model_level_106 rfl 4 rfl rfl (by rw [hnL]; decide) (lv2 := [(4, .int (s10.2 + 1)), (3, .int (s10.1 ||| (1 <<< (s10.2 &&& 31)))), (0, .ref (oz_b G + 62)), (1, .int a0), (2, .int a1)]) rfl ?_
              refine oz_goto cx d_Model_level_109 rfl ?_
              exact oz_lv [2, 3, 4, 1, 0] rfl (oz_leaf (fun h => h))
      · refine oz_aload_n (q := 113) cx d_Model_level_112 rfl rfl 0 rfl ?_
        refine oz_get (q := 116) cx 62 7 (by decide) (ci := 8) rfl rfl tin_Model (by decide) rfl rfl tw_793 d_Model_level_113 rfl ?_
        refine oz_iload_n (q := 117) cx d_Model_level_116 rfl rfl 1 rfl ?_
        refine oz_bald (q := 118) cx 66 16384 (by decide) rfl d_Model_level_117 rfl (fun j18 hj18 => ?_)
        refine oz_iconst (q := 119) cx d_Model_level_118 rfl (v := 1) rfl ?_
        refine oz_iadd (q := 120) cx d_Model_level_119 rfl ?_
        exact oz_iret cx hR d_Model_level_120
    · refine oz_iconst (q := 49) cx d_Model_level_48 rfl (v := 0) rfl ?_
      exact oz_iret cx hR d_Model_level_49
def y_Model_number : MethodName := ⟨"OrderHallModel", "number", "()J"⟩
theorem d_Model_number_0 : decode prog_10_method_41_code 0 = .ok (.aload_n 0, 1) := by decide +kernel
theorem d_Model_number_1 : decode prog_10_method_41_code 1 = .ok (.iconst 0, 1) := by decide +kernel
theorem d_Model_number_2 : decode prog_10_method_41_code 2 = .ok (.putfield 50, 3) := by decide +kernel
theorem d_Model_number_5 : decode prog_10_method_41_code 5 = .ok (.aload_n 0, 1) := by decide +kernel
theorem d_Model_number_6 : decode prog_10_method_41_code 6 = .ok (.getfield 57, 3) := by decide +kernel
theorem d_Model_number_9 : decode prog_10_method_41_code 9 = .ok (.ifCond .ne 7, 3) := by decide +kernel
theorem d_Model_number_12 : decode prog_10_method_41_code 12 = .ok (.ldc2_w 136, 3) := by decide +kernel
theorem d_Model_number_15 : decode prog_10_method_41_code 15 = .ok (.lreturn, 1) := by decide +kernel
theorem d_Model_number_16 : decode prog_10_method_41_code 16 = .ok (.aload_n 0, 1) := by decide +kernel
theorem d_Model_number_17 : decode prog_10_method_41_code 17 = .ok (.invokevirtual 115, 3) := by decide +kernel
theorem d_Model_number_20 : decode prog_10_method_41_code 20 = .ok (.iconst 0, 1) := by decide +kernel
theorem d_Model_number_21 : decode prog_10_method_41_code 21 = .ok (.istore_n 1, 1) := by decide +kernel
theorem d_Model_number_22 : decode prog_10_method_41_code 22 = .ok (.lconst 0, 1) := by decide +kernel
theorem d_Model_number_23 : decode prog_10_method_41_code 23 = .ok (.lstore_n 2, 1) := by decide +kernel
theorem d_Model_number_24 : decode prog_10_method_41_code 24 = .ok (.iconst 0, 1) := by decide +kernel
theorem d_Model_number_25 : decode prog_10_method_41_code 25 = .ok (.istore 4, 2) := by decide +kernel
theorem d_Model_number_27 : decode prog_10_method_41_code 27 = .ok (.iload 4, 2) := by decide +kernel
theorem d_Model_number_29 : decode prog_10_method_41_code 29 = .ok (.aload_n 0, 1) := by decide +kernel
theorem d_Model_number_30 : decode prog_10_method_41_code 30 = .ok (.getfield 7, 3) := by decide +kernel
theorem d_Model_number_33 : decode prog_10_method_41_code 33 = .ok (.if_icmp .ge 70, 3) := by decide +kernel
theorem d_Model_number_36 : decode prog_10_method_41_code 36 = .ok (.iconst 0, 1) := by decide +kernel
theorem d_Model_number_37 : decode prog_10_method_41_code 37 = .ok (.istore 5, 2) := by decide +kernel
theorem d_Model_number_39 : decode prog_10_method_41_code 39 = .ok (.iload 5, 2) := by decide +kernel
theorem d_Model_number_41 : decode prog_10_method_41_code 41 = .ok (.aload_n 0, 1) := by decide +kernel
theorem d_Model_number_42 : decode prog_10_method_41_code 42 = .ok (.getfield 35, 3) := by decide +kernel
theorem d_Model_number_45 : decode prog_10_method_41_code 45 = .ok (.iload 4, 2) := by decide +kernel
theorem d_Model_number_47 : decode prog_10_method_41_code 47 = .ok (.iaload, 1) := by decide +kernel
theorem d_Model_number_48 : decode prog_10_method_41_code 48 = .ok (.if_icmp .ge 37, 3) := by decide +kernel
theorem d_Model_number_51 : decode prog_10_method_41_code 51 = .ok (.aload_n 0, 1) := by decide +kernel
theorem d_Model_number_52 : decode prog_10_method_41_code 52 = .ok (.iload 5, 2) := by decide +kernel
theorem d_Model_number_54 : decode prog_10_method_41_code 54 = .ok (.iload_n 1, 1) := by decide +kernel
theorem d_Model_number_55 : decode prog_10_method_41_code 55 = .ok (.invokevirtual 112, 3) := by decide +kernel
theorem d_Model_number_58 : decode prog_10_method_41_code 58 = .ok (.ifCond .eq 19, 3) := by decide +kernel
theorem d_Model_number_61 : decode prog_10_method_41_code 61 = .ok (.lload_n 2, 1) := by decide +kernel
theorem d_Model_number_62 : decode prog_10_method_41_code 62 = .ok (.aload_n 0, 1) := by decide +kernel
theorem d_Model_number_63 : decode prog_10_method_41_code 63 = .ok (.getfield 31, 3) := by decide +kernel
theorem d_Model_number_66 : decode prog_10_method_41_code 66 = .ok (.iload_n 1, 1) := by decide +kernel
theorem d_Model_number_67 : decode prog_10_method_41_code 67 = .ok (.iconst 1, 1) := by decide +kernel
theorem d_Model_number_68 : decode prog_10_method_41_code 68 = .ok (.iload 5, 2) := by decide +kernel
theorem d_Model_number_70 : decode prog_10_method_41_code 70 = .ok (.ishl, 1) := by decide +kernel
theorem d_Model_number_71 : decode prog_10_method_41_code 71 = .ok (.ior, 1) := by decide +kernel
theorem d_Model_number_72 : decode prog_10_method_41_code 72 = .ok (.laload, 1) := by decide +kernel
theorem d_Model_number_73 : decode prog_10_method_41_code 73 = .ok (.ladd, 1) := by decide +kernel
theorem d_Model_number_74 : decode prog_10_method_41_code 74 = .ok (.goto 4, 3) := by decide +kernel
theorem d_Model_number_77 : decode prog_10_method_41_code 77 = .ok (.lload_n 2, 1) := by decide +kernel
theorem d_Model_number_78 : decode prog_10_method_41_code 78 = .ok (.lstore_n 2, 1) := by decide +kernel
theorem d_Model_number_79 : decode prog_10_method_41_code 79 = .ok (.iinc 5 1, 3) := by decide +kernel
theorem d_Model_number_82 : decode prog_10_method_41_code 82 = .ok (.goto (-43), 3) := by decide +kernel
theorem d_Model_number_85 : decode prog_10_method_41_code 85 = .ok (.iload_n 1, 1) := by decide +kernel
theorem d_Model_number_86 : decode prog_10_method_41_code 86 = .ok (.iconst 1, 1) := by decide +kernel
theorem d_Model_number_87 : decode prog_10_method_41_code 87 = .ok (.aload_n 0, 1) := by decide +kernel
theorem d_Model_number_88 : decode prog_10_method_41_code 88 = .ok (.getfield 35, 3) := by decide +kernel
theorem d_Model_number_91 : decode prog_10_method_41_code 91 = .ok (.iload 4, 2) := by decide +kernel
theorem d_Model_number_93 : decode prog_10_method_41_code 93 = .ok (.iaload, 1) := by decide +kernel
theorem d_Model_number_94 : decode prog_10_method_41_code 94 = .ok (.ishl, 1) := by decide +kernel
theorem d_Model_number_95 : decode prog_10_method_41_code 95 = .ok (.ior, 1) := by decide +kernel
theorem d_Model_number_96 : decode prog_10_method_41_code 96 = .ok (.istore_n 1, 1) := by decide +kernel
theorem d_Model_number_97 : decode prog_10_method_41_code 97 = .ok (.iinc 4 1, 3) := by decide +kernel
theorem d_Model_number_100 : decode prog_10_method_41_code 100 = .ok (.goto (-73), 3) := by decide +kernel
theorem d_Model_number_103 : decode prog_10_method_41_code 103 = .ok (.lload_n 2, 1) := by decide +kernel
theorem d_Model_number_104 : decode prog_10_method_41_code 104 = .ok (.lreturn, 1) := by decide +kernel
noncomputable def f_Model_number (M : oz_M) : Option (Int64 × oz_M) := (some (oz_s M 62 0 0)).bind fun M1 => if (M1.1 62 12) = 0 then (some ((-1), M1)) else (oz_b2 (f_Model_know M1) fun v2 M3 => (oz_lp (fun (s4 : Int32 × Int64 × Int32) => (if s4.2.2 < (M3.1 62 1) then ((oz_lp (fun (s5 : Int64 × Int32) => ((oz_in s4.2.2 14).bind fun j6 => if s5.2 < (M3.1 69 j6) then ((f_Model_mayCome s5.2 s4.1 M3).bind fun v7 => if v7 = 0 then (some (.inl (s5.1, s5.2 + 1))) else ((oz_in (s4.1 ||| (1 <<< (s5.2 &&& 31))) 16384).bind fun j8 => some (.inl (s5.1 + (M3.2 68 j8), s5.2 + 1)))) else (some (.inr (s5.1, s5.2))) : Option ((Int64 × Int32) ⊕ (Int64 × Int32)))) (s4.2.1, 0)).bind fun (y11 : Int64 × Int32) => (oz_in s4.2.2 14).bind fun j12 => some (.inl (s4.1 ||| (1 <<< ((M3.1 69 j12) &&& 31)), y11.1, s4.2.2 + 1))) else (some (.inr (s4.1, s4.2.1, s4.2.2))) : Option ((Int32 × Int64 × Int32) ⊕ (Int32 × Int64 × Int32)))) (0, 0, 0)).bind fun (y14 : Int32 × Int64 × Int32) => some (y14.2.1, M3))
set_option maxRecDepth 20000 in
set_option maxHeartbeats 4000000 in
theorem c_Model_number {l : Launch} {D : va_G} {cs : Nat → ClassId} {b : Nat} {M : oz_M} {vz : Int64} {Mz : oz_M} (hF : f_Model_number M = some (vz, Mz)) : oz_Met l D cs b y_Model_number prog_10_method_41_code 6 (some .long) (oz_rm 4) [.ref (b + 62)] M (some (.long vz)) Mz := by
  refine oz_enter (by decide) (Nat.le_of_ble_eq_true rfl) (fun G cx hR e1 hRm e2 e3 e4 hnL => ?_)
  subst e1; subst e2; subst e3; subst e4
  refine (?_ : oz_R G 0 [(0, .ref (oz_b G + 62))] [] M (f_Model_number  M) (fun x => x = (vz, Mz))) _ hF rfl
  unfold f_Model_number
  refine oz_aload_n (q := 1) cx d_Model_number_0 rfl rfl 0 rfl ?_
  refine oz_iconst (q := 2) cx d_Model_number_1 rfl (v := 0) rfl ?_
  refine oz_put (q := 5) cx 62 0 (by decide) (ci := 8) rfl rfl rfl tin_Model t_Model t_Model_ok n_Model (by decide) (Nat.le_of_ble_eq_true rfl) rfl tw_786 rfl rfl rfl d_Model_number_2 rfl ?_
  refine oz_nm (fun M1 hM1 => ?_)
  refine oz_aload_n (q := 6) cx d_Model_number_5 rfl rfl 0 rfl ?_
  refine oz_get (q := 9) cx 62 12 (by decide) (ci := 8) rfl rfl tin_Model (by decide) rfl rfl tw_798 d_Model_number_6 rfl ?_
  refine oz_if_ne (q := 12) cx d_Model_number_9 rfl rfl (fun h15 => ?_) (fun h15 => ?_)
  · refine oz_aload_n (q := 17) cx d_Model_number_16 rfl rfl 0 rfl ?_
    refine oz_cVv (q := 20) cx 62 [] 0 8 hRm (by decide) (by decide) (fun _ _ h => c_Model_know h) ⟨tw_915, tw_917, ts_40, tw_9⟩ tw_918 (by decide +kernel) rfl (by decide) rfl rfl (st := []) rfl (Nat.le_of_ble_eq_true rfl) d_Model_number_17 rfl (fun v2 M3 hv2 => ?_)
    refine oz_iconst (q := 21) cx d_Model_number_20 rfl (v := 0) rfl ?_
    refine oz_istore_n (q := 22) cx d_Model_number_21 rfl rfl (by rw [hnL]; decide) (lv2 := [(1, .int 0), (0, .ref (oz_b G + 62))]) rfl ?_
    refine oz_lconst (q := 23) cx d_Model_number_22 rfl (v := 0) rfl ?_
    refine oz_lstore_n (q := 24) cx d_Model_number_23 rfl rfl (by rw [hnL]; decide) (lv2 := [(2, .long 0), (1, .int 0), (0, .ref (oz_b G + 62))]) rfl ?_
    refine oz_iconst (q := 25) cx d_Model_number_24 rfl (v := 0) rfl ?_
    refine oz_istore (q := 27) cx d_Model_number_25 rfl (by rw [hnL]; decide) (lv2 := [(4, .int 0), (2, .long 0), (1, .int 0), (0, .ref (oz_b G + 62))]) rfl ?_
    refine oz_lv [3, 2, 1, 0] rfl ?_
    refine oz_seq (p2 := 103) (lv2 := fun (y14 : Int32 × Int64 × Int32) => [(2, .long y14.2.1)]) (st2 := fun y14 => []) (M2 := fun y14 => M3) ?_ (fun y14 => ?_)
    · refine oz_loop (Y := Int32 × Int64 × Int32) 27 (fun (s4 : Int32 × Int64 × Int32) => [(0, .ref (oz_b G + 62)), (1, .int s4.1), (2, .long s4.2.1), (4, .int s4.2.2)]) (fun (s4 : Int32 × Int64 × Int32) => M3) (0, 0, 0) (fun s4 => ?_)
      refine oz_iload (q := 29) cx d_Model_number_27 rfl 3 rfl ?_
      refine oz_aload_n (q := 30) cx d_Model_number_29 rfl rfl 0 rfl ?_
      refine oz_get (q := 33) cx 62 1 (by decide) (ci := 8) rfl rfl tin_Model (by decide) rfl rfl tw_787 d_Model_number_30 rfl ?_
      refine oz_icmp_ge (q := 36) cx d_Model_number_33 rfl rfl (fun h13 => ?_) (fun h13 => ?_)
      · exact oz_lv [2] rfl (oz_leaf (fun h => h))
      · refine oz_iconst (q := 37) cx d_Model_number_36 rfl (v := 0) rfl ?_
        refine oz_istore (q := 39) cx d_Model_number_37 rfl (by rw [hnL]; decide) (lv2 := [(5, .int 0), (0, .ref (oz_b G + 62)), (1, .int s4.1), (2, .long s4.2.1), (4, .int s4.2.2)]) rfl ?_
        refine oz_lv [1, 2, 3, 4, 0] rfl ?_
        refine oz_seq (p2 := 85) (lv2 := fun (y11 : Int64 × Int32) => [(0, .ref (oz_b G + 62)), (1, .int s4.1), (2, .long y11.1), (4, .int s4.2.2)]) (st2 := fun y11 => []) (M2 := fun y11 => M3) ?_ (fun y11 => ?_)
        · refine oz_loop (Y := Int64 × Int32) 39 (fun (s5 : Int64 × Int32) => [(0, .ref (oz_b G + 62)), (1, .int s4.1), (2, .long s5.1), (4, .int s4.2.2), (5, .int s5.2)]) (fun (s5 : Int64 × Int32) => M3) (s4.2.1, 0) (fun s5 => ?_)
          refine oz_iload (q := 41) cx d_Model_number_39 rfl 4 rfl ?_
          refine oz_aload_n (q := 42) cx d_Model_number_41 rfl rfl 0 rfl ?_
          refine oz_get (q := 45) cx 62 11 (by decide) (ci := 8) rfl rfl tin_Model (by decide) rfl rfl tw_797 d_Model_number_42 rfl ?_
          refine oz_iload (q := 47) cx d_Model_number_45 rfl 3 rfl ?_
          refine oz_iald (q := 48) cx 69 14 (by decide) rfl d_Model_number_47 rfl (fun j6 hj6 => ?_)
          refine oz_icmp_ge (q := 51) cx d_Model_number_48 rfl rfl (fun h10 => ?_) (fun h10 => ?_)
          · exact oz_lv [0, 1, 2, 3] rfl (oz_leaf (fun h => h))
          · refine oz_aload_n (q := 52) cx d_Model_number_51 rfl rfl 0 rfl ?_
            refine oz_iload (q := 54) cx d_Model_number_52 rfl 4 rfl ?_
            refine oz_iload_n (q := 55) cx d_Model_number_54 rfl rfl 1 rfl ?_
            refine oz_cVip (q := 58) cx 62 [.int s5.2, .int s4.1] 2 8 hRm (by decide) (by decide) (fun _ h => c_Model_mayCome h) ⟨tw_933, tw_935, ts_43, tw_9⟩ tw_936 (by decide +kernel) rfl (by decide) rfl rfl (st := []) rfl (Nat.le_of_ble_eq_true rfl) d_Model_number_55 rfl (fun v7 hv7 => ?_)
            refine oz_if_eq (q := 61) cx d_Model_number_58 rfl rfl (fun h9 => ?_) (fun h9 => ?_)
            · refine oz_lload_n (q := 78) cx d_Model_number_77 rfl rfl 2 rfl ?_
              refine oz_lstore_n (q := 79) cx d_Model_number_78 rfl rfl (by rw [hnL]; decide) (lv2 := [(2, .long s5.1), (0, .ref (oz_b G + 62)), (1, .int s4.1), (4, .int s4.2.2), (5, .int s5.2)]) rfl ?_
              refine oz_iinc (q := 82) cx (s5.2 + 1) d_Model_number_79 rfl 4 rfl rfl (by rw [hnL]; decide) (lv2 := [(5, .int (s5.2 + 1)), (2, .long s5.1), (0, .ref (oz_b G + 62)), (1, .int s4.1), (4, .int s4.2.2)]) rfl ?_
              refine oz_goto cx d_Model_number_82 rfl ?_
              exact oz_lv [2, 3, 1, 4, 0] rfl (oz_leaf (fun h => h))
            · refine oz_lload_n (q := 62) cx d_Model_number_61 rfl rfl 2 rfl ?_
              refine oz_aload_n (q := 63) cx d_Model_number_62 rfl rfl 0 rfl ?_
              refine oz_get (q := 66) cx 62 9 (by decide) (ci := 8) rfl rfl tin_Model (by decide) rfl rfl tw_795 d_Model_number_63 rfl ?_
              refine oz_iload_n (q := 67) cx d_Model_number_66 rfl rfl 1 rfl ?_
              refine oz_iconst (q := 68) cx d_Model_number_67 rfl (v := 1) rfl ?_
              refine oz_iload (q := 70) cx d_Model_number_68 rfl 4 rfl ?_
              refine oz_ishl (q := 71) cx d_Model_number_70 rfl ?_
              refine oz_ior (q := 72) cx d_Model_number_71 rfl ?_
              refine oz_lald (q := 73) cx 68 16384 (by decide) rfl d_Model_number_72 rfl (fun j8 hj8 => ?_)
              refine oz_ladd (q := 74) cx d_Model_number_73 rfl ?_
              refine oz_goto cx d_Model_number_74 rfl ?_
              refine oz_lstore_n (q := 79) cx d_Model_number_78 rfl rfl (by rw [hnL]; decide) (lv2 := [(2, .long (s5.1 + (M3.2 68 j8))), (0, .ref (oz_b G + 62)), (1, .int s4.1), (4, .int s4.2.2), (5, .int s5.2)]) rfl ?_
              refine oz_iinc (q := 82) cx (s5.2 + 1) d_Model_number_79 rfl 4 rfl rfl (by rw [hnL]; decide) (lv2 := [(5, .int (s5.2 + 1)), (2, .long (s5.1 + (M3.2 68 j8))), (0, .ref (oz_b G + 62)), (1, .int s4.1), (4, .int s4.2.2)]) rfl ?_
              refine oz_goto cx d_Model_number_82 rfl ?_
              exact oz_lv [2, 3, 1, 4, 0] rfl (oz_leaf (fun h => h))
        · refine oz_iload_n (q := 86) cx d_Model_number_85 rfl rfl 1 rfl ?_
          refine oz_iconst (q := 87) cx d_Model_number_86 rfl (v := 1) rfl ?_
          refine oz_aload_n (q := 88) cx d_Model_number_87 rfl rfl 0 rfl ?_
          refine oz_get (q := 91) cx 62 11 (by decide) (ci := 8) rfl rfl tin_Model (by decide) rfl rfl tw_797 d_Model_number_88 rfl ?_
          refine oz_iload (q := 93) cx d_Model_number_91 rfl 3 rfl ?_
          refine oz_iald (q := 94) cx 69 14 (by decide) rfl d_Model_number_93 rfl (fun j12 hj12 => ?_)
          refine oz_ishl (q := 95) cx d_Model_number_94 rfl ?_
          refine oz_ior (q := 96) cx d_Model_number_95 rfl ?_
          refine oz_istore_n (q := 97) cx d_Model_number_96 rfl rfl (by rw [hnL]; decide) (lv2 := [(1, .int (s4.1 ||| (1 <<< ((M3.1 69 j12) &&& 31)))), (0, .ref (oz_b G + 62)), (2, .long y11.1), (4, .int s4.2.2)]) rfl ?_
          refine oz_iinc (q := 100) cx (s4.2.2 + 1) d_Model_number_97 rfl 3 rfl rfl (by rw [hnL]; decide) (lv2 := [(4, .int (s4.2.2 + 1)), (1, .int (s4.1 ||| (1 <<< ((M3.1 69 j12) &&& 31)))), (0, .ref (oz_b G + 62)), (2, .long y11.1)]) rfl ?_
          refine oz_goto cx d_Model_number_100 rfl ?_
          exact oz_lv [2, 1, 3, 0] rfl (oz_leaf (fun h => h))
    · refine oz_lload_n (q := 104) cx d_Model_number_103 rfl rfl 0 rfl ?_
      exact oz_lret cx hR d_Model_number_104
  · refine oz_ldc2_w (q := 15) cx (v := (-1)) tw_997 d_Model_number_12 rfl ?_
    exact oz_lret cx hR d_Model_number_15
def y_Model_sequences : MethodName := ⟨"OrderHallModel", "sequences", "()J"⟩
theorem d_Model_sequences_0 : decode prog_10_method_37_code 0 = .ok (.aload_n 0, 1) := by decide +kernel
theorem d_Model_sequences_1 : decode prog_10_method_37_code 1 = .ok (.aload_n 0, 1) := by decide +kernel
theorem d_Model_sequences_2 : decode prog_10_method_37_code 2 = .ok (.getfield 53, 3) := by decide +kernel
theorem d_Model_sequences_5 : decode prog_10_method_37_code 5 = .ok (.ifCond .eq 7, 3) := by decide +kernel
theorem d_Model_sequences_8 : decode prog_10_method_37_code 8 = .ok (.iconst 0, 1) := by decide +kernel
theorem d_Model_sequences_9 : decode prog_10_method_37_code 9 = .ok (.goto 4, 3) := by decide +kernel
theorem d_Model_sequences_12 : decode prog_10_method_37_code 12 = .ok (.iconst 1, 1) := by decide +kernel
theorem d_Model_sequences_13 : decode prog_10_method_37_code 13 = .ok (.putfield 50, 3) := by decide +kernel
theorem d_Model_sequences_16 : decode prog_10_method_37_code 16 = .ok (.aload_n 0, 1) := by decide +kernel
theorem d_Model_sequences_17 : decode prog_10_method_37_code 17 = .ok (.getfield 50, 3) := by decide +kernel
theorem d_Model_sequences_20 : decode prog_10_method_37_code 20 = .ok (.ifCond .le 5, 3) := by decide +kernel
theorem d_Model_sequences_23 : decode prog_10_method_37_code 23 = .ok (.lconst 0, 1) := by decide +kernel
theorem d_Model_sequences_24 : decode prog_10_method_37_code 24 = .ok (.lreturn, 1) := by decide +kernel
theorem d_Model_sequences_25 : decode prog_10_method_37_code 25 = .ok (.aload_n 0, 1) := by decide +kernel
theorem d_Model_sequences_26 : decode prog_10_method_37_code 26 = .ok (.invokevirtual 115, 3) := by decide +kernel
theorem d_Model_sequences_29 : decode prog_10_method_37_code 29 = .ok (.aload_n 0, 1) := by decide +kernel
theorem d_Model_sequences_30 : decode prog_10_method_37_code 30 = .ok (.getfield 31, 3) := by decide +kernel
theorem d_Model_sequences_33 : decode prog_10_method_37_code 33 = .ok (.iconst 0, 1) := by decide +kernel
theorem d_Model_sequences_34 : decode prog_10_method_37_code 34 = .ok (.laload, 1) := by decide +kernel
theorem d_Model_sequences_35 : decode prog_10_method_37_code 35 = .ok (.lreturn, 1) := by decide +kernel
noncomputable def f_Model_sequences (M : oz_M) : Option (Int64 × oz_M) := (if (M.1 62 2) = 0 then (some 1) else (some 0)).bind fun (z1 : Int32) => (some (oz_s M 62 0 z1)).bind fun M3 => if 0 < (M3.1 62 0) then (some (0, M3)) else (oz_b2 (f_Model_know M3) fun v4 M5 => (oz_in 0 16384).bind fun j6 => some (M5.2 68 j6, M5))
set_option maxRecDepth 20000 in
set_option maxHeartbeats 4000000 in
theorem c_Model_sequences {l : Launch} {D : va_G} {cs : Nat → ClassId} {b : Nat} {M : oz_M} {vz : Int64} {Mz : oz_M} (hF : f_Model_sequences M = some (vz, Mz)) : oz_Met l D cs b y_Model_sequences prog_10_method_37_code 1 (some .long) (oz_rm 4) [.ref (b + 62)] M (some (.long vz)) Mz := by
  refine oz_enter (by decide) (Nat.le_of_ble_eq_true rfl) (fun G cx hR e1 hRm e2 e3 e4 hnL => ?_)
  subst e1; subst e2; subst e3; subst e4
  refine (?_ : oz_R G 0 [(0, .ref (oz_b G + 62))] [] M (f_Model_sequences  M) (fun x => x = (vz, Mz))) _ hF rfl
  unfold f_Model_sequences
  refine oz_aload_n (q := 1) cx d_Model_sequences_0 rfl rfl 0 rfl ?_
  refine oz_aload_n (q := 2) cx d_Model_sequences_1 rfl rfl 0 rfl ?_
  refine oz_get (q := 5) cx 62 2 (by decide) (ci := 8) rfl rfl tin_Model (by decide) rfl rfl tw_788 d_Model_sequences_2 rfl ?_
  refine oz_seq (p2 := 13) (lv2 := fun (z1 : Int32) => [(0, .ref (oz_b G + 62))]) (st2 := fun z1 => [.int z1, .ref (oz_b G + 62)]) (M2 := fun z1 => M) ?_ (fun z1 => ?_)
  · refine oz_if_eq (q := 8) cx d_Model_sequences_5 rfl rfl (fun h2 => ?_) (fun h2 => ?_)
    · refine oz_iconst (q := 13) cx d_Model_sequences_12 rfl (v := 1) rfl ?_
      exact oz_lv [0] rfl (oz_leaf (fun h => h))
    · refine oz_iconst (q := 9) cx d_Model_sequences_8 rfl (v := 0) rfl ?_
      refine oz_goto cx d_Model_sequences_9 rfl ?_
      exact oz_lv [0] rfl (oz_leaf (fun h => h))
  · refine oz_put (q := 16) cx 62 0 (by decide) (ci := 8) rfl rfl rfl tin_Model t_Model t_Model_ok n_Model (by decide) (Nat.le_of_ble_eq_true rfl) rfl tw_786 rfl rfl rfl d_Model_sequences_13 rfl ?_
    refine oz_nm (fun M3 hM3 => ?_)
    refine oz_aload_n (q := 17) cx d_Model_sequences_16 rfl rfl 0 rfl ?_
    refine oz_get (q := 20) cx 62 0 (by decide) (ci := 8) rfl rfl tin_Model (by decide) rfl rfl tw_786 d_Model_sequences_17 rfl ?_
    refine oz_if_le (q := 23) cx d_Model_sequences_20 rfl rfl (fun h7 => ?_) (fun h7 => ?_)
    · refine oz_aload_n (q := 26) cx d_Model_sequences_25 rfl rfl 0 rfl ?_
      refine oz_cVv (q := 29) cx 62 [] 0 8 hRm (by decide) (by decide) (fun _ _ h => c_Model_know h) ⟨tw_915, tw_917, ts_40, tw_9⟩ tw_918 (by decide +kernel) rfl (by decide) rfl rfl (st := []) rfl (Nat.le_of_ble_eq_true rfl) d_Model_sequences_26 rfl (fun v4 M5 hv4 => ?_)
      refine oz_aload_n (q := 30) cx d_Model_sequences_29 rfl rfl 0 rfl ?_
      refine oz_get (q := 33) cx 62 9 (by decide) (ci := 8) rfl rfl tin_Model (by decide) rfl rfl tw_795 d_Model_sequences_30 rfl ?_
      refine oz_iconst (q := 34) cx d_Model_sequences_33 rfl (v := 0) rfl ?_
      refine oz_lald (q := 35) cx 68 16384 (by decide) rfl d_Model_sequences_34 rfl (fun j6 hj6 => ?_)
      exact oz_lret cx hR d_Model_sequences_35
    · refine oz_lconst (q := 24) cx d_Model_sequences_23 rfl (v := 0) rfl ?_
      exact oz_lret cx hR d_Model_sequences_24
def y_Model_settle : MethodName := ⟨"OrderHallModel", "settle", "()I"⟩
theorem d_Model_settle_0 : decode prog_10_method_15_code 0 = .ok (.aload_n 0, 1) := by decide +kernel
theorem d_Model_settle_1 : decode prog_10_method_15_code 1 = .ok (.iconst 0, 1) := by decide +kernel
theorem d_Model_settle_2 : decode prog_10_method_15_code 2 = .ok (.putfield 50, 3) := by decide +kernel
theorem d_Model_settle_5 : decode prog_10_method_15_code 5 = .ok (.aload_n 0, 1) := by decide +kernel
theorem d_Model_settle_6 : decode prog_10_method_15_code 6 = .ok (.invokevirtual 66, 3) := by decide +kernel
theorem d_Model_settle_9 : decode prog_10_method_15_code 9 = .ok (.iconst 0, 1) := by decide +kernel
theorem d_Model_settle_10 : decode prog_10_method_15_code 10 = .ok (.istore_n 1, 1) := by decide +kernel
theorem d_Model_settle_11 : decode prog_10_method_15_code 11 = .ok (.iload_n 1, 1) := by decide +kernel
theorem d_Model_settle_12 : decode prog_10_method_15_code 12 = .ok (.sipush 196, 3) := by decide +kernel
theorem d_Model_settle_15 : decode prog_10_method_15_code 15 = .ok (.if_icmp .ge 21, 3) := by decide +kernel
theorem d_Model_settle_18 : decode prog_10_method_15_code 18 = .ok (.aload_n 0, 1) := by decide +kernel
theorem d_Model_settle_19 : decode prog_10_method_15_code 19 = .ok (.getfield 17, 3) := by decide +kernel
theorem d_Model_settle_22 : decode prog_10_method_15_code 22 = .ok (.iload_n 1, 1) := by decide +kernel
theorem d_Model_settle_23 : decode prog_10_method_15_code 23 = .ok (.aload_n 0, 1) := by decide +kernel
theorem d_Model_settle_24 : decode prog_10_method_15_code 24 = .ok (.getfield 13, 3) := by decide +kernel
theorem d_Model_settle_27 : decode prog_10_method_15_code 27 = .ok (.iload_n 1, 1) := by decide +kernel
theorem d_Model_settle_28 : decode prog_10_method_15_code 28 = .ok (.baload, 1) := by decide +kernel
theorem d_Model_settle_29 : decode prog_10_method_15_code 29 = .ok (.bastore, 1) := by decide +kernel
theorem d_Model_settle_30 : decode prog_10_method_15_code 30 = .ok (.iinc 1 1, 3) := by decide +kernel
theorem d_Model_settle_33 : decode prog_10_method_15_code 33 = .ok (.goto (-22), 3) := by decide +kernel
theorem d_Model_settle_36 : decode prog_10_method_15_code 36 = .ok (.iconst 1, 1) := by decide +kernel
theorem d_Model_settle_37 : decode prog_10_method_15_code 37 = .ok (.istore_n 1, 1) := by decide +kernel
theorem d_Model_settle_38 : decode prog_10_method_15_code 38 = .ok (.iload_n 1, 1) := by decide +kernel
theorem d_Model_settle_39 : decode prog_10_method_15_code 39 = .ok (.ifCond .eq 102, 3) := by decide +kernel
theorem d_Model_settle_42 : decode prog_10_method_15_code 42 = .ok (.iconst 0, 1) := by decide +kernel
theorem d_Model_settle_43 : decode prog_10_method_15_code 43 = .ok (.istore_n 1, 1) := by decide +kernel
theorem d_Model_settle_44 : decode prog_10_method_15_code 44 = .ok (.iconst 0, 1) := by decide +kernel
theorem d_Model_settle_45 : decode prog_10_method_15_code 45 = .ok (.istore_n 2, 1) := by decide +kernel
theorem d_Model_settle_46 : decode prog_10_method_15_code 46 = .ok (.iload_n 2, 1) := by decide +kernel
theorem d_Model_settle_47 : decode prog_10_method_15_code 47 = .ok (.aload_n 0, 1) := by decide +kernel
theorem d_Model_settle_48 : decode prog_10_method_15_code 48 = .ok (.getfield 7, 3) := by decide +kernel
theorem d_Model_settle_51 : decode prog_10_method_15_code 51 = .ok (.if_icmp .ge 87, 3) := by decide +kernel
theorem d_Model_settle_54 : decode prog_10_method_15_code 54 = .ok (.iconst 0, 1) := by decide +kernel
theorem d_Model_settle_55 : decode prog_10_method_15_code 55 = .ok (.istore_n 3, 1) := by decide +kernel
theorem d_Model_settle_56 : decode prog_10_method_15_code 56 = .ok (.iload_n 3, 1) := by decide +kernel
theorem d_Model_settle_57 : decode prog_10_method_15_code 57 = .ok (.aload_n 0, 1) := by decide +kernel
theorem d_Model_settle_58 : decode prog_10_method_15_code 58 = .ok (.getfield 7, 3) := by decide +kernel
theorem d_Model_settle_61 : decode prog_10_method_15_code 61 = .ok (.if_icmp .ge 71, 3) := by decide +kernel
theorem d_Model_settle_64 : decode prog_10_method_15_code 64 = .ok (.iconst 0, 1) := by decide +kernel
theorem d_Model_settle_65 : decode prog_10_method_15_code 65 = .ok (.istore 4, 2) := by decide +kernel
theorem d_Model_settle_67 : decode prog_10_method_15_code 67 = .ok (.iload 4, 2) := by decide +kernel
theorem d_Model_settle_69 : decode prog_10_method_15_code 69 = .ok (.aload_n 0, 1) := by decide +kernel
theorem d_Model_settle_70 : decode prog_10_method_15_code 70 = .ok (.getfield 7, 3) := by decide +kernel
theorem d_Model_settle_73 : decode prog_10_method_15_code 73 = .ok (.if_icmp .ge 53, 3) := by decide +kernel
theorem d_Model_settle_76 : decode prog_10_method_15_code 76 = .ok (.aload_n 0, 1) := by decide +kernel
theorem d_Model_settle_77 : decode prog_10_method_15_code 77 = .ok (.iload_n 2, 1) := by decide +kernel
theorem d_Model_settle_78 : decode prog_10_method_15_code 78 = .ok (.iload_n 3, 1) := by decide +kernel
theorem d_Model_settle_79 : decode prog_10_method_15_code 79 = .ok (.invokevirtual 77, 3) := by decide +kernel
theorem d_Model_settle_82 : decode prog_10_method_15_code 82 = .ok (.ifCond .eq 38, 3) := by decide +kernel
theorem d_Model_settle_85 : decode prog_10_method_15_code 85 = .ok (.aload_n 0, 1) := by decide +kernel
theorem d_Model_settle_86 : decode prog_10_method_15_code 86 = .ok (.iload_n 3, 1) := by decide +kernel
theorem d_Model_settle_87 : decode prog_10_method_15_code 87 = .ok (.iload 4, 2) := by decide +kernel
theorem d_Model_settle_89 : decode prog_10_method_15_code 89 = .ok (.invokevirtual 77, 3) := by decide +kernel
theorem d_Model_settle_92 : decode prog_10_method_15_code 92 = .ok (.ifCond .eq 28, 3) := by decide +kernel
theorem d_Model_settle_95 : decode prog_10_method_15_code 95 = .ok (.aload_n 0, 1) := by decide +kernel
theorem d_Model_settle_96 : decode prog_10_method_15_code 96 = .ok (.iload_n 2, 1) := by decide +kernel
theorem d_Model_settle_97 : decode prog_10_method_15_code 97 = .ok (.iload 4, 2) := by decide +kernel
theorem d_Model_settle_99 : decode prog_10_method_15_code 99 = .ok (.invokevirtual 77, 3) := by decide +kernel
theorem d_Model_settle_102 : decode prog_10_method_15_code 102 = .ok (.ifCond .ne 18, 3) := by decide +kernel
theorem d_Model_settle_105 : decode prog_10_method_15_code 105 = .ok (.aload_n 0, 1) := by decide +kernel
theorem d_Model_settle_106 : decode prog_10_method_15_code 106 = .ok (.getfield 17, 3) := by decide +kernel
theorem d_Model_settle_109 : decode prog_10_method_15_code 109 = .ok (.bipush 14, 2) := by decide +kernel
theorem d_Model_settle_111 : decode prog_10_method_15_code 111 = .ok (.iload_n 2, 1) := by decide +kernel
theorem d_Model_settle_112 : decode prog_10_method_15_code 112 = .ok (.imul, 1) := by decide +kernel
theorem d_Model_settle_113 : decode prog_10_method_15_code 113 = .ok (.iload 4, 2) := by decide +kernel
theorem d_Model_settle_115 : decode prog_10_method_15_code 115 = .ok (.iadd, 1) := by decide +kernel
theorem d_Model_settle_116 : decode prog_10_method_15_code 116 = .ok (.iconst 1, 1) := by decide +kernel
theorem d_Model_settle_117 : decode prog_10_method_15_code 117 = .ok (.bastore, 1) := by decide +kernel
theorem d_Model_settle_118 : decode prog_10_method_15_code 118 = .ok (.iconst 1, 1) := by decide +kernel
theorem d_Model_settle_119 : decode prog_10_method_15_code 119 = .ok (.istore_n 1, 1) := by decide +kernel
theorem d_Model_settle_120 : decode prog_10_method_15_code 120 = .ok (.iinc 4 1, 3) := by decide +kernel
theorem d_Model_settle_123 : decode prog_10_method_15_code 123 = .ok (.goto (-56), 3) := by decide +kernel
theorem d_Model_settle_126 : decode prog_10_method_15_code 126 = .ok (.iinc 3 1, 3) := by decide +kernel
theorem d_Model_settle_129 : decode prog_10_method_15_code 129 = .ok (.goto (-73), 3) := by decide +kernel
theorem d_Model_settle_132 : decode prog_10_method_15_code 132 = .ok (.iinc 2 1, 3) := by decide +kernel
theorem d_Model_settle_135 : decode prog_10_method_15_code 135 = .ok (.goto (-89), 3) := by decide +kernel
theorem d_Model_settle_138 : decode prog_10_method_15_code 138 = .ok (.goto (-100), 3) := by decide +kernel
theorem d_Model_settle_141 : decode prog_10_method_15_code 141 = .ok (.iconst 0, 1) := by decide +kernel
theorem d_Model_settle_142 : decode prog_10_method_15_code 142 = .ok (.istore_n 2, 1) := by decide +kernel
theorem d_Model_settle_143 : decode prog_10_method_15_code 143 = .ok (.iconst 0, 1) := by decide +kernel
theorem d_Model_settle_144 : decode prog_10_method_15_code 144 = .ok (.istore_n 3, 1) := by decide +kernel
theorem d_Model_settle_145 : decode prog_10_method_15_code 145 = .ok (.iload_n 3, 1) := by decide +kernel
theorem d_Model_settle_146 : decode prog_10_method_15_code 146 = .ok (.aload_n 0, 1) := by decide +kernel
theorem d_Model_settle_147 : decode prog_10_method_15_code 147 = .ok (.getfield 7, 3) := by decide +kernel
theorem d_Model_settle_150 : decode prog_10_method_15_code 150 = .ok (.if_icmp .ge 28, 3) := by decide +kernel
theorem d_Model_settle_153 : decode prog_10_method_15_code 153 = .ok (.iload_n 2, 1) := by decide +kernel
theorem d_Model_settle_154 : decode prog_10_method_15_code 154 = .ok (.ifCond .ne 12, 3) := by decide +kernel
theorem d_Model_settle_157 : decode prog_10_method_15_code 157 = .ok (.aload_n 0, 1) := by decide +kernel
theorem d_Model_settle_158 : decode prog_10_method_15_code 158 = .ok (.iload_n 3, 1) := by decide +kernel
theorem d_Model_settle_159 : decode prog_10_method_15_code 159 = .ok (.iload_n 3, 1) := by decide +kernel
theorem d_Model_settle_160 : decode prog_10_method_15_code 160 = .ok (.invokevirtual 77, 3) := by decide +kernel
theorem d_Model_settle_163 : decode prog_10_method_15_code 163 = .ok (.ifCond .eq 7, 3) := by decide +kernel
theorem d_Model_settle_166 : decode prog_10_method_15_code 166 = .ok (.iconst 1, 1) := by decide +kernel
theorem d_Model_settle_167 : decode prog_10_method_15_code 167 = .ok (.goto 4, 3) := by decide +kernel
theorem d_Model_settle_170 : decode prog_10_method_15_code 170 = .ok (.iconst 0, 1) := by decide +kernel
theorem d_Model_settle_171 : decode prog_10_method_15_code 171 = .ok (.istore_n 2, 1) := by decide +kernel
theorem d_Model_settle_172 : decode prog_10_method_15_code 172 = .ok (.iinc 3 1, 3) := by decide +kernel
theorem d_Model_settle_175 : decode prog_10_method_15_code 175 = .ok (.goto (-30), 3) := by decide +kernel
theorem d_Model_settle_178 : decode prog_10_method_15_code 178 = .ok (.iload_n 2, 1) := by decide +kernel
theorem d_Model_settle_179 : decode prog_10_method_15_code 179 = .ok (.ifCond .ne 10, 3) := by decide +kernel
theorem d_Model_settle_182 : decode prog_10_method_15_code 182 = .ok (.aload_n 0, 1) := by decide +kernel
theorem d_Model_settle_183 : decode prog_10_method_15_code 183 = .ok (.iconst 1, 1) := by decide +kernel
theorem d_Model_settle_184 : decode prog_10_method_15_code 184 = .ok (.putfield 53, 3) := by decide +kernel
theorem d_Model_settle_187 : decode prog_10_method_15_code 187 = .ok (.iconst 0, 1) := by decide +kernel
theorem d_Model_settle_188 : decode prog_10_method_15_code 188 = .ok (.ireturn, 1) := by decide +kernel
theorem d_Model_settle_189 : decode prog_10_method_15_code 189 = .ok (.iconst 1, 1) := by decide +kernel
theorem d_Model_settle_190 : decode prog_10_method_15_code 190 = .ok (.istore_n 3, 1) := by decide +kernel
theorem d_Model_settle_191 : decode prog_10_method_15_code 191 = .ok (.aload_n 0, 1) := by decide +kernel
theorem d_Model_settle_192 : decode prog_10_method_15_code 192 = .ok (.iload_n 3, 1) := by decide +kernel
theorem d_Model_settle_193 : decode prog_10_method_15_code 193 = .ok (.invokevirtual 91, 3) := by decide +kernel
theorem d_Model_settle_196 : decode prog_10_method_15_code 196 = .ok (.ifCond .ne 9, 3) := by decide +kernel
theorem d_Model_settle_199 : decode prog_10_method_15_code 199 = .ok (.iinc 3 1, 3) := by decide +kernel
theorem d_Model_settle_202 : decode prog_10_method_15_code 202 = .ok (.goto (-11), 3) := by decide +kernel
theorem d_Model_settle_205 : decode prog_10_method_15_code 205 = .ok (.aload_n 0, 1) := by decide +kernel
theorem d_Model_settle_206 : decode prog_10_method_15_code 206 = .ok (.iload_n 3, 1) := by decide +kernel
theorem d_Model_settle_207 : decode prog_10_method_15_code 207 = .ok (.putfield 63, 3) := by decide +kernel
theorem d_Model_settle_210 : decode prog_10_method_15_code 210 = .ok (.iload_n 3, 1) := by decide +kernel
theorem d_Model_settle_211 : decode prog_10_method_15_code 211 = .ok (.ireturn, 1) := by decide +kernel
noncomputable def f_Model_settle (M : oz_M) : Option (Int32 × oz_M) := (some (oz_s M 62 0 0)).bind fun M1 => oz_b2 (f_Model_change M1) fun v2 M3 => (oz_lp (fun (s4 : Int32 × oz_M) => (if s4.1 < 196 then ((oz_in s4.1 196).bind fun j5 => (oz_in s4.1 196).bind fun j6 => (some (oz_s s4.2 64 j6 (vp_nar .boolean (s4.2.1 63 j5)))).bind fun M7 => some (.inl (s4.1 + 1, M7))) else (some (.inr (s4.1, s4.2))) : Option ((Int32 × oz_M) ⊕ (Int32 × oz_M)))) (0, M3)).bind fun (y9 : Int32 × oz_M) => (oz_lp (fun (s10 : Int32 × oz_M) => (if s10.1 = 0 then (some (.inr (s10.1, s10.2))) else ((oz_lp (fun (s11 : Int32 × Int32 × oz_M) => (if s11.2.1 < (s11.2.2.1 62 1) then ((oz_lp (fun (s12 : Int32 × Int32 × oz_M) => (if s12.2.1 < (s12.2.2.1 62 1) then ((oz_lp (fun (s13 : Int32 × Int32 × oz_M) => (if s13.2.1 < (s13.2.2.1 62 1) then ((f_Model_isLess s11.2.1 s12.2.1 s13.2.2).bind fun v14 => if v14 = 0 then (some (.inl (s13.1, s13.2.1 + 1, s13.2.2))) else ((f_Model_isLess s12.2.1 s13.2.1 s13.2.2).bind fun v15 => if v15 = 0 then (some (.inl (s13.1, s13.2.1 + 1, s13.2.2))) else ((f_Model_isLess s11.2.1 s13.2.1 s13.2.2).bind fun v16 => if v16 = 0 then ((oz_in ((14 * s11.2.1) + s13.2.1) 196).bind fun j17 => (some (oz_s s13.2.2 64 j17 (vp_nar .boolean 1))).bind fun M18 => some (.inl (1, s13.2.1 + 1, M18))) else (some (.inl (s13.1, s13.2.1 + 1, s13.2.2)))))) else (some (.inr (s13.1, s13.2.1, s13.2.2))) : Option ((Int32 × Int32 × oz_M) ⊕ (Int32 × Int32 × oz_M)))) (s12.1, 0, s12.2.2)).bind fun (y23 : Int32 × Int32 × oz_M) => some (.inl (y23.1, s12.2.1 + 1, y23.2.2))) else (some (.inr (s12.1, s12.2.1, s12.2.2))) : Option ((Int32 × Int32 × oz_M) ⊕ (Int32 × Int32 × oz_M)))) (s11.1, 0, s11.2.2)).bind fun (y25 : Int32 × Int32 × oz_M) => some (.inl (y25.1, s11.2.1 + 1, y25.2.2))) else (some (.inr (s11.1, s11.2.1, s11.2.2))) : Option ((Int32 × Int32 × oz_M) ⊕ (Int32 × Int32 × oz_M)))) (0, 0, s10.2)).bind fun (y27 : Int32 × Int32 × oz_M) => some (.inl (y27.1, y27.2.2))) : Option ((Int32 × oz_M) ⊕ (Int32 × oz_M)))) (1, y9.2)).bind fun (y29 : Int32 × oz_M) => (oz_lp (fun (s30 : Int32 × Int32) => (if s30.2 < (y29.2.1 62 1) then (if s30.1 = 0 then ((f_Model_isLess s30.2 s30.2 y29.2).bind fun v31 => if v31 = 0 then (some (.inl (0, s30.2 + 1))) else (some (.inl (1, s30.2 + 1)))) else (some (.inl (1, s30.2 + 1)))) else (some (.inr (s30.1, s30.2))) : Option ((Int32 × Int32) ⊕ (Int32 × Int32)))) (0, 0)).bind fun (y35 : Int32 × Int32) => if y35.1 = 0 then ((some (oz_s y29.2 62 2 1)).bind fun M42 => some (0, M42)) else ((oz_lp (fun (s36 : Int32 × oz_M) => (oz_b2 (f_Model_findRing s36.1 s36.2) fun v37 M38 => if v37 = 0 then (some (.inl (s36.1 + 1, M38))) else (some (.inr (s36.1, M38))) : Option ((Int32 × oz_M) ⊕ (Int32 × oz_M)))) (1, y29.2)).bind fun (y40 : Int32 × oz_M) => (some (oz_s y40.2 62 6 y40.1)).bind fun M41 => some (y40.1, M41))
set_option maxRecDepth 20000 in
set_option maxHeartbeats 4000000 in
theorem c_Model_settle {l : Launch} {D : va_G} {cs : Nat → ClassId} {b : Nat} {M : oz_M} {vz : Int32} {Mz : oz_M} (hF : f_Model_settle M = some (vz, Mz)) : oz_Met l D cs b y_Model_settle prog_10_method_15_code 5 (some .int) (oz_rm 4) [.ref (b + 62)] M (some (.int vz)) Mz := by
  refine oz_enter (by decide) (Nat.le_of_ble_eq_true rfl) (fun G cx hR e1 hRm e2 e3 e4 hnL => ?_)
  subst e1; subst e2; subst e3; subst e4
  refine (?_ : oz_R G 0 [(0, .ref (oz_b G + 62))] [] M (f_Model_settle  M) (fun x => x = (vz, Mz))) _ hF rfl
  unfold f_Model_settle
  refine oz_aload_n (q := 1) cx d_Model_settle_0 rfl rfl 0 rfl ?_
  refine oz_iconst (q := 2) cx d_Model_settle_1 rfl (v := 0) rfl ?_
  refine oz_put (q := 5) cx 62 0 (by decide) (ci := 8) rfl rfl rfl tin_Model t_Model t_Model_ok n_Model (by decide) (Nat.le_of_ble_eq_true rfl) rfl tw_786 rfl rfl rfl d_Model_settle_2 rfl ?_
  refine oz_nm (fun M1 hM1 => ?_)
  refine oz_aload_n (q := 6) cx d_Model_settle_5 rfl rfl 0 rfl ?_
  refine oz_cVv (q := 9) cx 62 [] 0 8 hRm (by decide) (by decide) (fun _ _ h => c_Model_change h) ⟨tw_847, tw_849, ts_30, tw_9⟩ tw_850 (by decide +kernel) rfl (by decide) rfl rfl (st := []) rfl (Nat.le_of_ble_eq_true rfl) d_Model_settle_6 rfl (fun v2 M3 hv2 => ?_)
  refine oz_iconst (q := 10) cx d_Model_settle_9 rfl (v := 0) rfl ?_
  refine oz_istore_n (q := 11) cx d_Model_settle_10 rfl rfl (by rw [hnL]; decide) (lv2 := [(1, .int 0), (0, .ref (oz_b G + 62))]) rfl ?_
  refine oz_lv [1, 0] rfl ?_
  refine oz_seq (p2 := 36) (lv2 := fun (y9 : Int32 × oz_M) => [(0, .ref (oz_b G + 62))]) (st2 := fun y9 => []) (M2 := fun y9 => y9.2) ?_ (fun y9 => ?_)
  · refine oz_loop (Y := Int32 × oz_M) 11 (fun (s4 : Int32 × oz_M) => [(0, .ref (oz_b G + 62)), (1, .int s4.1)]) (fun (s4 : Int32 × oz_M) => s4.2) (0, M3) (fun s4 => ?_)
    refine oz_iload_n (q := 12) cx d_Model_settle_11 rfl rfl 1 rfl ?_
    refine oz_sipush (q := 15) cx d_Model_settle_12 rfl (v := 196) rfl ?_
    refine oz_icmp_ge (q := 18) cx d_Model_settle_15 rfl rfl (fun h8 => ?_) (fun h8 => ?_)
    · exact oz_lv [0] rfl (oz_leaf (fun h => h))
    · refine oz_aload_n (q := 19) cx d_Model_settle_18 rfl rfl 0 rfl ?_
      refine oz_get (q := 22) cx 62 4 (by decide) (ci := 8) rfl rfl tin_Model (by decide) rfl rfl tw_790 d_Model_settle_19 rfl ?_
      refine oz_iload_n (q := 23) cx d_Model_settle_22 rfl rfl 1 rfl ?_
      refine oz_aload_n (q := 24) cx d_Model_settle_23 rfl rfl 0 rfl ?_
      refine oz_get (q := 27) cx 62 3 (by decide) (ci := 8) rfl rfl tin_Model (by decide) rfl rfl tw_789 d_Model_settle_24 rfl ?_
      refine oz_iload_n (q := 28) cx d_Model_settle_27 rfl rfl 1 rfl ?_
      refine oz_zald (q := 29) cx 63 196 (by decide) rfl d_Model_settle_28 rfl (fun j5 hj5 => ?_)
      refine oz_zast (q := 30) cx 64 196 (by decide) (fun _ => rfl) d_Model_settle_29 rfl (fun j6 hj6 => ?_)
      refine oz_nm (fun M7 hM7 => ?_)
      refine oz_iinc (q := 33) cx (s4.1 + 1) d_Model_settle_30 rfl 1 rfl rfl (by rw [hnL]; decide) (lv2 := [(1, .int (s4.1 + 1)), (0, .ref (oz_b G + 62))]) rfl ?_
      refine oz_goto cx d_Model_settle_33 rfl ?_
      exact oz_lv [1, 0] rfl (oz_leaf (fun h => h))
  · refine oz_iconst (q := 37) cx d_Model_settle_36 rfl (v := 1) rfl ?_
    refine oz_istore_n (q := 38) cx d_Model_settle_37 rfl rfl (by rw [hnL]; decide) (lv2 := [(1, .int 1), (0, .ref (oz_b G + 62))]) rfl ?_
    refine oz_lv [1, 0] rfl ?_
    refine oz_seq (p2 := 141) (lv2 := fun (y29 : Int32 × oz_M) => [(0, .ref (oz_b G + 62))]) (st2 := fun y29 => []) (M2 := fun y29 => y29.2) ?_ (fun y29 => ?_)
    · refine oz_loop (Y := Int32 × oz_M) 38 (fun (s10 : Int32 × oz_M) => [(0, .ref (oz_b G + 62)), (1, .int s10.1)]) (fun (s10 : Int32 × oz_M) => s10.2) (1, y9.2) (fun s10 => ?_)
      refine oz_iload_n (q := 39) cx d_Model_settle_38 rfl rfl 1 rfl ?_
      refine oz_if_eq (q := 42) cx d_Model_settle_39 rfl rfl (fun h28 => ?_) (fun h28 => ?_)
      · exact oz_lv [0] rfl (oz_leaf (fun h => h))
      · refine oz_iconst (q := 43) cx d_Model_settle_42 rfl (v := 0) rfl ?_
        refine oz_istore_n (q := 44) cx d_Model_settle_43 rfl rfl (by rw [hnL]; decide) (lv2 := [(1, .int 0), (0, .ref (oz_b G + 62))]) rfl ?_
        refine oz_iconst (q := 45) cx d_Model_settle_44 rfl (v := 0) rfl ?_
        refine oz_istore_n (q := 46) cx d_Model_settle_45 rfl rfl (by rw [hnL]; decide) (lv2 := [(2, .int 0), (1, .int 0), (0, .ref (oz_b G + 62))]) rfl ?_
        refine oz_lv [2, 1, 0] rfl ?_
        refine oz_seq (p2 := 138) (lv2 := fun (y27 : Int32 × Int32 × oz_M) => [(0, .ref (oz_b G + 62)), (1, .int y27.1)]) (st2 := fun y27 => []) (M2 := fun y27 => y27.2.2) ?_ (fun y27 => ?_)
        · refine oz_loop (Y := Int32 × Int32 × oz_M) 46 (fun (s11 : Int32 × Int32 × oz_M) => [(0, .ref (oz_b G + 62)), (1, .int s11.1), (2, .int s11.2.1)]) (fun (s11 : Int32 × Int32 × oz_M) => s11.2.2) (0, 0, s10.2) (fun s11 => ?_)
          refine oz_iload_n (q := 47) cx d_Model_settle_46 rfl rfl 2 rfl ?_
          refine oz_aload_n (q := 48) cx d_Model_settle_47 rfl rfl 0 rfl ?_
          refine oz_get (q := 51) cx 62 1 (by decide) (ci := 8) rfl rfl tin_Model (by decide) rfl rfl tw_787 d_Model_settle_48 rfl ?_
          refine oz_icmp_ge (q := 54) cx d_Model_settle_51 rfl rfl (fun h26 => ?_) (fun h26 => ?_)
          · exact oz_lv [0, 1] rfl (oz_leaf (fun h => h))
          · refine oz_iconst (q := 55) cx d_Model_settle_54 rfl (v := 0) rfl ?_
            refine oz_istore_n (q := 56) cx d_Model_settle_55 rfl rfl (by rw [hnL]; decide) (lv2 := [(3, .int 0), (0, .ref (oz_b G + 62)), (1, .int s11.1), (2, .int s11.2.1)]) rfl ?_
            refine oz_lv [1, 2, 3, 0] rfl ?_
            refine oz_seq (p2 := 132) (lv2 := fun (y25 : Int32 × Int32 × oz_M) => [(0, .ref (oz_b G + 62)), (1, .int y25.1), (2, .int s11.2.1)]) (st2 := fun y25 => []) (M2 := fun y25 => y25.2.2) ?_ (fun y25 => ?_)
            · refine oz_loop (Y := Int32 × Int32 × oz_M) 56 (fun (s12 : Int32 × Int32 × oz_M) => [(0, .ref (oz_b G + 62)), (1, .int s12.1), (2, .int s11.2.1), (3, .int s12.2.1)]) (fun (s12 : Int32 × Int32 × oz_M) => s12.2.2) (s11.1, 0, s11.2.2) (fun s12 => ?_)
              refine oz_iload_n (q := 57) cx d_Model_settle_56 rfl rfl 3 rfl ?_
              refine oz_aload_n (q := 58) cx d_Model_settle_57 rfl rfl 0 rfl ?_
              refine oz_get (q := 61) cx 62 1 (by decide) (ci := 8) rfl rfl tin_Model (by decide) rfl rfl tw_787 d_Model_settle_58 rfl ?_
              refine oz_icmp_ge (q := 64) cx d_Model_settle_61 rfl rfl (fun h24 => ?_) (fun h24 => ?_)
              · exact oz_lv [0, 1, 2] rfl (oz_leaf (fun h => h))
              · refine oz_iconst (q := 65) cx d_Model_settle_64 rfl (v := 0) rfl ?_
                refine oz_istore (q := 67) cx d_Model_settle_65 rfl (by rw [hnL]; decide) (lv2 := [(4, .int 0), (0, .ref (oz_b G + 62)), (1, .int s12.1), (2, .int s11.2.1), (3, .int s12.2.1)]) rfl ?_
                refine oz_lv [1, 2, 3, 4, 0] rfl ?_
                refine oz_seq (p2 := 126) (lv2 := fun (y23 : Int32 × Int32 × oz_M) => [(0, .ref (oz_b G + 62)), (1, .int y23.1), (2, .int s11.2.1), (3, .int s12.2.1)]) (st2 := fun y23 => []) (M2 := fun y23 => y23.2.2) ?_ (fun y23 => ?_)
                · refine oz_loop (Y := Int32 × Int32 × oz_M) 67 (fun (s13 : Int32 × Int32 × oz_M) => [(0, .ref (oz_b G + 62)), (1, .int s13.1), (2, .int s11.2.1), (3, .int s12.2.1), (4, .int s13.2.1)]) (fun (s13 : Int32 × Int32 × oz_M) => s13.2.2) (s12.1, 0, s12.2.2) (fun s13 => ?_)
                  refine oz_iload (q := 69) cx d_Model_settle_67 rfl 4 rfl ?_
                  refine oz_aload_n (q := 70) cx d_Model_settle_69 rfl rfl 0 rfl ?_
                  refine oz_get (q := 73) cx 62 1 (by decide) (ci := 8) rfl rfl tin_Model (by decide) rfl rfl tw_787 d_Model_settle_70 rfl ?_
                  refine oz_icmp_ge (q := 76) cx d_Model_settle_73 rfl rfl (fun h22 => ?_) (fun h22 => ?_)
                  · exact oz_lv [0, 1, 2, 3] rfl (oz_leaf (fun h => h))
                  · refine oz_aload_n (q := 77) cx d_Model_settle_76 rfl rfl 0 rfl ?_
                    refine oz_iload_n (q := 78) cx d_Model_settle_77 rfl rfl 2 rfl ?_
                    refine oz_iload_n (q := 79) cx d_Model_settle_78 rfl rfl 3 rfl ?_
                    refine oz_cVip (q := 82) cx 62 [.int s11.2.1, .int s12.2.1] 2 8 hRm (by decide) (by decide) (fun _ h => c_Model_isLess h) ⟨tw_871, tw_873, ts_33, tw_9⟩ tw_874 (by decide +kernel) rfl (by decide) rfl rfl (st := []) rfl (Nat.le_of_ble_eq_true rfl) d_Model_settle_79 rfl (fun v14 hv14 => ?_)
                    refine oz_if_eq (q := 85) cx d_Model_settle_82 rfl rfl (fun h21 => ?_) (fun h21 => ?_)
                    · refine oz_iinc (q := 123) cx (s13.2.1 + 1) d_Model_settle_120 rfl 4 rfl rfl (by rw [hnL]; decide) (lv2 := [(4, .int (s13.2.1 + 1)), (0, .ref (oz_b G + 62)), (1, .int s13.1), (2, .int s11.2.1), (3, .int s12.2.1)]) rfl ?_
                      refine oz_goto cx d_Model_settle_123 rfl ?_
                      exact oz_lv [1, 2, 3, 4, 0] rfl (oz_leaf (fun h => h))
                    · refine oz_aload_n (q := 86) cx d_Model_settle_85 rfl rfl 0 rfl ?_
                      refine oz_iload_n (q := 87) cx d_Model_settle_86 rfl rfl 3 rfl ?_
                      refine oz_iload (q := 89) cx d_Model_settle_87 rfl 4 rfl ?_
                      refine oz_cVip (q := 92) cx 62 [.int s12.2.1, .int s13.2.1] 2 8 hRm (by decide) (by decide) (fun _ h => c_Model_isLess h) ⟨tw_871, tw_873, ts_33, tw_9⟩ tw_874 (by decide +kernel) rfl (by decide) rfl rfl (st := []) rfl (Nat.le_of_ble_eq_true rfl) d_Model_settle_89 rfl (fun v15 hv15 => ?_)
                      refine oz_if_eq (q := 95) cx d_Model_settle_92 rfl rfl (fun h20 => ?_) (fun h20 => ?_)
                      · refine oz_iinc (q := 123) cx (s13.2.1 + 1) d_Model_settle_120 rfl 4 rfl rfl (by rw [hnL]; decide) (lv2 := [(4, .int (s13.2.1 + 1)), (0, .ref (oz_b G + 62)), (1, .int s13.1), (2, .int s11.2.1), (3, .int s12.2.1)]) rfl ?_
                        refine oz_goto cx d_Model_settle_123 rfl ?_
                        exact oz_lv [1, 2, 3, 4, 0] rfl (oz_leaf (fun h => h))
                      · refine oz_aload_n (q := 96) cx d_Model_settle_95 rfl rfl 0 rfl ?_
                        refine oz_iload_n (q := 97) cx d_Model_settle_96 rfl rfl 2 rfl ?_
                        refine oz_iload (q := 99) cx d_Model_settle_97 rfl 4 rfl ?_
                        refine oz_cVip (q := 102) cx 62 [.int s11.2.1, .int s13.2.1] 2 8 hRm (by decide) (by decide) (fun _ h => c_Model_isLess h) ⟨tw_871, tw_873, ts_33, tw_9⟩ tw_874 (by decide +kernel) rfl (by decide) rfl rfl (st := []) rfl (Nat.le_of_ble_eq_true rfl) d_Model_settle_99 rfl (fun v16 hv16 => ?_)
                        refine oz_if_ne (q := 105) cx d_Model_settle_102 rfl rfl (fun h19 => ?_) (fun h19 => ?_)
                        · refine oz_iinc (q := 123) cx (s13.2.1 + 1) d_Model_settle_120 rfl 4 rfl rfl (by rw [hnL]; decide) (lv2 := [(4, .int (s13.2.1 + 1)), (0, .ref (oz_b G + 62)), (1, .int s13.1), (2, .int s11.2.1), (3, .int s12.2.1)]) rfl ?_
                          refine oz_goto cx d_Model_settle_123 rfl ?_
                          exact oz_lv [1, 2, 3, 4, 0] rfl (oz_leaf (fun h => h))
                        · refine oz_aload_n (q := 106) cx d_Model_settle_105 rfl rfl 0 rfl ?_
                          refine oz_get (q := 109) cx 62 4 (by decide) (ci := 8) rfl rfl tin_Model (by decide) rfl rfl tw_790 d_Model_settle_106 rfl ?_
                          refine oz_bipush (q := 111) cx d_Model_settle_109 rfl (v := 14) rfl ?_
                          refine oz_iload_n (q := 112) cx d_Model_settle_111 rfl rfl 2 rfl ?_
                          refine oz_imul (q := 113) cx d_Model_settle_112 rfl ?_
                          refine oz_iload (q := 115) cx d_Model_settle_113 rfl 4 rfl ?_
                          refine oz_iadd (q := 116) cx d_Model_settle_115 rfl ?_
                          refine oz_iconst (q := 117) cx d_Model_settle_116 rfl (v := 1) rfl ?_
                          refine oz_zast (q := 118) cx 64 196 (by decide) (fun _ => rfl) d_Model_settle_117 rfl (fun j17 hj17 => ?_)
                          refine oz_nm (fun M18 hM18 => ?_)
                          refine oz_iconst (q := 119) cx d_Model_settle_118 rfl (v := 1) rfl ?_
                          refine oz_istore_n (q := 120) cx d_Model_settle_119 rfl rfl (by rw [hnL]; decide) (lv2 := [(1, .int 1), (0, .ref (oz_b G + 62)), (2, .int s11.2.1), (3, .int s12.2.1), (4, .int s13.2.1)]) rfl ?_
                          refine oz_iinc (q := 123) cx (s13.2.1 + 1) d_Model_settle_120 rfl 4 rfl rfl (by rw [hnL]; decide) (lv2 := [(4, .int (s13.2.1 + 1)), (1, .int 1), (0, .ref (oz_b G + 62)), (2, .int s11.2.1), (3, .int s12.2.1)]) rfl ?_
                          refine oz_goto cx d_Model_settle_123 rfl ?_
                          exact oz_lv [2, 1, 3, 4, 0] rfl (oz_leaf (fun h => h))
                · refine oz_iinc (q := 129) cx (s12.2.1 + 1) d_Model_settle_126 rfl 3 rfl rfl (by rw [hnL]; decide) (lv2 := [(3, .int (s12.2.1 + 1)), (0, .ref (oz_b G + 62)), (1, .int y23.1), (2, .int s11.2.1)]) rfl ?_
                  refine oz_goto cx d_Model_settle_129 rfl ?_
                  exact oz_lv [1, 2, 3, 0] rfl (oz_leaf (fun h => h))
            · refine oz_iinc (q := 135) cx (s11.2.1 + 1) d_Model_settle_132 rfl 2 rfl rfl (by rw [hnL]; decide) (lv2 := [(2, .int (s11.2.1 + 1)), (0, .ref (oz_b G + 62)), (1, .int y25.1)]) rfl ?_
              refine oz_goto cx d_Model_settle_135 rfl ?_
              exact oz_lv [1, 2, 0] rfl (oz_leaf (fun h => h))
        · refine oz_goto cx d_Model_settle_138 rfl ?_
          exact oz_lv [0, 1] rfl (oz_leaf (fun h => h))
    · refine oz_iconst (q := 142) cx d_Model_settle_141 rfl (v := 0) rfl ?_
      refine oz_istore_n (q := 143) cx d_Model_settle_142 rfl rfl (by rw [hnL]; decide) (lv2 := [(2, .int 0), (0, .ref (oz_b G + 62))]) rfl ?_
      refine oz_iconst (q := 144) cx d_Model_settle_143 rfl (v := 0) rfl ?_
      refine oz_istore_n (q := 145) cx d_Model_settle_144 rfl rfl (by rw [hnL]; decide) (lv2 := [(3, .int 0), (2, .int 0), (0, .ref (oz_b G + 62))]) rfl ?_
      refine oz_lv [2, 1, 0] rfl ?_
      refine oz_seq (p2 := 178) (lv2 := fun (y35 : Int32 × Int32) => [(0, .ref (oz_b G + 62)), (2, .int y35.1)]) (st2 := fun y35 => []) (M2 := fun y35 => y29.2) ?_ (fun y35 => ?_)
      · refine oz_loop (Y := Int32 × Int32) 145 (fun (s30 : Int32 × Int32) => [(0, .ref (oz_b G + 62)), (2, .int s30.1), (3, .int s30.2)]) (fun (s30 : Int32 × Int32) => y29.2) (0, 0) (fun s30 => ?_)
        refine oz_iload_n (q := 146) cx d_Model_settle_145 rfl rfl 2 rfl ?_
        refine oz_aload_n (q := 147) cx d_Model_settle_146 rfl rfl 0 rfl ?_
        refine oz_get (q := 150) cx 62 1 (by decide) (ci := 8) rfl rfl tin_Model (by decide) rfl rfl tw_787 d_Model_settle_147 rfl ?_
        refine oz_icmp_ge (q := 153) cx d_Model_settle_150 rfl rfl (fun h34 => ?_) (fun h34 => ?_)
        · exact oz_lv [0, 1] rfl (oz_leaf (fun h => h))
        · refine oz_iload_n (q := 154) cx d_Model_settle_153 rfl rfl 1 rfl ?_
          refine oz_if_ne (q := 157) cx d_Model_settle_154 rfl rfl (fun h33 => ?_) (fun h33 => ?_)
          · refine oz_iconst (q := 167) cx d_Model_settle_166 rfl (v := 1) rfl ?_
            refine oz_goto cx d_Model_settle_167 rfl ?_
            refine oz_istore_n (q := 172) cx d_Model_settle_171 rfl rfl (by rw [hnL]; decide) (lv2 := [(2, .int 1), (0, .ref (oz_b G + 62)), (3, .int s30.2)]) rfl ?_
            refine oz_iinc (q := 175) cx (s30.2 + 1) d_Model_settle_172 rfl 2 rfl rfl (by rw [hnL]; decide) (lv2 := [(3, .int (s30.2 + 1)), (2, .int 1), (0, .ref (oz_b G + 62))]) rfl ?_
            refine oz_goto cx d_Model_settle_175 rfl ?_
            exact oz_lv [2, 1, 0] rfl (oz_leaf (fun h => h))
          · refine oz_aload_n (q := 158) cx d_Model_settle_157 rfl rfl 0 rfl ?_
            refine oz_iload_n (q := 159) cx d_Model_settle_158 rfl rfl 2 rfl ?_
            refine oz_iload_n (q := 160) cx d_Model_settle_159 rfl rfl 2 rfl ?_
            refine oz_cVip (q := 163) cx 62 [.int s30.2, .int s30.2] 2 8 hRm (by decide) (by decide) (fun _ h => c_Model_isLess h) ⟨tw_871, tw_873, ts_33, tw_9⟩ tw_874 (by decide +kernel) rfl (by decide) rfl rfl (st := []) rfl (Nat.le_of_ble_eq_true rfl) d_Model_settle_160 rfl (fun v31 hv31 => ?_)
            refine oz_if_eq (q := 166) cx d_Model_settle_163 rfl rfl (fun h32 => ?_) (fun h32 => ?_)
            · refine oz_iconst (q := 171) cx d_Model_settle_170 rfl (v := 0) rfl ?_
              refine oz_istore_n (q := 172) cx d_Model_settle_171 rfl rfl (by rw [hnL]; decide) (lv2 := [(2, .int 0), (0, .ref (oz_b G + 62)), (3, .int s30.2)]) rfl ?_
              refine oz_iinc (q := 175) cx (s30.2 + 1) d_Model_settle_172 rfl 2 rfl rfl (by rw [hnL]; decide) (lv2 := [(3, .int (s30.2 + 1)), (2, .int 0), (0, .ref (oz_b G + 62))]) rfl ?_
              refine oz_goto cx d_Model_settle_175 rfl ?_
              exact oz_lv [2, 1, 0] rfl (oz_leaf (fun h => h))
            · refine oz_iconst (q := 167) cx d_Model_settle_166 rfl (v := 1) rfl ?_
              refine oz_goto cx d_Model_settle_167 rfl ?_
              refine oz_istore_n (q := 172) cx d_Model_settle_171 rfl rfl (by rw [hnL]; decide) (lv2 := [(2, .int 1), (0, .ref (oz_b G + 62)), (3, .int s30.2)]) rfl ?_
              refine oz_iinc (q := 175) cx (s30.2 + 1) d_Model_settle_172 rfl 2 rfl rfl (by rw [hnL]; decide) (lv2 := [(3, .int (s30.2 + 1)), (2, .int 1), (0, .ref (oz_b G + 62))]) rfl ?_
              refine oz_goto cx d_Model_settle_175 rfl ?_
              exact oz_lv [2, 1, 0] rfl (oz_leaf (fun h => h))
      · refine oz_iload_n (q := 179) cx d_Model_settle_178 rfl rfl 1 rfl ?_
        refine oz_if_ne (q := 182) cx d_Model_settle_179 rfl rfl (fun h43 => ?_) (fun h43 => ?_)
        · refine oz_iconst (q := 190) cx d_Model_settle_189 rfl (v := 1) rfl ?_
          refine oz_istore_n (q := 191) cx d_Model_settle_190 rfl rfl (by rw [hnL]; decide) (lv2 := [(3, .int 1), (0, .ref (oz_b G + 62)), (2, .int y35.1)]) rfl ?_
          refine oz_lv [1, 0] rfl ?_
          refine oz_seq (p2 := 205) (lv2 := fun (y40 : Int32 × oz_M) => [(0, .ref (oz_b G + 62)), (3, .int y40.1)]) (st2 := fun y40 => []) (M2 := fun y40 => y40.2) ?_ (fun y40 => ?_)
          · refine oz_loop (Y := Int32 × oz_M) 191 (fun (s36 : Int32 × oz_M) => [(0, .ref (oz_b G + 62)), (3, .int s36.1)]) (fun (s36 : Int32 × oz_M) => s36.2) (1, y29.2) (fun s36 => ?_)
            refine oz_aload_n (q := 192) cx d_Model_settle_191 rfl rfl 0 rfl ?_
            refine oz_iload_n (q := 193) cx d_Model_settle_192 rfl rfl 1 rfl ?_
            refine oz_cVi (q := 196) cx 62 [.int s36.1] 1 8 hRm (by decide) (by decide) (fun _ _ h => c_Model_findRing h) ⟨tw_875, tw_877, ts_34, tw_9⟩ tw_878 (by decide +kernel) rfl (by decide) rfl rfl (st := []) rfl (Nat.le_of_ble_eq_true rfl) d_Model_settle_193 rfl (fun v37 M38 hv37 => ?_)
            refine oz_if_ne (q := 199) cx d_Model_settle_196 rfl rfl (fun h39 => ?_) (fun h39 => ?_)
            · exact oz_lv [0, 1] rfl (oz_leaf (fun h => h))
            · refine oz_iinc (q := 202) cx (s36.1 + 1) d_Model_settle_199 rfl 1 rfl rfl (by rw [hnL]; decide) (lv2 := [(3, .int (s36.1 + 1)), (0, .ref (oz_b G + 62))]) rfl ?_
              refine oz_goto cx d_Model_settle_202 rfl ?_
              exact oz_lv [1, 0] rfl (oz_leaf (fun h => h))
          · refine oz_aload_n (q := 206) cx d_Model_settle_205 rfl rfl 0 rfl ?_
            refine oz_iload_n (q := 207) cx d_Model_settle_206 rfl rfl 1 rfl ?_
            refine oz_put (q := 210) cx 62 6 (by decide) (ci := 8) rfl rfl rfl tin_Model t_Model t_Model_ok n_Model (by decide) (Nat.le_of_ble_eq_true rfl) rfl tw_792 rfl rfl rfl d_Model_settle_207 rfl ?_
            refine oz_nm (fun M41 hM41 => ?_)
            refine oz_iload_n (q := 211) cx d_Model_settle_210 rfl rfl 1 rfl ?_
            exact oz_iret cx hR d_Model_settle_211
        · refine oz_aload_n (q := 183) cx d_Model_settle_182 rfl rfl 0 rfl ?_
          refine oz_iconst (q := 184) cx d_Model_settle_183 rfl (v := 1) rfl ?_
          refine oz_put (q := 187) cx 62 2 (by decide) (ci := 8) rfl rfl rfl tin_Model t_Model t_Model_ok n_Model (by decide) (Nat.le_of_ble_eq_true rfl) rfl tw_788 rfl rfl rfl d_Model_settle_184 rfl ?_
          refine oz_nm (fun M42 hM42 => ?_)
          refine oz_iconst (q := 188) cx d_Model_settle_187 rfl (v := 0) rfl ?_
          exact oz_iret cx hR d_Model_settle_188
def y_Model_take : MethodName := ⟨"OrderHallModel", "take", "(J)V"⟩
theorem d_Model_take_0 : decode prog_10_method_38_code 0 = .ok (.aload_n 0, 1) := by decide +kernel
theorem d_Model_take_1 : decode prog_10_method_38_code 1 = .ok (.aload_n 0, 1) := by decide +kernel
theorem d_Model_take_2 : decode prog_10_method_38_code 2 = .ok (.getfield 53, 3) := by decide +kernel
theorem d_Model_take_5 : decode prog_10_method_38_code 5 = .ok (.ifCond .eq 7, 3) := by decide +kernel
theorem d_Model_take_8 : decode prog_10_method_38_code 8 = .ok (.iconst 0, 1) := by decide +kernel
theorem d_Model_take_9 : decode prog_10_method_38_code 9 = .ok (.goto 4, 3) := by decide +kernel
theorem d_Model_take_12 : decode prog_10_method_38_code 12 = .ok (.iconst 1, 1) := by decide +kernel
theorem d_Model_take_13 : decode prog_10_method_38_code 13 = .ok (.putfield 50, 3) := by decide +kernel
theorem d_Model_take_16 : decode prog_10_method_38_code 16 = .ok (.aload_n 0, 1) := by decide +kernel
theorem d_Model_take_17 : decode prog_10_method_38_code 17 = .ok (.getfield 50, 3) := by decide +kernel
theorem d_Model_take_20 : decode prog_10_method_38_code 20 = .ok (.ifCond .le 4, 3) := by decide +kernel
theorem d_Model_take_23 : decode prog_10_method_38_code 23 = .ok (.return_, 1) := by decide +kernel
theorem d_Model_take_24 : decode prog_10_method_38_code 24 = .ok (.aload_n 0, 1) := by decide +kernel
theorem d_Model_take_25 : decode prog_10_method_38_code 25 = .ok (.invokevirtual 115, 3) := by decide +kernel
theorem d_Model_take_28 : decode prog_10_method_38_code 28 = .ok (.aload_n 0, 1) := by decide +kernel
theorem d_Model_take_29 : decode prog_10_method_38_code 29 = .ok (.lload_n 1, 1) := by decide +kernel
theorem d_Model_take_30 : decode prog_10_method_38_code 30 = .ok (.lconst 0, 1) := by decide +kernel
theorem d_Model_take_31 : decode prog_10_method_38_code 31 = .ok (.lcmp, 1) := by decide +kernel
theorem d_Model_take_32 : decode prog_10_method_38_code 32 = .ok (.ifCond .lt 18, 3) := by decide +kernel
theorem d_Model_take_35 : decode prog_10_method_38_code 35 = .ok (.lload_n 1, 1) := by decide +kernel
theorem d_Model_take_36 : decode prog_10_method_38_code 36 = .ok (.aload_n 0, 1) := by decide +kernel
theorem d_Model_take_37 : decode prog_10_method_38_code 37 = .ok (.getfield 31, 3) := by decide +kernel
theorem d_Model_take_40 : decode prog_10_method_38_code 40 = .ok (.iconst 0, 1) := by decide +kernel
theorem d_Model_take_41 : decode prog_10_method_38_code 41 = .ok (.laload, 1) := by decide +kernel
theorem d_Model_take_42 : decode prog_10_method_38_code 42 = .ok (.lcmp, 1) := by decide +kernel
theorem d_Model_take_43 : decode prog_10_method_38_code 43 = .ok (.ifCond .ge 7, 3) := by decide +kernel
theorem d_Model_take_46 : decode prog_10_method_38_code 46 = .ok (.iconst 0, 1) := by decide +kernel
theorem d_Model_take_47 : decode prog_10_method_38_code 47 = .ok (.goto 4, 3) := by decide +kernel
theorem d_Model_take_50 : decode prog_10_method_38_code 50 = .ok (.iconst 2, 1) := by decide +kernel
theorem d_Model_take_51 : decode prog_10_method_38_code 51 = .ok (.putfield 50, 3) := by decide +kernel
theorem d_Model_take_54 : decode prog_10_method_38_code 54 = .ok (.aload_n 0, 1) := by decide +kernel
theorem d_Model_take_55 : decode prog_10_method_38_code 55 = .ok (.getfield 50, 3) := by decide +kernel
theorem d_Model_take_58 : decode prog_10_method_38_code 58 = .ok (.ifCond .le 4, 3) := by decide +kernel
theorem d_Model_take_61 : decode prog_10_method_38_code 61 = .ok (.return_, 1) := by decide +kernel
theorem d_Model_take_62 : decode prog_10_method_38_code 62 = .ok (.iconst 0, 1) := by decide +kernel
theorem d_Model_take_63 : decode prog_10_method_38_code 63 = .ok (.istore_n 3, 1) := by decide +kernel
theorem d_Model_take_64 : decode prog_10_method_38_code 64 = .ok (.lload_n 1, 1) := by decide +kernel
theorem d_Model_take_65 : decode prog_10_method_38_code 65 = .ok (.lstore 4, 2) := by decide +kernel
theorem d_Model_take_67 : decode prog_10_method_38_code 67 = .ok (.iconst 0, 1) := by decide +kernel
theorem d_Model_take_68 : decode prog_10_method_38_code 68 = .ok (.istore 6, 2) := by decide +kernel
theorem d_Model_take_70 : decode prog_10_method_38_code 70 = .ok (.iload 6, 2) := by decide +kernel
theorem d_Model_take_72 : decode prog_10_method_38_code 72 = .ok (.aload_n 0, 1) := by decide +kernel
theorem d_Model_take_73 : decode prog_10_method_38_code 73 = .ok (.getfield 7, 3) := by decide +kernel
theorem d_Model_take_76 : decode prog_10_method_38_code 76 = .ok (.if_icmp .ge 92, 3) := by decide +kernel
theorem d_Model_take_79 : decode prog_10_method_38_code 79 = .ok (.iconst 0, 1) := by decide +kernel
theorem d_Model_take_80 : decode prog_10_method_38_code 80 = .ok (.istore 7, 2) := by decide +kernel
theorem d_Model_take_82 : decode prog_10_method_38_code 82 = .ok (.aload_n 0, 1) := by decide +kernel
theorem d_Model_take_83 : decode prog_10_method_38_code 83 = .ok (.iload 7, 2) := by decide +kernel
theorem d_Model_take_85 : decode prog_10_method_38_code 85 = .ok (.iload_n 3, 1) := by decide +kernel
theorem d_Model_take_86 : decode prog_10_method_38_code 86 = .ok (.invokevirtual 112, 3) := by decide +kernel
theorem d_Model_take_89 : decode prog_10_method_38_code 89 = .ok (.ifCond .eq 20, 3) := by decide +kernel
theorem d_Model_take_92 : decode prog_10_method_38_code 92 = .ok (.lload 4, 2) := by decide +kernel
theorem d_Model_take_94 : decode prog_10_method_38_code 94 = .ok (.aload_n 0, 1) := by decide +kernel
theorem d_Model_take_95 : decode prog_10_method_38_code 95 = .ok (.getfield 31, 3) := by decide +kernel
theorem d_Model_take_98 : decode prog_10_method_38_code 98 = .ok (.iload_n 3, 1) := by decide +kernel
theorem d_Model_take_99 : decode prog_10_method_38_code 99 = .ok (.iconst 1, 1) := by decide +kernel
theorem d_Model_take_100 : decode prog_10_method_38_code 100 = .ok (.iload 7, 2) := by decide +kernel
theorem d_Model_take_102 : decode prog_10_method_38_code 102 = .ok (.ishl, 1) := by decide +kernel
theorem d_Model_take_103 : decode prog_10_method_38_code 103 = .ok (.ior, 1) := by decide +kernel
theorem d_Model_take_104 : decode prog_10_method_38_code 104 = .ok (.laload, 1) := by decide +kernel
theorem d_Model_take_105 : decode prog_10_method_38_code 105 = .ok (.lcmp, 1) := by decide +kernel
theorem d_Model_take_106 : decode prog_10_method_38_code 106 = .ok (.ifCond .lt 40, 3) := by decide +kernel
theorem d_Model_take_109 : decode prog_10_method_38_code 109 = .ok (.aload_n 0, 1) := by decide +kernel
theorem d_Model_take_110 : decode prog_10_method_38_code 110 = .ok (.iload 7, 2) := by decide +kernel
theorem d_Model_take_112 : decode prog_10_method_38_code 112 = .ok (.iload_n 3, 1) := by decide +kernel
theorem d_Model_take_113 : decode prog_10_method_38_code 113 = .ok (.invokevirtual 112, 3) := by decide +kernel
theorem d_Model_take_116 : decode prog_10_method_38_code 116 = .ok (.ifCond .eq 20, 3) := by decide +kernel
theorem d_Model_take_119 : decode prog_10_method_38_code 119 = .ok (.lload 4, 2) := by decide +kernel
theorem d_Model_take_121 : decode prog_10_method_38_code 121 = .ok (.aload_n 0, 1) := by decide +kernel
theorem d_Model_take_122 : decode prog_10_method_38_code 122 = .ok (.getfield 31, 3) := by decide +kernel
theorem d_Model_take_125 : decode prog_10_method_38_code 125 = .ok (.iload_n 3, 1) := by decide +kernel
theorem d_Model_take_126 : decode prog_10_method_38_code 126 = .ok (.iconst 1, 1) := by decide +kernel
theorem d_Model_take_127 : decode prog_10_method_38_code 127 = .ok (.iload 7, 2) := by decide +kernel
theorem d_Model_take_129 : decode prog_10_method_38_code 129 = .ok (.ishl, 1) := by decide +kernel
theorem d_Model_take_130 : decode prog_10_method_38_code 130 = .ok (.ior, 1) := by decide +kernel
theorem d_Model_take_131 : decode prog_10_method_38_code 131 = .ok (.laload, 1) := by decide +kernel
theorem d_Model_take_132 : decode prog_10_method_38_code 132 = .ok (.lsub, 1) := by decide +kernel
theorem d_Model_take_133 : decode prog_10_method_38_code 133 = .ok (.goto 5, 3) := by decide +kernel
theorem d_Model_take_136 : decode prog_10_method_38_code 136 = .ok (.lload 4, 2) := by decide +kernel
theorem d_Model_take_138 : decode prog_10_method_38_code 138 = .ok (.lstore 4, 2) := by decide +kernel
theorem d_Model_take_140 : decode prog_10_method_38_code 140 = .ok (.iinc 7 1, 3) := by decide +kernel
theorem d_Model_take_143 : decode prog_10_method_38_code 143 = .ok (.goto (-61), 3) := by decide +kernel
theorem d_Model_take_146 : decode prog_10_method_38_code 146 = .ok (.aload_n 0, 1) := by decide +kernel
theorem d_Model_take_147 : decode prog_10_method_38_code 147 = .ok (.getfield 35, 3) := by decide +kernel
theorem d_Model_take_150 : decode prog_10_method_38_code 150 = .ok (.iload 6, 2) := by decide +kernel
theorem d_Model_take_152 : decode prog_10_method_38_code 152 = .ok (.iload 7, 2) := by decide +kernel
theorem d_Model_take_154 : decode prog_10_method_38_code 154 = .ok (.iastore, 1) := by decide +kernel
theorem d_Model_take_155 : decode prog_10_method_38_code 155 = .ok (.iload_n 3, 1) := by decide +kernel
theorem d_Model_take_156 : decode prog_10_method_38_code 156 = .ok (.iconst 1, 1) := by decide +kernel
theorem d_Model_take_157 : decode prog_10_method_38_code 157 = .ok (.iload 7, 2) := by decide +kernel
theorem d_Model_take_159 : decode prog_10_method_38_code 159 = .ok (.ishl, 1) := by decide +kernel
theorem d_Model_take_160 : decode prog_10_method_38_code 160 = .ok (.ior, 1) := by decide +kernel
theorem d_Model_take_161 : decode prog_10_method_38_code 161 = .ok (.istore_n 3, 1) := by decide +kernel
theorem d_Model_take_162 : decode prog_10_method_38_code 162 = .ok (.iinc 6 1, 3) := by decide +kernel
theorem d_Model_take_165 : decode prog_10_method_38_code 165 = .ok (.goto (-95), 3) := by decide +kernel
theorem d_Model_take_168 : decode prog_10_method_38_code 168 = .ok (.aload_n 0, 1) := by decide +kernel
theorem d_Model_take_169 : decode prog_10_method_38_code 169 = .ok (.iconst 1, 1) := by decide +kernel
theorem d_Model_take_170 : decode prog_10_method_38_code 170 = .ok (.putfield 57, 3) := by decide +kernel
theorem d_Model_take_173 : decode prog_10_method_38_code 173 = .ok (.return_, 1) := by decide +kernel
noncomputable def f_Model_take (a0 : Int64) (M : oz_M) : Option (Unit × oz_M) := (if (M.1 62 2) = 0 then (some 1) else (some 0)).bind fun (z1 : Int32) => (some (oz_s M 62 0 z1)).bind fun M3 => if 0 < (M3.1 62 0) then (some ((), M3)) else (oz_b2 (f_Model_know M3) fun v4 M5 => (if (lg_cmp a0 0) < 0 then (some 2) else ((oz_in 0 16384).bind fun j7 => if (lg_cmp a0 (M5.2 68 j7)) < 0 then (some 0) else (some 2))).bind fun (z6 : Int32) => (some (oz_s M5 62 0 z6)).bind fun M10 => if 0 < (M10.1 62 0) then (some ((), M10)) else ((oz_lp (fun (s11 : Int32 × Int64 × Int32 × oz_M) => (if s11.2.2.1 < (s11.2.2.2.1 62 1) then ((oz_lp (fun (s12 : Int64 × Int32) => ((f_Model_mayCome s12.2 s11.1 s11.2.2.2).bind fun v13 => if v13 = 0 then ((f_Model_mayCome s12.2 s11.1 s11.2.2.2).bind fun v14 => if v14 = 0 then (some (.inl (s12.1, s12.2 + 1))) else ((oz_in (s11.1 ||| (1 <<< (s12.2 &&& 31))) 16384).bind fun j15 => some (.inl (s12.1 - (s11.2.2.2.2 68 j15), s12.2 + 1)))) else ((oz_in (s11.1 ||| (1 <<< (s12.2 &&& 31))) 16384).bind fun j17 => if (lg_cmp s12.1 (s11.2.2.2.2 68 j17)) < 0 then (some (.inr (s12.1, s12.2))) else ((f_Model_mayCome s12.2 s11.1 s11.2.2.2).bind fun v18 => if v18 = 0 then (some (.inl (s12.1, s12.2 + 1))) else ((oz_in (s11.1 ||| (1 <<< (s12.2 &&& 31))) 16384).bind fun j19 => some (.inl (s12.1 - (s11.2.2.2.2 68 j19), s12.2 + 1))))) : Option ((Int64 × Int32) ⊕ (Int64 × Int32)))) (s11.2.1, 0)).bind fun (y23 : Int64 × Int32) => (oz_in s11.2.2.1 14).bind fun j24 => (some (oz_s s11.2.2.2 69 j24 y23.2)).bind fun M25 => some (.inl (s11.1 ||| (1 <<< (y23.2 &&& 31)), y23.1, s11.2.2.1 + 1, M25))) else (some (.inr (s11.1, s11.2.1, s11.2.2.1, s11.2.2.2))) : Option ((Int32 × Int64 × Int32 × oz_M) ⊕ (Int32 × Int64 × Int32 × oz_M)))) (0, a0, 0, M10)).bind fun (y27 : Int32 × Int64 × Int32 × oz_M) => (some (oz_s y27.2.2.2 62 12 1)).bind fun M28 => some ((), M28)))
set_option maxRecDepth 20000 in
set_option maxHeartbeats 4000000 in
theorem c_Model_take {l : Launch} {D : va_G} {cs : Nat → ClassId} {b : Nat} {a0 : Int64} {M : oz_M} {vz : Unit} {Mz : oz_M} (hF : f_Model_take a0 M = some (vz, Mz)) : oz_Met l D cs b y_Model_take prog_10_method_38_code 8 none (oz_rm 4) [.ref (b + 62), .long a0] M (none) Mz := by
  refine oz_enter (by decide) (Nat.le_of_ble_eq_true rfl) (fun G cx hR e1 hRm e2 e3 e4 hnL => ?_)
  subst e1; subst e2; subst e3; subst e4
  refine (?_ : oz_R G 0 [(0, .ref (oz_b G + 62)), (1, .long a0)] [] M (f_Model_take a0 M) (fun x => x = (vz, Mz))) _ hF rfl
  unfold f_Model_take
  refine oz_aload_n (q := 1) cx d_Model_take_0 rfl rfl 0 rfl ?_
  refine oz_aload_n (q := 2) cx d_Model_take_1 rfl rfl 0 rfl ?_
  refine oz_get (q := 5) cx 62 2 (by decide) (ci := 8) rfl rfl tin_Model (by decide) rfl rfl tw_788 d_Model_take_2 rfl ?_
  refine oz_seq (p2 := 13) (lv2 := fun (z1 : Int32) => [(0, .ref (oz_b G + 62)), (1, .long a0)]) (st2 := fun z1 => [.int z1, .ref (oz_b G + 62)]) (M2 := fun z1 => M) ?_ (fun z1 => ?_)
  · refine oz_if_eq (q := 8) cx d_Model_take_5 rfl rfl (fun h2 => ?_) (fun h2 => ?_)
    · refine oz_iconst (q := 13) cx d_Model_take_12 rfl (v := 1) rfl ?_
      exact oz_lv [0, 1] rfl (oz_leaf (fun h => h))
    · refine oz_iconst (q := 9) cx d_Model_take_8 rfl (v := 0) rfl ?_
      refine oz_goto cx d_Model_take_9 rfl ?_
      exact oz_lv [0, 1] rfl (oz_leaf (fun h => h))
  · refine oz_put (q := 16) cx 62 0 (by decide) (ci := 8) rfl rfl rfl tin_Model t_Model t_Model_ok n_Model (by decide) (Nat.le_of_ble_eq_true rfl) rfl tw_786 rfl rfl rfl d_Model_take_13 rfl ?_
    refine oz_nm (fun M3 hM3 => ?_)
    refine oz_aload_n (q := 17) cx d_Model_take_16 rfl rfl 0 rfl ?_
    refine oz_get (q := 20) cx 62 0 (by decide) (ci := 8) rfl rfl tin_Model (by decide) rfl rfl tw_786 d_Model_take_17 rfl ?_
    refine oz_if_le (q := 23) cx d_Model_take_20 rfl rfl (fun h30 => ?_) (fun h30 => ?_)
    · refine oz_aload_n (q := 25) cx d_Model_take_24 rfl rfl 0 rfl ?_
      refine oz_cVv (q := 28) cx 62 [] 0 8 hRm (by decide) (by decide) (fun _ _ h => c_Model_know h) ⟨tw_915, tw_917, ts_40, tw_9⟩ tw_918 (by decide +kernel) rfl (by decide) rfl rfl (st := []) rfl (Nat.le_of_ble_eq_true rfl) d_Model_take_25 rfl (fun v4 M5 hv4 => ?_)
      refine oz_aload_n (q := 29) cx d_Model_take_28 rfl rfl 0 rfl ?_
      refine oz_lload_n (q := 30) cx d_Model_take_29 rfl rfl 1 rfl ?_
      refine oz_lconst (q := 31) cx d_Model_take_30 rfl (v := 0) rfl ?_
      refine oz_lcmp (q := 32) cx d_Model_take_31 rfl ?_
      refine oz_seq (p2 := 51) (lv2 := fun (z6 : Int32) => [(0, .ref (oz_b G + 62)), (1, .long a0)]) (st2 := fun z6 => [.int z6, .ref (oz_b G + 62)]) (M2 := fun z6 => M5) ?_ (fun z6 => ?_)
      · refine oz_if_lt (q := 35) cx d_Model_take_32 rfl rfl (fun h9 => ?_) (fun h9 => ?_)
        · refine oz_iconst (q := 51) cx d_Model_take_50 rfl (v := 2) rfl ?_
          exact oz_lv [0, 1] rfl (oz_leaf (fun h => h))
        · refine oz_lload_n (q := 36) cx d_Model_take_35 rfl rfl 1 rfl ?_
          refine oz_aload_n (q := 37) cx d_Model_take_36 rfl rfl 0 rfl ?_
          refine oz_get (q := 40) cx 62 9 (by decide) (ci := 8) rfl rfl tin_Model (by decide) rfl rfl tw_795 d_Model_take_37 rfl ?_
          refine oz_iconst (q := 41) cx d_Model_take_40 rfl (v := 0) rfl ?_
          refine oz_lald (q := 42) cx 68 16384 (by decide) rfl d_Model_take_41 rfl (fun j7 hj7 => ?_)
          refine oz_lcmp (q := 43) cx d_Model_take_42 rfl ?_
          refine oz_if_ge (q := 46) cx d_Model_take_43 rfl rfl (fun h8 => ?_) (fun h8 => ?_)
          · refine oz_iconst (q := 51) cx d_Model_take_50 rfl (v := 2) rfl ?_
            exact oz_lv [0, 1] rfl (oz_leaf (fun h => h))
          · refine oz_iconst (q := 47) cx d_Model_take_46 rfl (v := 0) rfl ?_
            refine oz_goto cx d_Model_take_47 rfl ?_
            exact oz_lv [0, 1] rfl (oz_leaf (fun h => h))
      · refine oz_put (q := 54) cx 62 0 (by decide) (ci := 8) rfl rfl rfl tin_Model t_Model t_Model_ok n_Model (by decide) (Nat.le_of_ble_eq_true rfl) rfl tw_786 rfl rfl rfl d_Model_take_51 rfl ?_
        refine oz_nm (fun M10 hM10 => ?_)
        refine oz_aload_n (q := 55) cx d_Model_take_54 rfl rfl 0 rfl ?_
        refine oz_get (q := 58) cx 62 0 (by decide) (ci := 8) rfl rfl tin_Model (by decide) rfl rfl tw_786 d_Model_take_55 rfl ?_
        refine oz_if_le (q := 61) cx d_Model_take_58 rfl rfl (fun h29 => ?_) (fun h29 => ?_)
        · refine oz_iconst (q := 63) cx d_Model_take_62 rfl (v := 0) rfl ?_
          refine oz_istore_n (q := 64) cx d_Model_take_63 rfl rfl (by rw [hnL]; decide) (lv2 := [(3, .int 0), (0, .ref (oz_b G + 62)), (1, .long a0)]) rfl ?_
          refine oz_lload_n (q := 65) cx d_Model_take_64 rfl rfl 2 rfl ?_
          refine oz_lstore (q := 67) cx d_Model_take_65 rfl (by rw [hnL]; decide) (lv2 := [(4, .long a0), (3, .int 0), (0, .ref (oz_b G + 62)), (1, .long a0)]) rfl ?_
          refine oz_iconst (q := 68) cx d_Model_take_67 rfl (v := 0) rfl ?_
          refine oz_istore (q := 70) cx d_Model_take_68 rfl (by rw [hnL]; decide) (lv2 := [(6, .int 0), (4, .long a0), (3, .int 0), (0, .ref (oz_b G + 62)), (1, .long a0)]) rfl ?_
          refine oz_lv [3, 2, 1, 0] rfl ?_
          refine oz_seq (p2 := 168) (lv2 := fun (y27 : Int32 × Int64 × Int32 × oz_M) => [(0, .ref (oz_b G + 62))]) (st2 := fun y27 => []) (M2 := fun y27 => y27.2.2.2) ?_ (fun y27 => ?_)
          · refine oz_loop (Y := Int32 × Int64 × Int32 × oz_M) 70 (fun (s11 : Int32 × Int64 × Int32 × oz_M) => [(0, .ref (oz_b G + 62)), (3, .int s11.1), (4, .long s11.2.1), (6, .int s11.2.2.1)]) (fun (s11 : Int32 × Int64 × Int32 × oz_M) => s11.2.2.2) (0, a0, 0, M10) (fun s11 => ?_)
            refine oz_iload (q := 72) cx d_Model_take_70 rfl 3 rfl ?_
            refine oz_aload_n (q := 73) cx d_Model_take_72 rfl rfl 0 rfl ?_
            refine oz_get (q := 76) cx 62 1 (by decide) (ci := 8) rfl rfl tin_Model (by decide) rfl rfl tw_787 d_Model_take_73 rfl ?_
            refine oz_icmp_ge (q := 79) cx d_Model_take_76 rfl rfl (fun h26 => ?_) (fun h26 => ?_)
            · exact oz_lv [0] rfl (oz_leaf (fun h => h))
            · refine oz_iconst (q := 80) cx d_Model_take_79 rfl (v := 0) rfl ?_
              refine oz_istore (q := 82) cx d_Model_take_80 rfl (by rw [hnL]; decide) (lv2 := [(7, .int 0), (0, .ref (oz_b G + 62)), (3, .int s11.1), (4, .long s11.2.1), (6, .int s11.2.2.1)]) rfl ?_
              refine oz_lv [1, 2, 3, 4, 0] rfl ?_
              refine oz_seq (p2 := 146) (lv2 := fun (y23 : Int64 × Int32) => [(0, .ref (oz_b G + 62)), (3, .int s11.1), (4, .long y23.1), (6, .int s11.2.2.1), (7, .int y23.2)]) (st2 := fun y23 => []) (M2 := fun y23 => s11.2.2.2) ?_ (fun y23 => ?_)
              · refine oz_loop (Y := Int64 × Int32) 82 (fun (s12 : Int64 × Int32) => [(0, .ref (oz_b G + 62)), (3, .int s11.1), (4, .long s12.1), (6, .int s11.2.2.1), (7, .int s12.2)]) (fun (s12 : Int64 × Int32) => s11.2.2.2) (s11.2.1, 0) (fun s12 => ?_)
                refine oz_aload_n (q := 83) cx d_Model_take_82 rfl rfl 0 rfl ?_
                refine oz_iload (q := 85) cx d_Model_take_83 rfl 4 rfl ?_
                refine oz_iload_n (q := 86) cx d_Model_take_85 rfl rfl 1 rfl ?_
                refine oz_cVip (q := 89) cx 62 [.int s12.2, .int s11.1] 2 8 hRm (by decide) (by decide) (fun _ h => c_Model_mayCome h) ⟨tw_933, tw_935, ts_43, tw_9⟩ tw_936 (by decide +kernel) rfl (by decide) rfl rfl (st := []) rfl (Nat.le_of_ble_eq_true rfl) d_Model_take_86 rfl (fun v13 hv13 => ?_)
                refine oz_if_eq (q := 92) cx d_Model_take_89 rfl rfl (fun h22 => ?_) (fun h22 => ?_)
                · refine oz_aload_n (q := 110) cx d_Model_take_109 rfl rfl 0 rfl ?_
                  refine oz_iload (q := 112) cx d_Model_take_110 rfl 4 rfl ?_
                  refine oz_iload_n (q := 113) cx d_Model_take_112 rfl rfl 1 rfl ?_
                  refine oz_cVip (q := 116) cx 62 [.int s12.2, .int s11.1] 2 8 hRm (by decide) (by decide) (fun _ h => c_Model_mayCome h) ⟨tw_933, tw_935, ts_43, tw_9⟩ tw_936 (by decide +kernel) rfl (by decide) rfl rfl (st := []) rfl (Nat.le_of_ble_eq_true rfl) d_Model_take_113 rfl (fun v14 hv14 => ?_)
                  refine oz_if_eq (q := 119) cx d_Model_take_116 rfl rfl (fun h16 => ?_) (fun h16 => ?_)
                  · refine oz_lload (q := 138) cx d_Model_take_136 rfl 2 rfl ?_
                    refine oz_lstore (q := 140) cx d_Model_take_138 rfl (by rw [hnL]; decide) (lv2 := [(4, .long s12.1), (0, .ref (oz_b G + 62)), (3, .int s11.1), (6, .int s11.2.2.1), (7, .int s12.2)]) rfl ?_
                    refine oz_iinc (q := 143) cx (s12.2 + 1) d_Model_take_140 rfl 4 rfl rfl (by rw [hnL]; decide) (lv2 := [(7, .int (s12.2 + 1)), (4, .long s12.1), (0, .ref (oz_b G + 62)), (3, .int s11.1), (6, .int s11.2.2.1)]) rfl ?_
                    refine oz_goto cx d_Model_take_143 rfl ?_
                    exact oz_lv [2, 3, 1, 4, 0] rfl (oz_leaf (fun h => h))
                  · refine oz_lload (q := 121) cx d_Model_take_119 rfl 2 rfl ?_
                    refine oz_aload_n (q := 122) cx d_Model_take_121 rfl rfl 0 rfl ?_
                    refine oz_get (q := 125) cx 62 9 (by decide) (ci := 8) rfl rfl tin_Model (by decide) rfl rfl tw_795 d_Model_take_122 rfl ?_
                    refine oz_iload_n (q := 126) cx d_Model_take_125 rfl rfl 1 rfl ?_
                    refine oz_iconst (q := 127) cx d_Model_take_126 rfl (v := 1) rfl ?_
                    refine oz_iload (q := 129) cx d_Model_take_127 rfl 4 rfl ?_
                    refine oz_ishl (q := 130) cx d_Model_take_129 rfl ?_
                    refine oz_ior (q := 131) cx d_Model_take_130 rfl ?_
                    refine oz_lald (q := 132) cx 68 16384 (by decide) rfl d_Model_take_131 rfl (fun j15 hj15 => ?_)
                    refine oz_lsub (q := 133) cx d_Model_take_132 rfl ?_
                    refine oz_goto cx d_Model_take_133 rfl ?_
                    refine oz_lstore (q := 140) cx d_Model_take_138 rfl (by rw [hnL]; decide) (lv2 := [(4, .long (s12.1 - (s11.2.2.2.2 68 j15))), (0, .ref (oz_b G + 62)), (3, .int s11.1), (6, .int s11.2.2.1), (7, .int s12.2)]) rfl ?_
                    refine oz_iinc (q := 143) cx (s12.2 + 1) d_Model_take_140 rfl 4 rfl rfl (by rw [hnL]; decide) (lv2 := [(7, .int (s12.2 + 1)), (4, .long (s12.1 - (s11.2.2.2.2 68 j15))), (0, .ref (oz_b G + 62)), (3, .int s11.1), (6, .int s11.2.2.1)]) rfl ?_
                    refine oz_goto cx d_Model_take_143 rfl ?_
                    exact oz_lv [2, 3, 1, 4, 0] rfl (oz_leaf (fun h => h))
                · refine oz_lload (q := 94) cx d_Model_take_92 rfl 2 rfl ?_
                  refine oz_aload_n (q := 95) cx d_Model_take_94 rfl rfl 0 rfl ?_
                  refine oz_get (q := 98) cx 62 9 (by decide) (ci := 8) rfl rfl tin_Model (by decide) rfl rfl tw_795 d_Model_take_95 rfl ?_
                  refine oz_iload_n (q := 99) cx d_Model_take_98 rfl rfl 1 rfl ?_
                  refine oz_iconst (q := 100) cx d_Model_take_99 rfl (v := 1) rfl ?_
                  refine oz_iload (q := 102) cx d_Model_take_100 rfl 4 rfl ?_
                  refine oz_ishl (q := 103) cx d_Model_take_102 rfl ?_
                  refine oz_ior (q := 104) cx d_Model_take_103 rfl ?_
                  refine oz_lald (q := 105) cx 68 16384 (by decide) rfl d_Model_take_104 rfl (fun j17 hj17 => ?_)
                  refine oz_lcmp (q := 106) cx d_Model_take_105 rfl ?_
                  refine oz_if_lt (q := 109) cx d_Model_take_106 rfl rfl (fun h21 => ?_) (fun h21 => ?_)
                  · exact oz_lv [0, 1, 2, 3, 4] rfl (oz_leaf (fun h => h))
                  · refine oz_aload_n (q := 110) cx d_Model_take_109 rfl rfl 0 rfl ?_
                    refine oz_iload (q := 112) cx d_Model_take_110 rfl 4 rfl ?_
                    refine oz_iload_n (q := 113) cx d_Model_take_112 rfl rfl 1 rfl ?_
                    refine oz_cVip (q := 116) cx 62 [.int s12.2, .int s11.1] 2 8 hRm (by decide) (by decide) (fun _ h => c_Model_mayCome h) ⟨tw_933, tw_935, ts_43, tw_9⟩ tw_936 (by decide +kernel) rfl (by decide) rfl rfl (st := []) rfl (Nat.le_of_ble_eq_true rfl) d_Model_take_113 rfl (fun v18 hv18 => ?_)
                    refine oz_if_eq (q := 119) cx d_Model_take_116 rfl rfl (fun h20 => ?_) (fun h20 => ?_)
                    · refine oz_lload (q := 138) cx d_Model_take_136 rfl 2 rfl ?_
                      refine oz_lstore (q := 140) cx d_Model_take_138 rfl (by rw [hnL]; decide) (lv2 := [(4, .long s12.1), (0, .ref (oz_b G + 62)), (3, .int s11.1), (6, .int s11.2.2.1), (7, .int s12.2)]) rfl ?_
                      refine oz_iinc (q := 143) cx (s12.2 + 1) d_Model_take_140 rfl 4 rfl rfl (by rw [hnL]; decide) (lv2 := [(7, .int (s12.2 + 1)), (4, .long s12.1), (0, .ref (oz_b G + 62)), (3, .int s11.1), (6, .int s11.2.2.1)]) rfl ?_
                      refine oz_goto cx d_Model_take_143 rfl ?_
                      exact oz_lv [2, 3, 1, 4, 0] rfl (oz_leaf (fun h => h))
                    · refine oz_lload (q := 121) cx d_Model_take_119 rfl 2 rfl ?_
                      refine oz_aload_n (q := 122) cx d_Model_take_121 rfl rfl 0 rfl ?_
                      refine oz_get (q := 125) cx 62 9 (by decide) (ci := 8) rfl rfl tin_Model (by decide) rfl rfl tw_795 d_Model_take_122 rfl ?_
                      refine oz_iload_n (q := 126) cx d_Model_take_125 rfl rfl 1 rfl ?_
                      refine oz_iconst (q := 127) cx d_Model_take_126 rfl (v := 1) rfl ?_
                      refine oz_iload (q := 129) cx d_Model_take_127 rfl 4 rfl ?_
                      refine oz_ishl (q := 130) cx d_Model_take_129 rfl ?_
                      refine oz_ior (q := 131) cx d_Model_take_130 rfl ?_
                      refine oz_lald (q := 132) cx 68 16384 (by decide) rfl d_Model_take_131 rfl (fun j19 hj19 => ?_)
                      refine oz_lsub (q := 133) cx d_Model_take_132 rfl ?_
                      refine oz_goto cx d_Model_take_133 rfl ?_
                      refine oz_lstore (q := 140) cx d_Model_take_138 rfl (by rw [hnL]; decide) (lv2 := [(4, .long (s12.1 - (s11.2.2.2.2 68 j19))), (0, .ref (oz_b G + 62)), (3, .int s11.1), (6, .int s11.2.2.1), (7, .int s12.2)]) rfl ?_
                      refine oz_iinc (q := 143) cx (s12.2 + 1) d_Model_take_140 rfl 4 rfl rfl (by rw [hnL]; decide) (lv2 := [(7, .int (s12.2 + 1)), (4, .long (s12.1 - (s11.2.2.2.2 68 j19))), (0, .ref (oz_b G + 62)), (3, .int s11.1), (6, .int s11.2.2.1)]) rfl ?_
                      refine oz_goto cx d_Model_take_143 rfl ?_
                      exact oz_lv [2, 3, 1, 4, 0] rfl (oz_leaf (fun h => h))
              · refine oz_aload_n (q := 147) cx d_Model_take_146 rfl rfl 0 rfl ?_
                refine oz_get (q := 150) cx 62 11 (by decide) (ci := 8) rfl rfl tin_Model (by decide) rfl rfl tw_797 d_Model_take_147 rfl ?_
                refine oz_iload (q := 152) cx d_Model_take_150 rfl 3 rfl ?_
                refine oz_iload (q := 154) cx d_Model_take_152 rfl 4 rfl ?_
                refine oz_iast (q := 155) cx 69 14 (by decide) (fun _ => rfl) d_Model_take_154 rfl (fun j24 hj24 => ?_)
                refine oz_nm (fun M25 hM25 => ?_)
                refine oz_iload_n (q := 156) cx d_Model_take_155 rfl rfl 1 rfl ?_
                refine oz_iconst (q := 157) cx d_Model_take_156 rfl (v := 1) rfl ?_
                refine oz_iload (q := 159) cx d_Model_take_157 rfl 4 rfl ?_
                refine oz_ishl (q := 160) cx d_Model_take_159 rfl ?_
                refine oz_ior (q := 161) cx d_Model_take_160 rfl ?_
                refine oz_istore_n (q := 162) cx d_Model_take_161 rfl rfl (by rw [hnL]; decide) (lv2 := [(3, .int (s11.1 ||| (1 <<< (y23.2 &&& 31)))), (0, .ref (oz_b G + 62)), (4, .long y23.1), (6, .int s11.2.2.1), (7, .int y23.2)]) rfl ?_
                refine oz_iinc (q := 165) cx (s11.2.2.1 + 1) d_Model_take_162 rfl 3 rfl rfl (by rw [hnL]; decide) (lv2 := [(6, .int (s11.2.2.1 + 1)), (3, .int (s11.1 ||| (1 <<< (y23.2 &&& 31)))), (0, .ref (oz_b G + 62)), (4, .long y23.1), (7, .int y23.2)]) rfl ?_
                refine oz_goto cx d_Model_take_165 rfl ?_
                exact oz_lv [2, 1, 3, 0] rfl (oz_leaf (fun h => h))
          · refine oz_aload_n (q := 169) cx d_Model_take_168 rfl rfl 0 rfl ?_
            refine oz_iconst (q := 170) cx d_Model_take_169 rfl (v := 1) rfl ?_
            refine oz_put (q := 173) cx 62 12 (by decide) (ci := 8) rfl rfl rfl tin_Model t_Model t_Model_ok n_Model (by decide) (Nat.le_of_ble_eq_true rfl) rfl tw_798 rfl rfl rfl d_Model_take_170 rfl ?_
            refine oz_nm (fun M28 hM28 => ?_)
            exact oz_vret cx hR d_Model_take_173
        · exact oz_vret cx hR d_Model_take_61
    · exact oz_vret cx hR d_Model_take_23
def y_Hall_settle : MethodName := ⟨"OrderHall", "settle", "()I"⟩
theorem d_Hall_settle_0 : decode prog_1_method_5_code 0 = .ok (.aload_n 0, 1) := by decide +kernel
theorem d_Hall_settle_1 : decode prog_1_method_5_code 1 = .ok (.invokevirtual 67, 3) := by decide +kernel
theorem d_Hall_settle_4 : decode prog_1_method_5_code 4 = .ok (.aload_n 0, 1) := by decide +kernel
theorem d_Hall_settle_5 : decode prog_1_method_5_code 5 = .ok (.getfield 19, 3) := by decide +kernel
theorem d_Hall_settle_8 : decode prog_1_method_5_code 8 = .ok (.aload_n 0, 1) := by decide +kernel
theorem d_Hall_settle_9 : decode prog_1_method_5_code 9 = .ok (.getfield 10, 3) := by decide +kernel
theorem d_Hall_settle_12 : decode prog_1_method_5_code 12 = .ok (.invokevirtual 89, 3) := by decide +kernel
theorem d_Hall_settle_15 : decode prog_1_method_5_code 15 = .ok (.aload_n 0, 1) := by decide +kernel
theorem d_Hall_settle_16 : decode prog_1_method_5_code 16 = .ok (.getfield 19, 3) := by decide +kernel
theorem d_Hall_settle_19 : decode prog_1_method_5_code 19 = .ok (.getfield 93, 3) := by decide +kernel
theorem d_Hall_settle_22 : decode prog_1_method_5_code 22 = .ok (.ifCond .ne 7, 3) := by decide +kernel
theorem d_Hall_settle_25 : decode prog_1_method_5_code 25 = .ok (.aload_n 0, 1) := by decide +kernel
theorem d_Hall_settle_26 : decode prog_1_method_5_code 26 = .ok (.invokevirtual 96, 3) := by decide +kernel
theorem d_Hall_settle_29 : decode prog_1_method_5_code 29 = .ok (.aload_n 0, 1) := by decide +kernel
theorem d_Hall_settle_30 : decode prog_1_method_5_code 30 = .ok (.getfield 19, 3) := by decide +kernel
theorem d_Hall_settle_33 : decode prog_1_method_5_code 33 = .ok (.getfield 93, 3) := by decide +kernel
theorem d_Hall_settle_36 : decode prog_1_method_5_code 36 = .ok (.ireturn, 1) := by decide +kernel
noncomputable def f_Hall_settle (M : oz_M) : Option (Int32 × oz_M) := oz_b2 (f_Hall_unsettle M) fun v1 M2 => oz_b2 (f_Ring_seek M2) fun v3 M4 => if (M4.1 3 0) = 0 then (oz_b2 (f_Hall_adopt M4) fun v5 M6 => some (M6.1 3 0, M6)) else (some (M4.1 3 0, M4))
set_option maxRecDepth 20000 in
set_option maxHeartbeats 4000000 in
theorem c_Hall_settle {l : Launch} {D : va_G} {cs : Nat → ClassId} {b : Nat} {M : oz_M} {vz : Int32} {Mz : oz_M} (hF : f_Hall_settle M = some (vz, Mz)) : oz_Met l D cs b y_Hall_settle prog_1_method_5_code 1 (some .int) (oz_rm 5) [.ref (b + 0)] M (some (.int vz)) Mz := by
  refine oz_enter (by decide) (Nat.le_of_ble_eq_true rfl) (fun G cx hR e1 hRm e2 e3 e4 hnL => ?_)
  subst e1; subst e2; subst e3; subst e4
  refine (?_ : oz_R G 0 [(0, .ref (oz_b G + 0))] [] M (f_Hall_settle  M) (fun x => x = (vz, Mz))) _ hF rfl
  unfold f_Hall_settle
  refine oz_aload_n (q := 1) cx d_Hall_settle_0 rfl rfl 0 rfl ?_
  refine oz_cVv (q := 4) cx 0 [] 0 0 hRm (by decide) (by decide) (fun _ _ h => c_Hall_unsettle h) ⟨tw_257, tw_259, ts_0, tw_1⟩ tw_260 (by decide +kernel) rfl (by decide) rfl rfl (st := []) rfl (Nat.le_of_ble_eq_true rfl) d_Hall_settle_1 rfl (fun v1 M2 hv1 => ?_)
  refine oz_aload_n (q := 5) cx d_Hall_settle_4 rfl rfl 0 rfl ?_
  refine oz_get (q := 8) cx 0 1 (by decide) (ci := 0) rfl rfl tin_Hall (by decide) rfl rfl tw_229 d_Hall_settle_5 rfl ?_
  refine oz_aload_n (q := 9) cx d_Hall_settle_8 rfl rfl 0 rfl ?_
  refine oz_get (q := 12) cx 0 0 (by decide) (ci := 0) rfl rfl tin_Hall (by decide) rfl rfl tw_228 d_Hall_settle_9 rfl ?_
  refine oz_cVv (q := 15) cx 3 [.ref (oz_b G + 1)] 1 2 hRm (by decide) (by decide) (fun _ _ h => c_Ring_seek h) ⟨tw_261, tw_262, tw_263, tw_3⟩ tw_264 (by decide +kernel) rfl (by decide) rfl rfl (st := []) rfl (Nat.le_of_ble_eq_true rfl) d_Hall_settle_12 rfl (fun v3 M4 hv3 => ?_)
  refine oz_aload_n (q := 16) cx d_Hall_settle_15 rfl rfl 0 rfl ?_
  refine oz_get (q := 19) cx 0 1 (by decide) (ci := 0) rfl rfl tin_Hall (by decide) rfl rfl tw_229 d_Hall_settle_16 rfl ?_
  refine oz_get (q := 22) cx 3 0 (by decide) (ci := 2) rfl rfl tin_Ring (by decide) rfl rfl tw_52 d_Hall_settle_19 rfl ?_
  refine oz_if_ne (q := 25) cx d_Hall_settle_22 rfl rfl (fun h7 => ?_) (fun h7 => ?_)
  · refine oz_aload_n (q := 30) cx d_Hall_settle_29 rfl rfl 0 rfl ?_
    refine oz_get (q := 33) cx 0 1 (by decide) (ci := 0) rfl rfl tin_Hall (by decide) rfl rfl tw_229 d_Hall_settle_30 rfl ?_
    refine oz_get (q := 36) cx 3 0 (by decide) (ci := 2) rfl rfl tin_Ring (by decide) rfl rfl tw_52 d_Hall_settle_33 rfl ?_
    exact oz_iret cx hR d_Hall_settle_36
  · refine oz_aload_n (q := 26) cx d_Hall_settle_25 rfl rfl 0 rfl ?_
    refine oz_cVv (q := 29) cx 0 [] 0 0 hRm (by decide) (by decide) (fun _ _ h => c_Hall_adopt h) ⟨tw_283, tw_285, ts_3, tw_1⟩ tw_286 (by decide +kernel) rfl (by decide) rfl rfl (st := []) rfl (Nat.le_of_ble_eq_true rfl) d_Hall_settle_26 rfl (fun v5 M6 hv5 => ?_)
    refine oz_aload_n (q := 30) cx d_Hall_settle_29 rfl rfl 0 rfl ?_
    refine oz_get (q := 33) cx 0 1 (by decide) (ci := 0) rfl rfl tin_Hall (by decide) rfl rfl tw_229 d_Hall_settle_30 rfl ?_
    refine oz_get (q := 36) cx 3 0 (by decide) (ci := 2) rfl rfl tin_Ring (by decide) rfl rfl tw_52 d_Hall_settle_33 rfl ?_
    exact oz_iret cx hR d_Hall_settle_36
def y_Model_first : MethodName := ⟨"OrderHallModel", "first", "(II)I"⟩
theorem d_Model_first_0 : decode prog_10_method_35_code 0 = .ok (.aload_n 0, 1) := by decide +kernel
theorem d_Model_first_1 : decode prog_10_method_35_code 1 = .ok (.iload_n 1, 1) := by decide +kernel
theorem d_Model_first_2 : decode prog_10_method_35_code 2 = .ok (.iload_n 2, 1) := by decide +kernel
theorem d_Model_first_3 : decode prog_10_method_35_code 3 = .ok (.invokevirtual 129, 3) := by decide +kernel
theorem d_Model_first_6 : decode prog_10_method_35_code 6 = .ok (.ifCond .eq 12, 3) := by decide +kernel
theorem d_Model_first_9 : decode prog_10_method_35_code 9 = .ok (.aload_n 0, 1) := by decide +kernel
theorem d_Model_first_10 : decode prog_10_method_35_code 10 = .ok (.iload_n 1, 1) := by decide +kernel
theorem d_Model_first_11 : decode prog_10_method_35_code 11 = .ok (.iload_n 2, 1) := by decide +kernel
theorem d_Model_first_12 : decode prog_10_method_35_code 12 = .ok (.invokevirtual 132, 3) := by decide +kernel
theorem d_Model_first_15 : decode prog_10_method_35_code 15 = .ok (.goto 4, 3) := by decide +kernel
theorem d_Model_first_18 : decode prog_10_method_35_code 18 = .ok (.iconst 0, 1) := by decide +kernel
theorem d_Model_first_19 : decode prog_10_method_35_code 19 = .ok (.ireturn, 1) := by decide +kernel
noncomputable def f_Model_first (a0 : Int32) (a1 : Int32) (M : oz_M) : Option (Int32 × oz_M) := oz_b2 (f_Model_asks a0 a1 M) fun v1 M2 => if v1 = 0 then (some (0, M2)) else (oz_b2 (f_Model_firstHeld a0 a1 M2) fun v3 M4 => some (v3, M4))
set_option maxRecDepth 20000 in
set_option maxHeartbeats 4000000 in
theorem c_Model_first {l : Launch} {D : va_G} {cs : Nat → ClassId} {b : Nat} {a0 : Int32} {a1 : Int32} {M : oz_M} {vz : Int32} {Mz : oz_M} (hF : f_Model_first a0 a1 M = some (vz, Mz)) : oz_Met l D cs b y_Model_first prog_10_method_35_code 3 (some .int) (oz_rm 5) [.ref (b + 62), .int a0, .int a1] M (some (.int vz)) Mz := by
  refine oz_enter (by decide) (Nat.le_of_ble_eq_true rfl) (fun G cx hR e1 hRm e2 e3 e4 hnL => ?_)
  subst e1; subst e2; subst e3; subst e4
  refine (?_ : oz_R G 0 [(0, .ref (oz_b G + 62)), (1, .int a0), (2, .int a1)] [] M (f_Model_first a0 a1 M) (fun x => x = (vz, Mz))) _ hF rfl
  unfold f_Model_first
  refine oz_aload_n (q := 1) cx d_Model_first_0 rfl rfl 0 rfl ?_
  refine oz_iload_n (q := 2) cx d_Model_first_1 rfl rfl 1 rfl ?_
  refine oz_iload_n (q := 3) cx d_Model_first_2 rfl rfl 2 rfl ?_
  refine oz_cVi (q := 6) cx 62 [.int a0, .int a1] 2 8 hRm (by decide) (by decide) (fun _ _ h => c_Model_asks h) ⟨tw_957, tw_959, ts_46, tw_9⟩ tw_960 (by decide +kernel) rfl (by decide) rfl rfl (st := []) rfl (Nat.le_of_ble_eq_true rfl) d_Model_first_3 rfl (fun v1 M2 hv1 => ?_)
  refine oz_if_eq (q := 9) cx d_Model_first_6 rfl rfl (fun h5 => ?_) (fun h5 => ?_)
  · refine oz_iconst (q := 19) cx d_Model_first_18 rfl (v := 0) rfl ?_
    exact oz_iret cx hR d_Model_first_19
  · refine oz_aload_n (q := 10) cx d_Model_first_9 rfl rfl 0 rfl ?_
    refine oz_iload_n (q := 11) cx d_Model_first_10 rfl rfl 1 rfl ?_
    refine oz_iload_n (q := 12) cx d_Model_first_11 rfl rfl 2 rfl ?_
    refine oz_cVi (q := 15) cx 62 [.int a0, .int a1] 2 8 hRm (by decide) (by decide) (fun _ _ h => c_Model_firstHeld h) ⟨tw_961, tw_963, ts_47, tw_9⟩ tw_964 (by decide +kernel) rfl (by decide) rfl rfl (st := []) rfl (Nat.le_of_ble_eq_true rfl) d_Model_first_12 rfl (fun v3 M4 hv3 => ?_)
    refine oz_goto cx d_Model_first_15 rfl ?_
    exact oz_iret cx hR d_Model_first_19
def y_Model_keep : MethodName := ⟨"OrderHallModel", "keep", "(I)I"⟩
theorem d_Model_keep_0 : decode prog_10_method_50_code 0 = .ok (.aload_n 0, 1) := by decide +kernel
theorem d_Model_keep_1 : decode prog_10_method_50_code 1 = .ok (.aload_n 0, 1) := by decide +kernel
theorem d_Model_keep_2 : decode prog_10_method_50_code 2 = .ok (.getfield 53, 3) := by decide +kernel
theorem d_Model_keep_5 : decode prog_10_method_50_code 5 = .ok (.ifCond .ne 7, 3) := by decide +kernel
theorem d_Model_keep_8 : decode prog_10_method_50_code 8 = .ok (.iconst 1, 1) := by decide +kernel
theorem d_Model_keep_9 : decode prog_10_method_50_code 9 = .ok (.goto 22, 3) := by decide +kernel
theorem d_Model_keep_12 : decode prog_10_method_50_code 12 = .ok (.iload_n 1, 1) := by decide +kernel
theorem d_Model_keep_13 : decode prog_10_method_50_code 13 = .ok (.ifCond .le 13, 3) := by decide +kernel
theorem d_Model_keep_16 : decode prog_10_method_50_code 16 = .ok (.iload_n 1, 1) := by decide +kernel
theorem d_Model_keep_17 : decode prog_10_method_50_code 17 = .ok (.iconst 1, 1) := by decide +kernel
theorem d_Model_keep_18 : decode prog_10_method_50_code 18 = .ok (.aload_n 0, 1) := by decide +kernel
theorem d_Model_keep_19 : decode prog_10_method_50_code 19 = .ok (.getfield 7, 3) := by decide +kernel
theorem d_Model_keep_22 : decode prog_10_method_50_code 22 = .ok (.ishl, 1) := by decide +kernel
theorem d_Model_keep_23 : decode prog_10_method_50_code 23 = .ok (.if_icmp .lt 7, 3) := by decide +kernel
theorem d_Model_keep_26 : decode prog_10_method_50_code 26 = .ok (.iconst 2, 1) := by decide +kernel
theorem d_Model_keep_27 : decode prog_10_method_50_code 27 = .ok (.goto 4, 3) := by decide +kernel
theorem d_Model_keep_30 : decode prog_10_method_50_code 30 = .ok (.iconst 0, 1) := by decide +kernel
theorem d_Model_keep_31 : decode prog_10_method_50_code 31 = .ok (.putfield 50, 3) := by decide +kernel
theorem d_Model_keep_34 : decode prog_10_method_50_code 34 = .ok (.aload_n 0, 1) := by decide +kernel
theorem d_Model_keep_35 : decode prog_10_method_50_code 35 = .ok (.getfield 50, 3) := by decide +kernel
theorem d_Model_keep_38 : decode prog_10_method_50_code 38 = .ok (.ifCond .le 5, 3) := by decide +kernel
theorem d_Model_keep_41 : decode prog_10_method_50_code 41 = .ok (.iconst 0, 1) := by decide +kernel
theorem d_Model_keep_42 : decode prog_10_method_50_code 42 = .ok (.ireturn, 1) := by decide +kernel
theorem d_Model_keep_43 : decode prog_10_method_50_code 43 = .ok (.iconst 0, 1) := by decide +kernel
theorem d_Model_keep_44 : decode prog_10_method_50_code 44 = .ok (.istore_n 2, 1) := by decide +kernel
theorem d_Model_keep_45 : decode prog_10_method_50_code 45 = .ok (.iconst 0, 1) := by decide +kernel
theorem d_Model_keep_46 : decode prog_10_method_50_code 46 = .ok (.istore_n 3, 1) := by decide +kernel
theorem d_Model_keep_47 : decode prog_10_method_50_code 47 = .ok (.iload_n 3, 1) := by decide +kernel
theorem d_Model_keep_48 : decode prog_10_method_50_code 48 = .ok (.aload_n 0, 1) := by decide +kernel
theorem d_Model_keep_49 : decode prog_10_method_50_code 49 = .ok (.getfield 7, 3) := by decide +kernel
theorem d_Model_keep_52 : decode prog_10_method_50_code 52 = .ok (.if_icmp .ge 27, 3) := by decide +kernel
theorem d_Model_keep_55 : decode prog_10_method_50_code 55 = .ok (.iload_n 1, 1) := by decide +kernel
theorem d_Model_keep_56 : decode prog_10_method_50_code 56 = .ok (.iload_n 3, 1) := by decide +kernel
theorem d_Model_keep_57 : decode prog_10_method_50_code 57 = .ok (.invokestatic 100, 3) := by decide +kernel
theorem d_Model_keep_60 : decode prog_10_method_50_code 60 = .ok (.ifCond .eq 13, 3) := by decide +kernel
theorem d_Model_keep_63 : decode prog_10_method_50_code 63 = .ok (.aload_n 0, 1) := by decide +kernel
theorem d_Model_keep_64 : decode prog_10_method_50_code 64 = .ok (.getfield 47, 3) := by decide +kernel
theorem d_Model_keep_67 : decode prog_10_method_50_code 67 = .ok (.iload_n 2, 1) := by decide +kernel
theorem d_Model_keep_68 : decode prog_10_method_50_code 68 = .ok (.iload_n 3, 1) := by decide +kernel
theorem d_Model_keep_69 : decode prog_10_method_50_code 69 = .ok (.iastore, 1) := by decide +kernel
theorem d_Model_keep_70 : decode prog_10_method_50_code 70 = .ok (.iinc 2 1, 3) := by decide +kernel
theorem d_Model_keep_73 : decode prog_10_method_50_code 73 = .ok (.iinc 3 1, 3) := by decide +kernel
theorem d_Model_keep_76 : decode prog_10_method_50_code 76 = .ok (.goto (-29), 3) := by decide +kernel
theorem d_Model_keep_79 : decode prog_10_method_50_code 79 = .ok (.iconst 0, 1) := by decide +kernel
theorem d_Model_keep_80 : decode prog_10_method_50_code 80 = .ok (.istore_n 3, 1) := by decide +kernel
theorem d_Model_keep_81 : decode prog_10_method_50_code 81 = .ok (.iload_n 3, 1) := by decide +kernel
theorem d_Model_keep_82 : decode prog_10_method_50_code 82 = .ok (.bipush 14, 2) := by decide +kernel
theorem d_Model_keep_84 : decode prog_10_method_50_code 84 = .ok (.if_icmp .ge 73, 3) := by decide +kernel
theorem d_Model_keep_87 : decode prog_10_method_50_code 87 = .ok (.iconst 0, 1) := by decide +kernel
theorem d_Model_keep_88 : decode prog_10_method_50_code 88 = .ok (.istore 4, 2) := by decide +kernel
theorem d_Model_keep_90 : decode prog_10_method_50_code 90 = .ok (.iload 4, 2) := by decide +kernel
theorem d_Model_keep_92 : decode prog_10_method_50_code 92 = .ok (.bipush 14, 2) := by decide +kernel
theorem d_Model_keep_94 : decode prog_10_method_50_code 94 = .ok (.if_icmp .ge 57, 3) := by decide +kernel
theorem d_Model_keep_97 : decode prog_10_method_50_code 97 = .ok (.aload_n 0, 1) := by decide +kernel
theorem d_Model_keep_98 : decode prog_10_method_50_code 98 = .ok (.getfield 13, 3) := by decide +kernel
theorem d_Model_keep_101 : decode prog_10_method_50_code 101 = .ok (.bipush 14, 2) := by decide +kernel
theorem d_Model_keep_103 : decode prog_10_method_50_code 103 = .ok (.iload_n 3, 1) := by decide +kernel
theorem d_Model_keep_104 : decode prog_10_method_50_code 104 = .ok (.imul, 1) := by decide +kernel
theorem d_Model_keep_105 : decode prog_10_method_50_code 105 = .ok (.iload 4, 2) := by decide +kernel
theorem d_Model_keep_107 : decode prog_10_method_50_code 107 = .ok (.iadd, 1) := by decide +kernel
theorem d_Model_keep_108 : decode prog_10_method_50_code 108 = .ok (.iload_n 3, 1) := by decide +kernel
theorem d_Model_keep_109 : decode prog_10_method_50_code 109 = .ok (.iload_n 2, 1) := by decide +kernel
theorem d_Model_keep_110 : decode prog_10_method_50_code 110 = .ok (.if_icmp .ge 33, 3) := by decide +kernel
theorem d_Model_keep_113 : decode prog_10_method_50_code 113 = .ok (.iload 4, 2) := by decide +kernel
theorem d_Model_keep_115 : decode prog_10_method_50_code 115 = .ok (.iload_n 2, 1) := by decide +kernel
theorem d_Model_keep_116 : decode prog_10_method_50_code 116 = .ok (.if_icmp .ge 27, 3) := by decide +kernel
theorem d_Model_keep_119 : decode prog_10_method_50_code 119 = .ok (.aload_n 0, 1) := by decide +kernel
theorem d_Model_keep_120 : decode prog_10_method_50_code 120 = .ok (.aload_n 0, 1) := by decide +kernel
theorem d_Model_keep_121 : decode prog_10_method_50_code 121 = .ok (.getfield 47, 3) := by decide +kernel
theorem d_Model_keep_124 : decode prog_10_method_50_code 124 = .ok (.iload_n 3, 1) := by decide +kernel
theorem d_Model_keep_125 : decode prog_10_method_50_code 125 = .ok (.iaload, 1) := by decide +kernel
theorem d_Model_keep_126 : decode prog_10_method_50_code 126 = .ok (.aload_n 0, 1) := by decide +kernel
theorem d_Model_keep_127 : decode prog_10_method_50_code 127 = .ok (.getfield 47, 3) := by decide +kernel
theorem d_Model_keep_130 : decode prog_10_method_50_code 130 = .ok (.iload 4, 2) := by decide +kernel
theorem d_Model_keep_132 : decode prog_10_method_50_code 132 = .ok (.iaload, 1) := by decide +kernel
theorem d_Model_keep_133 : decode prog_10_method_50_code 133 = .ok (.invokevirtual 77, 3) := by decide +kernel
theorem d_Model_keep_136 : decode prog_10_method_50_code 136 = .ok (.ifCond .eq 7, 3) := by decide +kernel
theorem d_Model_keep_139 : decode prog_10_method_50_code 139 = .ok (.iconst 1, 1) := by decide +kernel
theorem d_Model_keep_140 : decode prog_10_method_50_code 140 = .ok (.goto 4, 3) := by decide +kernel
theorem d_Model_keep_143 : decode prog_10_method_50_code 143 = .ok (.iconst 0, 1) := by decide +kernel
theorem d_Model_keep_144 : decode prog_10_method_50_code 144 = .ok (.bastore, 1) := by decide +kernel
theorem d_Model_keep_145 : decode prog_10_method_50_code 145 = .ok (.iinc 4 1, 3) := by decide +kernel
theorem d_Model_keep_148 : decode prog_10_method_50_code 148 = .ok (.goto (-58), 3) := by decide +kernel
theorem d_Model_keep_151 : decode prog_10_method_50_code 151 = .ok (.iinc 3 1, 3) := by decide +kernel
theorem d_Model_keep_154 : decode prog_10_method_50_code 154 = .ok (.goto (-73), 3) := by decide +kernel
theorem d_Model_keep_157 : decode prog_10_method_50_code 157 = .ok (.aload_n 0, 1) := by decide +kernel
theorem d_Model_keep_158 : decode prog_10_method_50_code 158 = .ok (.iload_n 2, 1) := by decide +kernel
theorem d_Model_keep_159 : decode prog_10_method_50_code 159 = .ok (.putfield 7, 3) := by decide +kernel
theorem d_Model_keep_162 : decode prog_10_method_50_code 162 = .ok (.aload_n 0, 1) := by decide +kernel
theorem d_Model_keep_163 : decode prog_10_method_50_code 163 = .ok (.invokevirtual 153, 3) := by decide +kernel
theorem d_Model_keep_166 : decode prog_10_method_50_code 166 = .ok (.istore_n 3, 1) := by decide +kernel
theorem d_Model_keep_167 : decode prog_10_method_50_code 167 = .ok (.iload_n 2, 1) := by decide +kernel
theorem d_Model_keep_168 : decode prog_10_method_50_code 168 = .ok (.ireturn, 1) := by decide +kernel
noncomputable def f_Model_keep (a0 : Int32) (M : oz_M) : Option (Int32 × oz_M) := (if (M.1 62 2) = 0 then (some 1) else (if 0 < a0 then (if a0 < (1 <<< ((M.1 62 1) &&& 31)) then (some 0) else (some 2)) else (some 2))).bind fun (z1 : Int32) => (some (oz_s M 62 0 z1)).bind fun M5 => if 0 < (M5.1 62 0) then (some (0, M5)) else ((oz_lp (fun (s6 : Int32 × Int32 × oz_M) => (if s6.2.1 < (s6.2.2.1 62 1) then ((f_Model_has a0 s6.2.1 s6.2.2).bind fun v7 => if v7 = 0 then (some (.inl (s6.1, s6.2.1 + 1, s6.2.2))) else ((oz_in s6.1 14).bind fun j8 => (some (oz_s s6.2.2 73 j8 s6.2.1)).bind fun M9 => some (.inl (s6.1 + 1, s6.2.1 + 1, M9)))) else (some (.inr (s6.1, s6.2.1, s6.2.2))) : Option ((Int32 × Int32 × oz_M) ⊕ (Int32 × Int32 × oz_M)))) (0, 0, M5)).bind fun (y12 : Int32 × Int32 × oz_M) => (oz_lp (fun (s13 : Int32 × oz_M) => (if s13.1 < 14 then ((oz_lp (fun (s14 : Int32 × oz_M) => (if s14.1 < 14 then (if s13.1 < y12.1 then (if s14.1 < y12.1 then ((oz_in s13.1 14).bind fun j19 => (oz_in s14.1 14).bind fun j20 => (f_Model_isLess (s14.2.1 73 j19) (s14.2.1 73 j20) s14.2).bind fun v21 => if v21 = 0 then ((oz_in ((14 * s13.1) + s14.1) 196).bind fun j22 => (some (oz_s s14.2 63 j22 (vp_nar .boolean 0))).bind fun M23 => some (.inl (s14.1 + 1, M23))) else ((oz_in ((14 * s13.1) + s14.1) 196).bind fun j24 => (some (oz_s s14.2 63 j24 (vp_nar .boolean 1))).bind fun M25 => some (.inl (s14.1 + 1, M25)))) else ((oz_in ((14 * s13.1) + s14.1) 196).bind fun j17 => (some (oz_s s14.2 63 j17 (vp_nar .boolean 0))).bind fun M18 => some (.inl (s14.1 + 1, M18)))) else ((oz_in ((14 * s13.1) + s14.1) 196).bind fun j15 => (some (oz_s s14.2 63 j15 (vp_nar .boolean 0))).bind fun M16 => some (.inl (s14.1 + 1, M16)))) else (some (.inr (s14.1, s14.2))) : Option ((Int32 × oz_M) ⊕ (Int32 × oz_M)))) (0, s13.2)).bind fun (y30 : Int32 × oz_M) => some (.inl (s13.1 + 1, y30.2))) else (some (.inr (s13.1, s13.2))) : Option ((Int32 × oz_M) ⊕ (Int32 × oz_M)))) (0, y12.2.2)).bind fun (y32 : Int32 × oz_M) => (some (oz_s y32.2 62 1 y12.1)).bind fun M33 => oz_b2 (f_Model_settle M33) fun v34 M35 => some (y12.1, M35))
set_option maxRecDepth 20000 in
set_option maxHeartbeats 4000000 in
theorem c_Model_keep {l : Launch} {D : va_G} {cs : Nat → ClassId} {b : Nat} {a0 : Int32} {M : oz_M} {vz : Int32} {Mz : oz_M} (hF : f_Model_keep a0 M = some (vz, Mz)) : oz_Met l D cs b y_Model_keep prog_10_method_50_code 5 (some .int) (oz_rm 5) [.ref (b + 62), .int a0] M (some (.int vz)) Mz := by
  refine oz_enter (by decide) (Nat.le_of_ble_eq_true rfl) (fun G cx hR e1 hRm e2 e3 e4 hnL => ?_)
  subst e1; subst e2; subst e3; subst e4
  refine (?_ : oz_R G 0 [(0, .ref (oz_b G + 62)), (1, .int a0)] [] M (f_Model_keep a0 M) (fun x => x = (vz, Mz))) _ hF rfl
  unfold f_Model_keep
  refine oz_aload_n (q := 1) cx d_Model_keep_0 rfl rfl 0 rfl ?_
  refine oz_aload_n (q := 2) cx d_Model_keep_1 rfl rfl 0 rfl ?_
  refine oz_get (q := 5) cx 62 2 (by decide) (ci := 8) rfl rfl tin_Model (by decide) rfl rfl tw_788 d_Model_keep_2 rfl ?_
  refine oz_seq (p2 := 31) (lv2 := fun (z1 : Int32) => [(0, .ref (oz_b G + 62)), (1, .int a0)]) (st2 := fun z1 => [.int z1, .ref (oz_b G + 62)]) (M2 := fun z1 => M) ?_ (fun z1 => ?_)
  · refine oz_if_ne (q := 8) cx d_Model_keep_5 rfl rfl (fun h4 => ?_) (fun h4 => ?_)
    · refine oz_iload_n (q := 13) cx d_Model_keep_12 rfl rfl 1 rfl ?_
      refine oz_if_le (q := 16) cx d_Model_keep_13 rfl rfl (fun h3 => ?_) (fun h3 => ?_)
      · refine oz_iconst (q := 27) cx d_Model_keep_26 rfl (v := 2) rfl ?_
        refine oz_goto cx d_Model_keep_27 rfl ?_
        exact oz_lv [0, 1] rfl (oz_leaf (fun h => h))
      · refine oz_iload_n (q := 17) cx d_Model_keep_16 rfl rfl 1 rfl ?_
        refine oz_iconst (q := 18) cx d_Model_keep_17 rfl (v := 1) rfl ?_
        refine oz_aload_n (q := 19) cx d_Model_keep_18 rfl rfl 0 rfl ?_
        refine oz_get (q := 22) cx 62 1 (by decide) (ci := 8) rfl rfl tin_Model (by decide) rfl rfl tw_787 d_Model_keep_19 rfl ?_
        refine oz_ishl (q := 23) cx d_Model_keep_22 rfl ?_
        refine oz_icmp_lt (q := 26) cx d_Model_keep_23 rfl rfl (fun h2 => ?_) (fun h2 => ?_)
        · refine oz_iconst (q := 31) cx d_Model_keep_30 rfl (v := 0) rfl ?_
          exact oz_lv [0, 1] rfl (oz_leaf (fun h => h))
        · refine oz_iconst (q := 27) cx d_Model_keep_26 rfl (v := 2) rfl ?_
          refine oz_goto cx d_Model_keep_27 rfl ?_
          exact oz_lv [0, 1] rfl (oz_leaf (fun h => h))
    · refine oz_iconst (q := 9) cx d_Model_keep_8 rfl (v := 1) rfl ?_
      refine oz_goto cx d_Model_keep_9 rfl ?_
      exact oz_lv [0, 1] rfl (oz_leaf (fun h => h))
  · refine oz_put (q := 34) cx 62 0 (by decide) (ci := 8) rfl rfl rfl tin_Model t_Model t_Model_ok n_Model (by decide) (Nat.le_of_ble_eq_true rfl) rfl tw_786 rfl rfl rfl d_Model_keep_31 rfl ?_
    refine oz_nm (fun M5 hM5 => ?_)
    refine oz_aload_n (q := 35) cx d_Model_keep_34 rfl rfl 0 rfl ?_
    refine oz_get (q := 38) cx 62 0 (by decide) (ci := 8) rfl rfl tin_Model (by decide) rfl rfl tw_786 d_Model_keep_35 rfl ?_
    refine oz_if_le (q := 41) cx d_Model_keep_38 rfl rfl (fun h36 => ?_) (fun h36 => ?_)
    · refine oz_iconst (q := 44) cx d_Model_keep_43 rfl (v := 0) rfl ?_
      refine oz_istore_n (q := 45) cx d_Model_keep_44 rfl rfl (by rw [hnL]; decide) (lv2 := [(2, .int 0), (0, .ref (oz_b G + 62)), (1, .int a0)]) rfl ?_
      refine oz_iconst (q := 46) cx d_Model_keep_45 rfl (v := 0) rfl ?_
      refine oz_istore_n (q := 47) cx d_Model_keep_46 rfl rfl (by rw [hnL]; decide) (lv2 := [(3, .int 0), (2, .int 0), (0, .ref (oz_b G + 62)), (1, .int a0)]) rfl ?_
      refine oz_lv [2, 3, 1, 0] rfl ?_
      refine oz_seq (p2 := 79) (lv2 := fun (y12 : Int32 × Int32 × oz_M) => [(0, .ref (oz_b G + 62)), (2, .int y12.1)]) (st2 := fun y12 => []) (M2 := fun y12 => y12.2.2) ?_ (fun y12 => ?_)
      · refine oz_loop (Y := Int32 × Int32 × oz_M) 47 (fun (s6 : Int32 × Int32 × oz_M) => [(0, .ref (oz_b G + 62)), (1, .int a0), (2, .int s6.1), (3, .int s6.2.1)]) (fun (s6 : Int32 × Int32 × oz_M) => s6.2.2) (0, 0, M5) (fun s6 => ?_)
        refine oz_iload_n (q := 48) cx d_Model_keep_47 rfl rfl 3 rfl ?_
        refine oz_aload_n (q := 49) cx d_Model_keep_48 rfl rfl 0 rfl ?_
        refine oz_get (q := 52) cx 62 1 (by decide) (ci := 8) rfl rfl tin_Model (by decide) rfl rfl tw_787 d_Model_keep_49 rfl ?_
        refine oz_icmp_ge (q := 55) cx d_Model_keep_52 rfl rfl (fun h11 => ?_) (fun h11 => ?_)
        · exact oz_lv [0, 2] rfl (oz_leaf (fun h => h))
        · refine oz_iload_n (q := 56) cx d_Model_keep_55 rfl rfl 1 rfl ?_
          refine oz_iload_n (q := 57) cx d_Model_keep_56 rfl rfl 3 rfl ?_
          refine oz_cSip (q := 60) cx [.int a0, .int s6.2.1] 2 hRm (by decide) (by decide) (fun _ h => c_Model_has h) ⟨tw_922, tw_923, tw_9⟩ tw_924 (by decide +kernel) rfl (st := []) rfl (Nat.le_of_ble_eq_true rfl) d_Model_keep_57 rfl (fun v7 hv7 => ?_)
          refine oz_if_eq (q := 63) cx d_Model_keep_60 rfl rfl (fun h10 => ?_) (fun h10 => ?_)
          · refine oz_iinc (q := 76) cx (s6.2.1 + 1) d_Model_keep_73 rfl 3 rfl rfl (by rw [hnL]; decide) (lv2 := [(3, .int (s6.2.1 + 1)), (0, .ref (oz_b G + 62)), (1, .int a0), (2, .int s6.1)]) rfl ?_
            refine oz_goto cx d_Model_keep_76 rfl ?_
            exact oz_lv [1, 2, 3, 0] rfl (oz_leaf (fun h => h))
          · refine oz_aload_n (q := 64) cx d_Model_keep_63 rfl rfl 0 rfl ?_
            refine oz_get (q := 67) cx 62 16 (by decide) (ci := 8) rfl rfl tin_Model (by decide) rfl rfl tw_802 d_Model_keep_64 rfl ?_
            refine oz_iload_n (q := 68) cx d_Model_keep_67 rfl rfl 2 rfl ?_
            refine oz_iload_n (q := 69) cx d_Model_keep_68 rfl rfl 3 rfl ?_
            refine oz_iast (q := 70) cx 73 14 (by decide) (fun _ => rfl) d_Model_keep_69 rfl (fun j8 hj8 => ?_)
            refine oz_nm (fun M9 hM9 => ?_)
            refine oz_iinc (q := 73) cx (s6.1 + 1) d_Model_keep_70 rfl 2 rfl rfl (by rw [hnL]; decide) (lv2 := [(2, .int (s6.1 + 1)), (0, .ref (oz_b G + 62)), (1, .int a0), (3, .int s6.2.1)]) rfl ?_
            refine oz_iinc (q := 76) cx (s6.2.1 + 1) d_Model_keep_73 rfl 3 rfl rfl (by rw [hnL]; decide) (lv2 := [(3, .int (s6.2.1 + 1)), (2, .int (s6.1 + 1)), (0, .ref (oz_b G + 62)), (1, .int a0)]) rfl ?_
            refine oz_goto cx d_Model_keep_76 rfl ?_
            exact oz_lv [2, 3, 1, 0] rfl (oz_leaf (fun h => h))
      · refine oz_iconst (q := 80) cx d_Model_keep_79 rfl (v := 0) rfl ?_
        refine oz_istore_n (q := 81) cx d_Model_keep_80 rfl rfl (by rw [hnL]; decide) (lv2 := [(3, .int 0), (0, .ref (oz_b G + 62)), (2, .int y12.1)]) rfl ?_
        refine oz_lv [1, 2, 0] rfl ?_
        refine oz_seq (p2 := 157) (lv2 := fun (y32 : Int32 × oz_M) => [(0, .ref (oz_b G + 62)), (2, .int y12.1)]) (st2 := fun y32 => []) (M2 := fun y32 => y32.2) ?_ (fun y32 => ?_)
        · refine oz_loop (Y := Int32 × oz_M) 81 (fun (s13 : Int32 × oz_M) => [(0, .ref (oz_b G + 62)), (2, .int y12.1), (3, .int s13.1)]) (fun (s13 : Int32 × oz_M) => s13.2) (0, y12.2.2) (fun s13 => ?_)
          refine oz_iload_n (q := 82) cx d_Model_keep_81 rfl rfl 2 rfl ?_
          refine oz_bipush (q := 84) cx d_Model_keep_82 rfl (v := 14) rfl ?_
          refine oz_icmp_ge (q := 87) cx d_Model_keep_84 rfl rfl (fun h31 => ?_) (fun h31 => ?_)
          · exact oz_lv [0, 1] rfl (oz_leaf (fun h => h))
          · refine oz_iconst (q := 88) cx d_Model_keep_87 rfl (v := 0) rfl ?_
            refine oz_istore (q := 90) cx d_Model_keep_88 rfl (by rw [hnL]; decide) (lv2 := [(4, .int 0), (0, .ref (oz_b G + 62)), (2, .int y12.1), (3, .int s13.1)]) rfl ?_
            refine oz_lv [1, 2, 3, 0] rfl ?_
            refine oz_seq (p2 := 151) (lv2 := fun (y30 : Int32 × oz_M) => [(0, .ref (oz_b G + 62)), (2, .int y12.1), (3, .int s13.1)]) (st2 := fun y30 => []) (M2 := fun y30 => y30.2) ?_ (fun y30 => ?_)
            · refine oz_loop (Y := Int32 × oz_M) 90 (fun (s14 : Int32 × oz_M) => [(0, .ref (oz_b G + 62)), (2, .int y12.1), (3, .int s13.1), (4, .int s14.1)]) (fun (s14 : Int32 × oz_M) => s14.2) (0, s13.2) (fun s14 => ?_)
              refine oz_iload (q := 92) cx d_Model_keep_90 rfl 3 rfl ?_
              refine oz_bipush (q := 94) cx d_Model_keep_92 rfl (v := 14) rfl ?_
              refine oz_icmp_ge (q := 97) cx d_Model_keep_94 rfl rfl (fun h29 => ?_) (fun h29 => ?_)
              · exact oz_lv [0, 1, 2] rfl (oz_leaf (fun h => h))
              · refine oz_aload_n (q := 98) cx d_Model_keep_97 rfl rfl 0 rfl ?_
                refine oz_get (q := 101) cx 62 3 (by decide) (ci := 8) rfl rfl tin_Model (by decide) rfl rfl tw_789 d_Model_keep_98 rfl ?_
                refine oz_bipush (q := 103) cx d_Model_keep_101 rfl (v := 14) rfl ?_
                refine oz_iload_n (q := 104) cx d_Model_keep_103 rfl rfl 2 rfl ?_
                refine oz_imul (q := 105) cx d_Model_keep_104 rfl ?_
                refine oz_iload (q := 107) cx d_Model_keep_105 rfl 3 rfl ?_
                refine oz_iadd (q := 108) cx d_Model_keep_107 rfl ?_
                refine oz_iload_n (q := 109) cx d_Model_keep_108 rfl rfl 2 rfl ?_
                refine oz_iload_n (q := 110) cx d_Model_keep_109 rfl rfl 1 rfl ?_
                refine oz_icmp_ge (q := 113) cx d_Model_keep_110 rfl rfl (fun h28 => ?_) (fun h28 => ?_)
                · refine oz_iconst (q := 144) cx d_Model_keep_143 rfl (v := 0) rfl ?_
                  refine oz_zast (q := 145) cx 63 196 (by decide) (fun _ => rfl) d_Model_keep_144 rfl (fun j15 hj15 => ?_)
                  refine oz_nm (fun M16 hM16 => ?_)
                  refine oz_iinc (q := 148) cx (s14.1 + 1) d_Model_keep_145 rfl 3 rfl rfl (by rw [hnL]; decide) (lv2 := [(4, .int (s14.1 + 1)), (0, .ref (oz_b G + 62)), (2, .int y12.1), (3, .int s13.1)]) rfl ?_
                  refine oz_goto cx d_Model_keep_148 rfl ?_
                  exact oz_lv [1, 2, 3, 0] rfl (oz_leaf (fun h => h))
                · refine oz_iload (q := 115) cx d_Model_keep_113 rfl 3 rfl ?_
                  refine oz_iload_n (q := 116) cx d_Model_keep_115 rfl rfl 1 rfl ?_
                  refine oz_icmp_ge (q := 119) cx d_Model_keep_116 rfl rfl (fun h27 => ?_) (fun h27 => ?_)
                  · refine oz_iconst (q := 144) cx d_Model_keep_143 rfl (v := 0) rfl ?_
                    refine oz_zast (q := 145) cx 63 196 (by decide) (fun _ => rfl) d_Model_keep_144 rfl (fun j17 hj17 => ?_)
                    refine oz_nm (fun M18 hM18 => ?_)
                    refine oz_iinc (q := 148) cx (s14.1 + 1) d_Model_keep_145 rfl 3 rfl rfl (by rw [hnL]; decide) (lv2 := [(4, .int (s14.1 + 1)), (0, .ref (oz_b G + 62)), (2, .int y12.1), (3, .int s13.1)]) rfl ?_
                    refine oz_goto cx d_Model_keep_148 rfl ?_
                    exact oz_lv [1, 2, 3, 0] rfl (oz_leaf (fun h => h))
                  · refine oz_aload_n (q := 120) cx d_Model_keep_119 rfl rfl 0 rfl ?_
                    refine oz_aload_n (q := 121) cx d_Model_keep_120 rfl rfl 0 rfl ?_
                    refine oz_get (q := 124) cx 62 16 (by decide) (ci := 8) rfl rfl tin_Model (by decide) rfl rfl tw_802 d_Model_keep_121 rfl ?_
                    refine oz_iload_n (q := 125) cx d_Model_keep_124 rfl rfl 2 rfl ?_
                    refine oz_iald (q := 126) cx 73 14 (by decide) rfl d_Model_keep_125 rfl (fun j19 hj19 => ?_)
                    refine oz_aload_n (q := 127) cx d_Model_keep_126 rfl rfl 0 rfl ?_
                    refine oz_get (q := 130) cx 62 16 (by decide) (ci := 8) rfl rfl tin_Model (by decide) rfl rfl tw_802 d_Model_keep_127 rfl ?_
                    refine oz_iload (q := 132) cx d_Model_keep_130 rfl 3 rfl ?_
                    refine oz_iald (q := 133) cx 73 14 (by decide) rfl d_Model_keep_132 rfl (fun j20 hj20 => ?_)
                    refine oz_cVip (q := 136) cx 62 [.int (s14.2.1 73 j19), .int (s14.2.1 73 j20)] 2 8 hRm (by decide) (by decide) (fun _ h => c_Model_isLess h) ⟨tw_871, tw_873, ts_33, tw_9⟩ tw_874 (by decide +kernel) rfl (by decide) rfl rfl (st := [.int ((14 * s13.1) + s14.1), .ref (oz_b G + 63)]) rfl (Nat.le_of_ble_eq_true rfl) d_Model_keep_133 rfl (fun v21 hv21 => ?_)
                    refine oz_if_eq (q := 139) cx d_Model_keep_136 rfl rfl (fun h26 => ?_) (fun h26 => ?_)
                    · refine oz_iconst (q := 144) cx d_Model_keep_143 rfl (v := 0) rfl ?_
                      refine oz_zast (q := 145) cx 63 196 (by decide) (fun _ => rfl) d_Model_keep_144 rfl (fun j22 hj22 => ?_)
                      refine oz_nm (fun M23 hM23 => ?_)
                      refine oz_iinc (q := 148) cx (s14.1 + 1) d_Model_keep_145 rfl 3 rfl rfl (by rw [hnL]; decide) (lv2 := [(4, .int (s14.1 + 1)), (0, .ref (oz_b G + 62)), (2, .int y12.1), (3, .int s13.1)]) rfl ?_
                      refine oz_goto cx d_Model_keep_148 rfl ?_
                      exact oz_lv [1, 2, 3, 0] rfl (oz_leaf (fun h => h))
                    · refine oz_iconst (q := 140) cx d_Model_keep_139 rfl (v := 1) rfl ?_
                      refine oz_goto cx d_Model_keep_140 rfl ?_
                      refine oz_zast (q := 145) cx 63 196 (by decide) (fun _ => rfl) d_Model_keep_144 rfl (fun j24 hj24 => ?_)
                      refine oz_nm (fun M25 hM25 => ?_)
                      refine oz_iinc (q := 148) cx (s14.1 + 1) d_Model_keep_145 rfl 3 rfl rfl (by rw [hnL]; decide) (lv2 := [(4, .int (s14.1 + 1)), (0, .ref (oz_b G + 62)), (2, .int y12.1), (3, .int s13.1)]) rfl ?_
                      refine oz_goto cx d_Model_keep_148 rfl ?_
                      exact oz_lv [1, 2, 3, 0] rfl (oz_leaf (fun h => h))
            · refine oz_iinc (q := 154) cx (s13.1 + 1) d_Model_keep_151 rfl 2 rfl rfl (by rw [hnL]; decide) (lv2 := [(3, .int (s13.1 + 1)), (0, .ref (oz_b G + 62)), (2, .int y12.1)]) rfl ?_
              refine oz_goto cx d_Model_keep_154 rfl ?_
              exact oz_lv [1, 2, 0] rfl (oz_leaf (fun h => h))
        · refine oz_aload_n (q := 158) cx d_Model_keep_157 rfl rfl 0 rfl ?_
          refine oz_iload_n (q := 159) cx d_Model_keep_158 rfl rfl 1 rfl ?_
          refine oz_put (q := 162) cx 62 1 (by decide) (ci := 8) rfl rfl rfl tin_Model t_Model t_Model_ok n_Model (by decide) (Nat.le_of_ble_eq_true rfl) rfl tw_787 rfl rfl rfl d_Model_keep_159 rfl ?_
          refine oz_nm (fun M33 hM33 => ?_)
          refine oz_aload_n (q := 163) cx d_Model_keep_162 rfl rfl 0 rfl ?_
          refine oz_cVi (q := 166) cx 62 [] 0 8 hRm (by decide) (by decide) (fun _ _ h => c_Model_settle h) ⟨tw_1030, tw_868, tw_869, tw_9⟩ tw_870 (by decide +kernel) rfl (by decide) rfl rfl (st := []) rfl (Nat.le_of_ble_eq_true rfl) d_Model_keep_163 rfl (fun v34 M35 hv34 => ?_)
          refine oz_istore_n (q := 167) cx d_Model_keep_166 rfl rfl (by rw [hnL]; decide) (lv2 := [(3, .int v34), (0, .ref (oz_b G + 62)), (2, .int y12.1)]) rfl ?_
          refine oz_iload_n (q := 168) cx d_Model_keep_167 rfl rfl 2 rfl ?_
          exact oz_iret cx hR d_Model_keep_168
    · refine oz_iconst (q := 42) cx d_Model_keep_41 rfl (v := 0) rfl ?_
      exact oz_iret cx hR d_Model_keep_42
def y_Model_most : MethodName := ⟨"OrderHallModel", "most", "(II)I"⟩
theorem d_Model_most_0 : decode prog_10_method_34_code 0 = .ok (.aload_n 0, 1) := by decide +kernel
theorem d_Model_most_1 : decode prog_10_method_34_code 1 = .ok (.iload_n 1, 1) := by decide +kernel
theorem d_Model_most_2 : decode prog_10_method_34_code 2 = .ok (.iload_n 2, 1) := by decide +kernel
theorem d_Model_most_3 : decode prog_10_method_34_code 3 = .ok (.invokevirtual 129, 3) := by decide +kernel
theorem d_Model_most_6 : decode prog_10_method_34_code 6 = .ok (.ifCond .eq 15, 3) := by decide +kernel
theorem d_Model_most_9 : decode prog_10_method_34_code 9 = .ok (.aload_n 0, 1) := by decide +kernel
theorem d_Model_most_10 : decode prog_10_method_34_code 10 = .ok (.iload_n 1, 1) := by decide +kernel
theorem d_Model_most_11 : decode prog_10_method_34_code 11 = .ok (.iload_n 2, 1) := by decide +kernel
theorem d_Model_most_12 : decode prog_10_method_34_code 12 = .ok (.invokevirtual 132, 3) := by decide +kernel
theorem d_Model_most_15 : decode prog_10_method_34_code 15 = .ok (.invokestatic 103, 3) := by decide +kernel
theorem d_Model_most_18 : decode prog_10_method_34_code 18 = .ok (.goto 4, 3) := by decide +kernel
theorem d_Model_most_21 : decode prog_10_method_34_code 21 = .ok (.iconst 0, 1) := by decide +kernel
theorem d_Model_most_22 : decode prog_10_method_34_code 22 = .ok (.ireturn, 1) := by decide +kernel
noncomputable def f_Model_most (a0 : Int32) (a1 : Int32) (M : oz_M) : Option (Int32 × oz_M) := oz_b2 (f_Model_asks a0 a1 M) fun v1 M2 => if v1 = 0 then (some (0, M2)) else (oz_b2 (f_Model_firstHeld a0 a1 M2) fun v3 M4 => (f_Model_sizeOf v3 M4).bind fun v5 => some (v5, M4))
set_option maxRecDepth 20000 in
set_option maxHeartbeats 4000000 in
theorem c_Model_most {l : Launch} {D : va_G} {cs : Nat → ClassId} {b : Nat} {a0 : Int32} {a1 : Int32} {M : oz_M} {vz : Int32} {Mz : oz_M} (hF : f_Model_most a0 a1 M = some (vz, Mz)) : oz_Met l D cs b y_Model_most prog_10_method_34_code 3 (some .int) (oz_rm 5) [.ref (b + 62), .int a0, .int a1] M (some (.int vz)) Mz := by
  refine oz_enter (by decide) (Nat.le_of_ble_eq_true rfl) (fun G cx hR e1 hRm e2 e3 e4 hnL => ?_)
  subst e1; subst e2; subst e3; subst e4
  refine (?_ : oz_R G 0 [(0, .ref (oz_b G + 62)), (1, .int a0), (2, .int a1)] [] M (f_Model_most a0 a1 M) (fun x => x = (vz, Mz))) _ hF rfl
  unfold f_Model_most
  refine oz_aload_n (q := 1) cx d_Model_most_0 rfl rfl 0 rfl ?_
  refine oz_iload_n (q := 2) cx d_Model_most_1 rfl rfl 1 rfl ?_
  refine oz_iload_n (q := 3) cx d_Model_most_2 rfl rfl 2 rfl ?_
  refine oz_cVi (q := 6) cx 62 [.int a0, .int a1] 2 8 hRm (by decide) (by decide) (fun _ _ h => c_Model_asks h) ⟨tw_957, tw_959, ts_46, tw_9⟩ tw_960 (by decide +kernel) rfl (by decide) rfl rfl (st := []) rfl (Nat.le_of_ble_eq_true rfl) d_Model_most_3 rfl (fun v1 M2 hv1 => ?_)
  refine oz_if_eq (q := 9) cx d_Model_most_6 rfl rfl (fun h6 => ?_) (fun h6 => ?_)
  · refine oz_iconst (q := 22) cx d_Model_most_21 rfl (v := 0) rfl ?_
    exact oz_iret cx hR d_Model_most_22
  · refine oz_aload_n (q := 10) cx d_Model_most_9 rfl rfl 0 rfl ?_
    refine oz_iload_n (q := 11) cx d_Model_most_10 rfl rfl 1 rfl ?_
    refine oz_iload_n (q := 12) cx d_Model_most_11 rfl rfl 2 rfl ?_
    refine oz_cVi (q := 15) cx 62 [.int a0, .int a1] 2 8 hRm (by decide) (by decide) (fun _ _ h => c_Model_firstHeld h) ⟨tw_961, tw_963, ts_47, tw_9⟩ tw_964 (by decide +kernel) rfl (by decide) rfl rfl (st := []) rfl (Nat.le_of_ble_eq_true rfl) d_Model_most_12 rfl (fun v3 M4 hv3 => ?_)
    refine oz_cSip (q := 18) cx [.int v3] 1 hRm (by decide) (by decide) (fun _ h => c_Model_sizeOf h) ⟨tw_919, tw_920, tw_9⟩ tw_921 (by decide +kernel) rfl (st := []) rfl (Nat.le_of_ble_eq_true rfl) d_Model_most_15 rfl (fun v5 hv5 => ?_)
    refine oz_goto cx d_Model_most_18 rfl ?_
    exact oz_iret cx hR d_Model_most_22
def y_Model_turn : MethodName := ⟨"OrderHallModel", "turn", "()V"⟩
theorem d_Model_turn_0 : decode prog_10_method_49_code 0 = .ok (.aload_n 0, 1) := by decide +kernel
theorem d_Model_turn_1 : decode prog_10_method_49_code 1 = .ok (.aload_n 0, 1) := by decide +kernel
theorem d_Model_turn_2 : decode prog_10_method_49_code 2 = .ok (.getfield 53, 3) := by decide +kernel
theorem d_Model_turn_5 : decode prog_10_method_49_code 5 = .ok (.ifCond .eq 7, 3) := by decide +kernel
theorem d_Model_turn_8 : decode prog_10_method_49_code 8 = .ok (.iconst 0, 1) := by decide +kernel
theorem d_Model_turn_9 : decode prog_10_method_49_code 9 = .ok (.goto 4, 3) := by decide +kernel
theorem d_Model_turn_12 : decode prog_10_method_49_code 12 = .ok (.iconst 1, 1) := by decide +kernel
theorem d_Model_turn_13 : decode prog_10_method_49_code 13 = .ok (.putfield 50, 3) := by decide +kernel
theorem d_Model_turn_16 : decode prog_10_method_49_code 16 = .ok (.aload_n 0, 1) := by decide +kernel
theorem d_Model_turn_17 : decode prog_10_method_49_code 17 = .ok (.getfield 50, 3) := by decide +kernel
theorem d_Model_turn_20 : decode prog_10_method_49_code 20 = .ok (.ifCond .le 4, 3) := by decide +kernel
theorem d_Model_turn_23 : decode prog_10_method_49_code 23 = .ok (.return_, 1) := by decide +kernel
theorem d_Model_turn_24 : decode prog_10_method_49_code 24 = .ok (.iconst 0, 1) := by decide +kernel
theorem d_Model_turn_25 : decode prog_10_method_49_code 25 = .ok (.istore_n 1, 1) := by decide +kernel
theorem d_Model_turn_26 : decode prog_10_method_49_code 26 = .ok (.iload_n 1, 1) := by decide +kernel
theorem d_Model_turn_27 : decode prog_10_method_49_code 27 = .ok (.aload_n 0, 1) := by decide +kernel
theorem d_Model_turn_28 : decode prog_10_method_49_code 28 = .ok (.getfield 7, 3) := by decide +kernel
theorem d_Model_turn_31 : decode prog_10_method_49_code 31 = .ok (.if_icmp .ge 58, 3) := by decide +kernel
theorem d_Model_turn_34 : decode prog_10_method_49_code 34 = .ok (.iconst 0, 1) := by decide +kernel
theorem d_Model_turn_35 : decode prog_10_method_49_code 35 = .ok (.istore_n 2, 1) := by decide +kernel
theorem d_Model_turn_36 : decode prog_10_method_49_code 36 = .ok (.iload_n 2, 1) := by decide +kernel
theorem d_Model_turn_37 : decode prog_10_method_49_code 37 = .ok (.iload_n 1, 1) := by decide +kernel
theorem d_Model_turn_38 : decode prog_10_method_49_code 38 = .ok (.if_icmp .ge 45, 3) := by decide +kernel
theorem d_Model_turn_41 : decode prog_10_method_49_code 41 = .ok (.aload_n 0, 1) := by decide +kernel
theorem d_Model_turn_42 : decode prog_10_method_49_code 42 = .ok (.iload_n 1, 1) := by decide +kernel
theorem d_Model_turn_43 : decode prog_10_method_49_code 43 = .ok (.iload_n 2, 1) := by decide +kernel
theorem d_Model_turn_44 : decode prog_10_method_49_code 44 = .ok (.invokevirtual 81, 3) := by decide +kernel
theorem d_Model_turn_47 : decode prog_10_method_49_code 47 = .ok (.istore_n 3, 1) := by decide +kernel
theorem d_Model_turn_48 : decode prog_10_method_49_code 48 = .ok (.aload_n 0, 1) := by decide +kernel
theorem d_Model_turn_49 : decode prog_10_method_49_code 49 = .ok (.getfield 13, 3) := by decide +kernel
theorem d_Model_turn_52 : decode prog_10_method_49_code 52 = .ok (.bipush 14, 2) := by decide +kernel
theorem d_Model_turn_54 : decode prog_10_method_49_code 54 = .ok (.iload_n 1, 1) := by decide +kernel
theorem d_Model_turn_55 : decode prog_10_method_49_code 55 = .ok (.imul, 1) := by decide +kernel
theorem d_Model_turn_56 : decode prog_10_method_49_code 56 = .ok (.iload_n 2, 1) := by decide +kernel
theorem d_Model_turn_57 : decode prog_10_method_49_code 57 = .ok (.iadd, 1) := by decide +kernel
theorem d_Model_turn_58 : decode prog_10_method_49_code 58 = .ok (.aload_n 0, 1) := by decide +kernel
theorem d_Model_turn_59 : decode prog_10_method_49_code 59 = .ok (.iload_n 2, 1) := by decide +kernel
theorem d_Model_turn_60 : decode prog_10_method_49_code 60 = .ok (.iload_n 1, 1) := by decide +kernel
theorem d_Model_turn_61 : decode prog_10_method_49_code 61 = .ok (.invokevirtual 81, 3) := by decide +kernel
theorem d_Model_turn_64 : decode prog_10_method_49_code 64 = .ok (.bastore, 1) := by decide +kernel
theorem d_Model_turn_65 : decode prog_10_method_49_code 65 = .ok (.aload_n 0, 1) := by decide +kernel
theorem d_Model_turn_66 : decode prog_10_method_49_code 66 = .ok (.getfield 13, 3) := by decide +kernel
theorem d_Model_turn_69 : decode prog_10_method_49_code 69 = .ok (.bipush 14, 2) := by decide +kernel
theorem d_Model_turn_71 : decode prog_10_method_49_code 71 = .ok (.iload_n 2, 1) := by decide +kernel
theorem d_Model_turn_72 : decode prog_10_method_49_code 72 = .ok (.imul, 1) := by decide +kernel
theorem d_Model_turn_73 : decode prog_10_method_49_code 73 = .ok (.iload_n 1, 1) := by decide +kernel
theorem d_Model_turn_74 : decode prog_10_method_49_code 74 = .ok (.iadd, 1) := by decide +kernel
theorem d_Model_turn_75 : decode prog_10_method_49_code 75 = .ok (.iload_n 3, 1) := by decide +kernel
theorem d_Model_turn_76 : decode prog_10_method_49_code 76 = .ok (.bastore, 1) := by decide +kernel
theorem d_Model_turn_77 : decode prog_10_method_49_code 77 = .ok (.iinc 2 1, 3) := by decide +kernel
theorem d_Model_turn_80 : decode prog_10_method_49_code 80 = .ok (.goto (-44), 3) := by decide +kernel
theorem d_Model_turn_83 : decode prog_10_method_49_code 83 = .ok (.iinc 1 1, 3) := by decide +kernel
theorem d_Model_turn_86 : decode prog_10_method_49_code 86 = .ok (.goto (-60), 3) := by decide +kernel
theorem d_Model_turn_89 : decode prog_10_method_49_code 89 = .ok (.aload_n 0, 1) := by decide +kernel
theorem d_Model_turn_90 : decode prog_10_method_49_code 90 = .ok (.invokevirtual 153, 3) := by decide +kernel
theorem d_Model_turn_93 : decode prog_10_method_49_code 93 = .ok (.istore_n 1, 1) := by decide +kernel
theorem d_Model_turn_94 : decode prog_10_method_49_code 94 = .ok (.return_, 1) := by decide +kernel
noncomputable def f_Model_turn (M : oz_M) : Option (Unit × oz_M) := (if (M.1 62 2) = 0 then (some 1) else (some 0)).bind fun (z1 : Int32) => (some (oz_s M 62 0 z1)).bind fun M3 => if 0 < (M3.1 62 0) then (some ((), M3)) else ((oz_lp (fun (s4 : Int32 × oz_M) => (if s4.1 < (s4.2.1 62 1) then ((oz_lp (fun (s5 : Int32 × oz_M) => (if s5.1 < s4.1 then ((f_Model_isArc s4.1 s5.1 s5.2).bind fun v6 => (f_Model_isArc s5.1 s4.1 s5.2).bind fun v7 => (oz_in ((14 * s4.1) + s5.1) 196).bind fun j8 => (some (oz_s s5.2 63 j8 (vp_nar .boolean v7))).bind fun M9 => (oz_in ((14 * s5.1) + s4.1) 196).bind fun j10 => (some (oz_s M9 63 j10 (vp_nar .boolean v6))).bind fun M11 => some (.inl (s5.1 + 1, M11))) else (some (.inr (s5.1, s5.2))) : Option ((Int32 × oz_M) ⊕ (Int32 × oz_M)))) (0, s4.2)).bind fun (y13 : Int32 × oz_M) => some (.inl (s4.1 + 1, y13.2))) else (some (.inr (s4.1, s4.2))) : Option ((Int32 × oz_M) ⊕ (Int32 × oz_M)))) (0, M3)).bind fun (y15 : Int32 × oz_M) => oz_b2 (f_Model_settle y15.2) fun v16 M17 => some ((), M17))
set_option maxRecDepth 20000 in
set_option maxHeartbeats 4000000 in
theorem c_Model_turn {l : Launch} {D : va_G} {cs : Nat → ClassId} {b : Nat} {M : oz_M} {vz : Unit} {Mz : oz_M} (hF : f_Model_turn M = some (vz, Mz)) : oz_Met l D cs b y_Model_turn prog_10_method_49_code 4 none (oz_rm 5) [.ref (b + 62)] M (none) Mz := by
  refine oz_enter (by decide) (Nat.le_of_ble_eq_true rfl) (fun G cx hR e1 hRm e2 e3 e4 hnL => ?_)
  subst e1; subst e2; subst e3; subst e4
  refine (?_ : oz_R G 0 [(0, .ref (oz_b G + 62))] [] M (f_Model_turn  M) (fun x => x = (vz, Mz))) _ hF rfl
  unfold f_Model_turn
  refine oz_aload_n (q := 1) cx d_Model_turn_0 rfl rfl 0 rfl ?_
  refine oz_aload_n (q := 2) cx d_Model_turn_1 rfl rfl 0 rfl ?_
  refine oz_get (q := 5) cx 62 2 (by decide) (ci := 8) rfl rfl tin_Model (by decide) rfl rfl tw_788 d_Model_turn_2 rfl ?_
  refine oz_seq (p2 := 13) (lv2 := fun (z1 : Int32) => [(0, .ref (oz_b G + 62))]) (st2 := fun z1 => [.int z1, .ref (oz_b G + 62)]) (M2 := fun z1 => M) ?_ (fun z1 => ?_)
  · refine oz_if_eq (q := 8) cx d_Model_turn_5 rfl rfl (fun h2 => ?_) (fun h2 => ?_)
    · refine oz_iconst (q := 13) cx d_Model_turn_12 rfl (v := 1) rfl ?_
      exact oz_lv [0] rfl (oz_leaf (fun h => h))
    · refine oz_iconst (q := 9) cx d_Model_turn_8 rfl (v := 0) rfl ?_
      refine oz_goto cx d_Model_turn_9 rfl ?_
      exact oz_lv [0] rfl (oz_leaf (fun h => h))
  · refine oz_put (q := 16) cx 62 0 (by decide) (ci := 8) rfl rfl rfl tin_Model t_Model t_Model_ok n_Model (by decide) (Nat.le_of_ble_eq_true rfl) rfl tw_786 rfl rfl rfl d_Model_turn_13 rfl ?_
    refine oz_nm (fun M3 hM3 => ?_)
    refine oz_aload_n (q := 17) cx d_Model_turn_16 rfl rfl 0 rfl ?_
    refine oz_get (q := 20) cx 62 0 (by decide) (ci := 8) rfl rfl tin_Model (by decide) rfl rfl tw_786 d_Model_turn_17 rfl ?_
    refine oz_if_le (q := 23) cx d_Model_turn_20 rfl rfl (fun h18 => ?_) (fun h18 => ?_)
    · refine oz_iconst (q := 25) cx d_Model_turn_24 rfl (v := 0) rfl ?_
      refine oz_istore_n (q := 26) cx d_Model_turn_25 rfl rfl (by rw [hnL]; decide) (lv2 := [(1, .int 0), (0, .ref (oz_b G + 62))]) rfl ?_
      refine oz_lv [1, 0] rfl ?_
      refine oz_seq (p2 := 89) (lv2 := fun (y15 : Int32 × oz_M) => [(0, .ref (oz_b G + 62))]) (st2 := fun y15 => []) (M2 := fun y15 => y15.2) ?_ (fun y15 => ?_)
      · refine oz_loop (Y := Int32 × oz_M) 26 (fun (s4 : Int32 × oz_M) => [(0, .ref (oz_b G + 62)), (1, .int s4.1)]) (fun (s4 : Int32 × oz_M) => s4.2) (0, M3) (fun s4 => ?_)
        refine oz_iload_n (q := 27) cx d_Model_turn_26 rfl rfl 1 rfl ?_
        refine oz_aload_n (q := 28) cx d_Model_turn_27 rfl rfl 0 rfl ?_
        refine oz_get (q := 31) cx 62 1 (by decide) (ci := 8) rfl rfl tin_Model (by decide) rfl rfl tw_787 d_Model_turn_28 rfl ?_
        refine oz_icmp_ge (q := 34) cx d_Model_turn_31 rfl rfl (fun h14 => ?_) (fun h14 => ?_)
        · exact oz_lv [0] rfl (oz_leaf (fun h => h))
        · refine oz_iconst (q := 35) cx d_Model_turn_34 rfl (v := 0) rfl ?_
          refine oz_istore_n (q := 36) cx d_Model_turn_35 rfl rfl (by rw [hnL]; decide) (lv2 := [(2, .int 0), (0, .ref (oz_b G + 62)), (1, .int s4.1)]) rfl ?_
          refine oz_lv [1, 2, 0] rfl ?_
          refine oz_seq (p2 := 83) (lv2 := fun (y13 : Int32 × oz_M) => [(0, .ref (oz_b G + 62)), (1, .int s4.1)]) (st2 := fun y13 => []) (M2 := fun y13 => y13.2) ?_ (fun y13 => ?_)
          · refine oz_loop (Y := Int32 × oz_M) 36 (fun (s5 : Int32 × oz_M) => [(0, .ref (oz_b G + 62)), (1, .int s4.1), (2, .int s5.1)]) (fun (s5 : Int32 × oz_M) => s5.2) (0, s4.2) (fun s5 => ?_)
            refine oz_iload_n (q := 37) cx d_Model_turn_36 rfl rfl 2 rfl ?_
            refine oz_iload_n (q := 38) cx d_Model_turn_37 rfl rfl 1 rfl ?_
            refine oz_icmp_ge (q := 41) cx d_Model_turn_38 rfl rfl (fun h12 => ?_) (fun h12 => ?_)
            · exact oz_lv [0, 1] rfl (oz_leaf (fun h => h))
            · refine oz_aload_n (q := 42) cx d_Model_turn_41 rfl rfl 0 rfl ?_
              refine oz_iload_n (q := 43) cx d_Model_turn_42 rfl rfl 1 rfl ?_
              refine oz_iload_n (q := 44) cx d_Model_turn_43 rfl rfl 2 rfl ?_
              refine oz_cVip (q := 47) cx 62 [.int s4.1, .int s5.1] 2 8 hRm (by decide) (by decide) (fun _ h => c_Model_isArc h) ⟨tw_883, tw_885, ts_36, tw_9⟩ tw_886 (by decide +kernel) rfl (by decide) rfl rfl (st := []) rfl (Nat.le_of_ble_eq_true rfl) d_Model_turn_44 rfl (fun v6 hv6 => ?_)
              refine oz_istore_n (q := 48) cx d_Model_turn_47 rfl rfl (by rw [hnL]; decide) (lv2 := [(3, .int v6), (0, .ref (oz_b G + 62)), (1, .int s4.1), (2, .int s5.1)]) rfl ?_
              refine oz_aload_n (q := 49) cx d_Model_turn_48 rfl rfl 1 rfl ?_
              refine oz_get (q := 52) cx 62 3 (by decide) (ci := 8) rfl rfl tin_Model (by decide) rfl rfl tw_789 d_Model_turn_49 rfl ?_
              refine oz_bipush (q := 54) cx d_Model_turn_52 rfl (v := 14) rfl ?_
              refine oz_iload_n (q := 55) cx d_Model_turn_54 rfl rfl 2 rfl ?_
              refine oz_imul (q := 56) cx d_Model_turn_55 rfl ?_
              refine oz_iload_n (q := 57) cx d_Model_turn_56 rfl rfl 3 rfl ?_
              refine oz_iadd (q := 58) cx d_Model_turn_57 rfl ?_
              refine oz_aload_n (q := 59) cx d_Model_turn_58 rfl rfl 1 rfl ?_
              refine oz_iload_n (q := 60) cx d_Model_turn_59 rfl rfl 3 rfl ?_
              refine oz_iload_n (q := 61) cx d_Model_turn_60 rfl rfl 2 rfl ?_
              refine oz_cVip (q := 64) cx 62 [.int s5.1, .int s4.1] 2 8 hRm (by decide) (by decide) (fun _ h => c_Model_isArc h) ⟨tw_883, tw_885, ts_36, tw_9⟩ tw_886 (by decide +kernel) rfl (by decide) rfl rfl (st := [.int ((14 * s4.1) + s5.1), .ref (oz_b G + 63)]) rfl (Nat.le_of_ble_eq_true rfl) d_Model_turn_61 rfl (fun v7 hv7 => ?_)
              refine oz_zast (q := 65) cx 63 196 (by decide) (fun _ => rfl) d_Model_turn_64 rfl (fun j8 hj8 => ?_)
              refine oz_nm (fun M9 hM9 => ?_)
              refine oz_aload_n (q := 66) cx d_Model_turn_65 rfl rfl 1 rfl ?_
              refine oz_get (q := 69) cx 62 3 (by decide) (ci := 8) rfl rfl tin_Model (by decide) rfl rfl tw_789 d_Model_turn_66 rfl ?_
              refine oz_bipush (q := 71) cx d_Model_turn_69 rfl (v := 14) rfl ?_
              refine oz_iload_n (q := 72) cx d_Model_turn_71 rfl rfl 3 rfl ?_
              refine oz_imul (q := 73) cx d_Model_turn_72 rfl ?_
              refine oz_iload_n (q := 74) cx d_Model_turn_73 rfl rfl 2 rfl ?_
              refine oz_iadd (q := 75) cx d_Model_turn_74 rfl ?_
              refine oz_iload_n (q := 76) cx d_Model_turn_75 rfl rfl 0 rfl ?_
              refine oz_zast (q := 77) cx 63 196 (by decide) (fun _ => rfl) d_Model_turn_76 rfl (fun j10 hj10 => ?_)
              refine oz_nm (fun M11 hM11 => ?_)
              refine oz_iinc (q := 80) cx (s5.1 + 1) d_Model_turn_77 rfl 3 rfl rfl (by rw [hnL]; decide) (lv2 := [(2, .int (s5.1 + 1)), (3, .int v6), (0, .ref (oz_b G + 62)), (1, .int s4.1)]) rfl ?_
              refine oz_goto cx d_Model_turn_80 rfl ?_
              exact oz_lv [2, 3, 0] rfl (oz_leaf (fun h => h))
          · refine oz_iinc (q := 86) cx (s4.1 + 1) d_Model_turn_83 rfl 1 rfl rfl (by rw [hnL]; decide) (lv2 := [(1, .int (s4.1 + 1)), (0, .ref (oz_b G + 62))]) rfl ?_
            refine oz_goto cx d_Model_turn_86 rfl ?_
            exact oz_lv [1, 0] rfl (oz_leaf (fun h => h))
      · refine oz_aload_n (q := 90) cx d_Model_turn_89 rfl rfl 0 rfl ?_
        refine oz_cVi (q := 93) cx 62 [] 0 8 hRm (by decide) (by decide) (fun _ _ h => c_Model_settle h) ⟨tw_1030, tw_868, tw_869, tw_9⟩ tw_870 (by decide +kernel) rfl (by decide) rfl rfl (st := []) rfl (Nat.le_of_ble_eq_true rfl) d_Model_turn_90 rfl (fun v16 M17 hv16 => ?_)
        refine oz_istore_n (q := 94) cx d_Model_turn_93 rfl rfl (by rw [hnL]; decide) (lv2 := [(1, .int v16), (0, .ref (oz_b G + 62))]) rfl ?_
        exact oz_vret cx hR d_Model_turn_94
    · exact oz_vret cx hR d_Model_turn_23
