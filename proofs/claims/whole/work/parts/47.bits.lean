/-! bitCount of a set of at most 14 elements. -/
def bcv (a0 : Int32) : Int32 :=
  let x1 := a0 - (((Int32.toUInt32 a0 >>> (Int32.toUInt32 1 &&& Int32.toUInt32 31)).toInt32) &&& 1431655765)
  let x2 := (x1 &&& 858993459) + (((Int32.toUInt32 x1 >>> (Int32.toUInt32 2 &&& Int32.toUInt32 31)).toInt32) &&& 858993459)
  let x3 := (x2 + ((Int32.toUInt32 x2 >>> (Int32.toUInt32 4 &&& Int32.toUInt32 31)).toInt32)) &&& 252645135
  let x4 := x3 + ((Int32.toUInt32 x3 >>> (Int32.toUInt32 8 &&& Int32.toUInt32 31)).toInt32)
  let x5 := x4 + ((Int32.toUInt32 x4 >>> (Int32.toUInt32 16 &&& Int32.toUInt32 31)).toInt32)
  x5 &&& 63
theorem s_bitCount (x : Int32) (M : oz_M) : f_Integer_bitCount x M = some (bcv x) := rfl
theorem bcv_0 : ∀ l, l < 128 → bcv (nI (0 + l)) = nI (cnt (fun i => (0 + l).testBit i) 14) := by decide +kernel
theorem bcv_1 : ∀ l, l < 128 → bcv (nI (128 + l)) = nI (cnt (fun i => (128 + l).testBit i) 14) := by decide +kernel
theorem bcv_2 : ∀ l, l < 128 → bcv (nI (256 + l)) = nI (cnt (fun i => (256 + l).testBit i) 14) := by decide +kernel
theorem bcv_3 : ∀ l, l < 128 → bcv (nI (384 + l)) = nI (cnt (fun i => (384 + l).testBit i) 14) := by decide +kernel
theorem bcv_4 : ∀ l, l < 128 → bcv (nI (512 + l)) = nI (cnt (fun i => (512 + l).testBit i) 14) := by decide +kernel
theorem bcv_5 : ∀ l, l < 128 → bcv (nI (640 + l)) = nI (cnt (fun i => (640 + l).testBit i) 14) := by decide +kernel
theorem bcv_6 : ∀ l, l < 128 → bcv (nI (768 + l)) = nI (cnt (fun i => (768 + l).testBit i) 14) := by decide +kernel
theorem bcv_7 : ∀ l, l < 128 → bcv (nI (896 + l)) = nI (cnt (fun i => (896 + l).testBit i) 14) := by decide +kernel
theorem bcv_8 : ∀ l, l < 128 → bcv (nI (1024 + l)) = nI (cnt (fun i => (1024 + l).testBit i) 14) := by decide +kernel
theorem bcv_9 : ∀ l, l < 128 → bcv (nI (1152 + l)) = nI (cnt (fun i => (1152 + l).testBit i) 14) := by decide +kernel
theorem bcv_10 : ∀ l, l < 128 → bcv (nI (1280 + l)) = nI (cnt (fun i => (1280 + l).testBit i) 14) := by decide +kernel
theorem bcv_11 : ∀ l, l < 128 → bcv (nI (1408 + l)) = nI (cnt (fun i => (1408 + l).testBit i) 14) := by decide +kernel
theorem bcv_12 : ∀ l, l < 128 → bcv (nI (1536 + l)) = nI (cnt (fun i => (1536 + l).testBit i) 14) := by decide +kernel
theorem bcv_13 : ∀ l, l < 128 → bcv (nI (1664 + l)) = nI (cnt (fun i => (1664 + l).testBit i) 14) := by decide +kernel
theorem bcv_14 : ∀ l, l < 128 → bcv (nI (1792 + l)) = nI (cnt (fun i => (1792 + l).testBit i) 14) := by decide +kernel
theorem bcv_15 : ∀ l, l < 128 → bcv (nI (1920 + l)) = nI (cnt (fun i => (1920 + l).testBit i) 14) := by decide +kernel
theorem bcv_16 : ∀ l, l < 128 → bcv (nI (2048 + l)) = nI (cnt (fun i => (2048 + l).testBit i) 14) := by decide +kernel
theorem bcv_17 : ∀ l, l < 128 → bcv (nI (2176 + l)) = nI (cnt (fun i => (2176 + l).testBit i) 14) := by decide +kernel
theorem bcv_18 : ∀ l, l < 128 → bcv (nI (2304 + l)) = nI (cnt (fun i => (2304 + l).testBit i) 14) := by decide +kernel
theorem bcv_19 : ∀ l, l < 128 → bcv (nI (2432 + l)) = nI (cnt (fun i => (2432 + l).testBit i) 14) := by decide +kernel
theorem bcv_20 : ∀ l, l < 128 → bcv (nI (2560 + l)) = nI (cnt (fun i => (2560 + l).testBit i) 14) := by decide +kernel
theorem bcv_21 : ∀ l, l < 128 → bcv (nI (2688 + l)) = nI (cnt (fun i => (2688 + l).testBit i) 14) := by decide +kernel
theorem bcv_22 : ∀ l, l < 128 → bcv (nI (2816 + l)) = nI (cnt (fun i => (2816 + l).testBit i) 14) := by decide +kernel
theorem bcv_23 : ∀ l, l < 128 → bcv (nI (2944 + l)) = nI (cnt (fun i => (2944 + l).testBit i) 14) := by decide +kernel
theorem bcv_24 : ∀ l, l < 128 → bcv (nI (3072 + l)) = nI (cnt (fun i => (3072 + l).testBit i) 14) := by decide +kernel
theorem bcv_25 : ∀ l, l < 128 → bcv (nI (3200 + l)) = nI (cnt (fun i => (3200 + l).testBit i) 14) := by decide +kernel
theorem bcv_26 : ∀ l, l < 128 → bcv (nI (3328 + l)) = nI (cnt (fun i => (3328 + l).testBit i) 14) := by decide +kernel
theorem bcv_27 : ∀ l, l < 128 → bcv (nI (3456 + l)) = nI (cnt (fun i => (3456 + l).testBit i) 14) := by decide +kernel
theorem bcv_28 : ∀ l, l < 128 → bcv (nI (3584 + l)) = nI (cnt (fun i => (3584 + l).testBit i) 14) := by decide +kernel
theorem bcv_29 : ∀ l, l < 128 → bcv (nI (3712 + l)) = nI (cnt (fun i => (3712 + l).testBit i) 14) := by decide +kernel
theorem bcv_30 : ∀ l, l < 128 → bcv (nI (3840 + l)) = nI (cnt (fun i => (3840 + l).testBit i) 14) := by decide +kernel
theorem bcv_31 : ∀ l, l < 128 → bcv (nI (3968 + l)) = nI (cnt (fun i => (3968 + l).testBit i) 14) := by decide +kernel
theorem bcv_32 : ∀ l, l < 128 → bcv (nI (4096 + l)) = nI (cnt (fun i => (4096 + l).testBit i) 14) := by decide +kernel
theorem bcv_33 : ∀ l, l < 128 → bcv (nI (4224 + l)) = nI (cnt (fun i => (4224 + l).testBit i) 14) := by decide +kernel
theorem bcv_34 : ∀ l, l < 128 → bcv (nI (4352 + l)) = nI (cnt (fun i => (4352 + l).testBit i) 14) := by decide +kernel
theorem bcv_35 : ∀ l, l < 128 → bcv (nI (4480 + l)) = nI (cnt (fun i => (4480 + l).testBit i) 14) := by decide +kernel
theorem bcv_36 : ∀ l, l < 128 → bcv (nI (4608 + l)) = nI (cnt (fun i => (4608 + l).testBit i) 14) := by decide +kernel
theorem bcv_37 : ∀ l, l < 128 → bcv (nI (4736 + l)) = nI (cnt (fun i => (4736 + l).testBit i) 14) := by decide +kernel
theorem bcv_38 : ∀ l, l < 128 → bcv (nI (4864 + l)) = nI (cnt (fun i => (4864 + l).testBit i) 14) := by decide +kernel
theorem bcv_39 : ∀ l, l < 128 → bcv (nI (4992 + l)) = nI (cnt (fun i => (4992 + l).testBit i) 14) := by decide +kernel
theorem bcv_40 : ∀ l, l < 128 → bcv (nI (5120 + l)) = nI (cnt (fun i => (5120 + l).testBit i) 14) := by decide +kernel
theorem bcv_41 : ∀ l, l < 128 → bcv (nI (5248 + l)) = nI (cnt (fun i => (5248 + l).testBit i) 14) := by decide +kernel
theorem bcv_42 : ∀ l, l < 128 → bcv (nI (5376 + l)) = nI (cnt (fun i => (5376 + l).testBit i) 14) := by decide +kernel
theorem bcv_43 : ∀ l, l < 128 → bcv (nI (5504 + l)) = nI (cnt (fun i => (5504 + l).testBit i) 14) := by decide +kernel
theorem bcv_44 : ∀ l, l < 128 → bcv (nI (5632 + l)) = nI (cnt (fun i => (5632 + l).testBit i) 14) := by decide +kernel
theorem bcv_45 : ∀ l, l < 128 → bcv (nI (5760 + l)) = nI (cnt (fun i => (5760 + l).testBit i) 14) := by decide +kernel
theorem bcv_46 : ∀ l, l < 128 → bcv (nI (5888 + l)) = nI (cnt (fun i => (5888 + l).testBit i) 14) := by decide +kernel
theorem bcv_47 : ∀ l, l < 128 → bcv (nI (6016 + l)) = nI (cnt (fun i => (6016 + l).testBit i) 14) := by decide +kernel
theorem bcv_48 : ∀ l, l < 128 → bcv (nI (6144 + l)) = nI (cnt (fun i => (6144 + l).testBit i) 14) := by decide +kernel
theorem bcv_49 : ∀ l, l < 128 → bcv (nI (6272 + l)) = nI (cnt (fun i => (6272 + l).testBit i) 14) := by decide +kernel
theorem bcv_50 : ∀ l, l < 128 → bcv (nI (6400 + l)) = nI (cnt (fun i => (6400 + l).testBit i) 14) := by decide +kernel
theorem bcv_51 : ∀ l, l < 128 → bcv (nI (6528 + l)) = nI (cnt (fun i => (6528 + l).testBit i) 14) := by decide +kernel
theorem bcv_52 : ∀ l, l < 128 → bcv (nI (6656 + l)) = nI (cnt (fun i => (6656 + l).testBit i) 14) := by decide +kernel
theorem bcv_53 : ∀ l, l < 128 → bcv (nI (6784 + l)) = nI (cnt (fun i => (6784 + l).testBit i) 14) := by decide +kernel
theorem bcv_54 : ∀ l, l < 128 → bcv (nI (6912 + l)) = nI (cnt (fun i => (6912 + l).testBit i) 14) := by decide +kernel
theorem bcv_55 : ∀ l, l < 128 → bcv (nI (7040 + l)) = nI (cnt (fun i => (7040 + l).testBit i) 14) := by decide +kernel
theorem bcv_56 : ∀ l, l < 128 → bcv (nI (7168 + l)) = nI (cnt (fun i => (7168 + l).testBit i) 14) := by decide +kernel
theorem bcv_57 : ∀ l, l < 128 → bcv (nI (7296 + l)) = nI (cnt (fun i => (7296 + l).testBit i) 14) := by decide +kernel
theorem bcv_58 : ∀ l, l < 128 → bcv (nI (7424 + l)) = nI (cnt (fun i => (7424 + l).testBit i) 14) := by decide +kernel
theorem bcv_59 : ∀ l, l < 128 → bcv (nI (7552 + l)) = nI (cnt (fun i => (7552 + l).testBit i) 14) := by decide +kernel
theorem bcv_60 : ∀ l, l < 128 → bcv (nI (7680 + l)) = nI (cnt (fun i => (7680 + l).testBit i) 14) := by decide +kernel
theorem bcv_61 : ∀ l, l < 128 → bcv (nI (7808 + l)) = nI (cnt (fun i => (7808 + l).testBit i) 14) := by decide +kernel
theorem bcv_62 : ∀ l, l < 128 → bcv (nI (7936 + l)) = nI (cnt (fun i => (7936 + l).testBit i) 14) := by decide +kernel
theorem bcv_63 : ∀ l, l < 128 → bcv (nI (8064 + l)) = nI (cnt (fun i => (8064 + l).testBit i) 14) := by decide +kernel
theorem bcv_64 : ∀ l, l < 128 → bcv (nI (8192 + l)) = nI (cnt (fun i => (8192 + l).testBit i) 14) := by decide +kernel
theorem bcv_65 : ∀ l, l < 128 → bcv (nI (8320 + l)) = nI (cnt (fun i => (8320 + l).testBit i) 14) := by decide +kernel
theorem bcv_66 : ∀ l, l < 128 → bcv (nI (8448 + l)) = nI (cnt (fun i => (8448 + l).testBit i) 14) := by decide +kernel
theorem bcv_67 : ∀ l, l < 128 → bcv (nI (8576 + l)) = nI (cnt (fun i => (8576 + l).testBit i) 14) := by decide +kernel
theorem bcv_68 : ∀ l, l < 128 → bcv (nI (8704 + l)) = nI (cnt (fun i => (8704 + l).testBit i) 14) := by decide +kernel
theorem bcv_69 : ∀ l, l < 128 → bcv (nI (8832 + l)) = nI (cnt (fun i => (8832 + l).testBit i) 14) := by decide +kernel
theorem bcv_70 : ∀ l, l < 128 → bcv (nI (8960 + l)) = nI (cnt (fun i => (8960 + l).testBit i) 14) := by decide +kernel
theorem bcv_71 : ∀ l, l < 128 → bcv (nI (9088 + l)) = nI (cnt (fun i => (9088 + l).testBit i) 14) := by decide +kernel
theorem bcv_72 : ∀ l, l < 128 → bcv (nI (9216 + l)) = nI (cnt (fun i => (9216 + l).testBit i) 14) := by decide +kernel
theorem bcv_73 : ∀ l, l < 128 → bcv (nI (9344 + l)) = nI (cnt (fun i => (9344 + l).testBit i) 14) := by decide +kernel
theorem bcv_74 : ∀ l, l < 128 → bcv (nI (9472 + l)) = nI (cnt (fun i => (9472 + l).testBit i) 14) := by decide +kernel
theorem bcv_75 : ∀ l, l < 128 → bcv (nI (9600 + l)) = nI (cnt (fun i => (9600 + l).testBit i) 14) := by decide +kernel
theorem bcv_76 : ∀ l, l < 128 → bcv (nI (9728 + l)) = nI (cnt (fun i => (9728 + l).testBit i) 14) := by decide +kernel
theorem bcv_77 : ∀ l, l < 128 → bcv (nI (9856 + l)) = nI (cnt (fun i => (9856 + l).testBit i) 14) := by decide +kernel
theorem bcv_78 : ∀ l, l < 128 → bcv (nI (9984 + l)) = nI (cnt (fun i => (9984 + l).testBit i) 14) := by decide +kernel
theorem bcv_79 : ∀ l, l < 128 → bcv (nI (10112 + l)) = nI (cnt (fun i => (10112 + l).testBit i) 14) := by decide +kernel
theorem bcv_80 : ∀ l, l < 128 → bcv (nI (10240 + l)) = nI (cnt (fun i => (10240 + l).testBit i) 14) := by decide +kernel
theorem bcv_81 : ∀ l, l < 128 → bcv (nI (10368 + l)) = nI (cnt (fun i => (10368 + l).testBit i) 14) := by decide +kernel
theorem bcv_82 : ∀ l, l < 128 → bcv (nI (10496 + l)) = nI (cnt (fun i => (10496 + l).testBit i) 14) := by decide +kernel
theorem bcv_83 : ∀ l, l < 128 → bcv (nI (10624 + l)) = nI (cnt (fun i => (10624 + l).testBit i) 14) := by decide +kernel
theorem bcv_84 : ∀ l, l < 128 → bcv (nI (10752 + l)) = nI (cnt (fun i => (10752 + l).testBit i) 14) := by decide +kernel
theorem bcv_85 : ∀ l, l < 128 → bcv (nI (10880 + l)) = nI (cnt (fun i => (10880 + l).testBit i) 14) := by decide +kernel
theorem bcv_86 : ∀ l, l < 128 → bcv (nI (11008 + l)) = nI (cnt (fun i => (11008 + l).testBit i) 14) := by decide +kernel
theorem bcv_87 : ∀ l, l < 128 → bcv (nI (11136 + l)) = nI (cnt (fun i => (11136 + l).testBit i) 14) := by decide +kernel
theorem bcv_88 : ∀ l, l < 128 → bcv (nI (11264 + l)) = nI (cnt (fun i => (11264 + l).testBit i) 14) := by decide +kernel
theorem bcv_89 : ∀ l, l < 128 → bcv (nI (11392 + l)) = nI (cnt (fun i => (11392 + l).testBit i) 14) := by decide +kernel
theorem bcv_90 : ∀ l, l < 128 → bcv (nI (11520 + l)) = nI (cnt (fun i => (11520 + l).testBit i) 14) := by decide +kernel
theorem bcv_91 : ∀ l, l < 128 → bcv (nI (11648 + l)) = nI (cnt (fun i => (11648 + l).testBit i) 14) := by decide +kernel
theorem bcv_92 : ∀ l, l < 128 → bcv (nI (11776 + l)) = nI (cnt (fun i => (11776 + l).testBit i) 14) := by decide +kernel
theorem bcv_93 : ∀ l, l < 128 → bcv (nI (11904 + l)) = nI (cnt (fun i => (11904 + l).testBit i) 14) := by decide +kernel
theorem bcv_94 : ∀ l, l < 128 → bcv (nI (12032 + l)) = nI (cnt (fun i => (12032 + l).testBit i) 14) := by decide +kernel
theorem bcv_95 : ∀ l, l < 128 → bcv (nI (12160 + l)) = nI (cnt (fun i => (12160 + l).testBit i) 14) := by decide +kernel
theorem bcv_96 : ∀ l, l < 128 → bcv (nI (12288 + l)) = nI (cnt (fun i => (12288 + l).testBit i) 14) := by decide +kernel
theorem bcv_97 : ∀ l, l < 128 → bcv (nI (12416 + l)) = nI (cnt (fun i => (12416 + l).testBit i) 14) := by decide +kernel
theorem bcv_98 : ∀ l, l < 128 → bcv (nI (12544 + l)) = nI (cnt (fun i => (12544 + l).testBit i) 14) := by decide +kernel
theorem bcv_99 : ∀ l, l < 128 → bcv (nI (12672 + l)) = nI (cnt (fun i => (12672 + l).testBit i) 14) := by decide +kernel
theorem bcv_100 : ∀ l, l < 128 → bcv (nI (12800 + l)) = nI (cnt (fun i => (12800 + l).testBit i) 14) := by decide +kernel
theorem bcv_101 : ∀ l, l < 128 → bcv (nI (12928 + l)) = nI (cnt (fun i => (12928 + l).testBit i) 14) := by decide +kernel
theorem bcv_102 : ∀ l, l < 128 → bcv (nI (13056 + l)) = nI (cnt (fun i => (13056 + l).testBit i) 14) := by decide +kernel
theorem bcv_103 : ∀ l, l < 128 → bcv (nI (13184 + l)) = nI (cnt (fun i => (13184 + l).testBit i) 14) := by decide +kernel
theorem bcv_104 : ∀ l, l < 128 → bcv (nI (13312 + l)) = nI (cnt (fun i => (13312 + l).testBit i) 14) := by decide +kernel
theorem bcv_105 : ∀ l, l < 128 → bcv (nI (13440 + l)) = nI (cnt (fun i => (13440 + l).testBit i) 14) := by decide +kernel
theorem bcv_106 : ∀ l, l < 128 → bcv (nI (13568 + l)) = nI (cnt (fun i => (13568 + l).testBit i) 14) := by decide +kernel
theorem bcv_107 : ∀ l, l < 128 → bcv (nI (13696 + l)) = nI (cnt (fun i => (13696 + l).testBit i) 14) := by decide +kernel
theorem bcv_108 : ∀ l, l < 128 → bcv (nI (13824 + l)) = nI (cnt (fun i => (13824 + l).testBit i) 14) := by decide +kernel
theorem bcv_109 : ∀ l, l < 128 → bcv (nI (13952 + l)) = nI (cnt (fun i => (13952 + l).testBit i) 14) := by decide +kernel
theorem bcv_110 : ∀ l, l < 128 → bcv (nI (14080 + l)) = nI (cnt (fun i => (14080 + l).testBit i) 14) := by decide +kernel
theorem bcv_111 : ∀ l, l < 128 → bcv (nI (14208 + l)) = nI (cnt (fun i => (14208 + l).testBit i) 14) := by decide +kernel
theorem bcv_112 : ∀ l, l < 128 → bcv (nI (14336 + l)) = nI (cnt (fun i => (14336 + l).testBit i) 14) := by decide +kernel
theorem bcv_113 : ∀ l, l < 128 → bcv (nI (14464 + l)) = nI (cnt (fun i => (14464 + l).testBit i) 14) := by decide +kernel
theorem bcv_114 : ∀ l, l < 128 → bcv (nI (14592 + l)) = nI (cnt (fun i => (14592 + l).testBit i) 14) := by decide +kernel
theorem bcv_115 : ∀ l, l < 128 → bcv (nI (14720 + l)) = nI (cnt (fun i => (14720 + l).testBit i) 14) := by decide +kernel
theorem bcv_116 : ∀ l, l < 128 → bcv (nI (14848 + l)) = nI (cnt (fun i => (14848 + l).testBit i) 14) := by decide +kernel
theorem bcv_117 : ∀ l, l < 128 → bcv (nI (14976 + l)) = nI (cnt (fun i => (14976 + l).testBit i) 14) := by decide +kernel
theorem bcv_118 : ∀ l, l < 128 → bcv (nI (15104 + l)) = nI (cnt (fun i => (15104 + l).testBit i) 14) := by decide +kernel
theorem bcv_119 : ∀ l, l < 128 → bcv (nI (15232 + l)) = nI (cnt (fun i => (15232 + l).testBit i) 14) := by decide +kernel
theorem bcv_120 : ∀ l, l < 128 → bcv (nI (15360 + l)) = nI (cnt (fun i => (15360 + l).testBit i) 14) := by decide +kernel
theorem bcv_121 : ∀ l, l < 128 → bcv (nI (15488 + l)) = nI (cnt (fun i => (15488 + l).testBit i) 14) := by decide +kernel
theorem bcv_122 : ∀ l, l < 128 → bcv (nI (15616 + l)) = nI (cnt (fun i => (15616 + l).testBit i) 14) := by decide +kernel
theorem bcv_123 : ∀ l, l < 128 → bcv (nI (15744 + l)) = nI (cnt (fun i => (15744 + l).testBit i) 14) := by decide +kernel
theorem bcv_124 : ∀ l, l < 128 → bcv (nI (15872 + l)) = nI (cnt (fun i => (15872 + l).testBit i) 14) := by decide +kernel
theorem bcv_125 : ∀ l, l < 128 → bcv (nI (16000 + l)) = nI (cnt (fun i => (16000 + l).testBit i) 14) := by decide +kernel
theorem bcv_126 : ∀ l, l < 128 → bcv (nI (16128 + l)) = nI (cnt (fun i => (16128 + l).testBit i) 14) := by decide +kernel
theorem bcv_127 : ∀ l, l < 128 → bcv (nI (16256 + l)) = nI (cnt (fun i => (16256 + l).testBit i) 14) := by decide +kernel
theorem bcv_tab : ∀ h, h < 128 → ∀ l, l < 128 → bcv (nI (128 * h + l)) = nI (cnt (fun i => (128 * h + l).testBit i) 14) := fun h hh => match h, hh with
  | 0, _ => bcv_0
  | 1, _ => bcv_1
  | 2, _ => bcv_2
  | 3, _ => bcv_3
  | 4, _ => bcv_4
  | 5, _ => bcv_5
  | 6, _ => bcv_6
  | 7, _ => bcv_7
  | 8, _ => bcv_8
  | 9, _ => bcv_9
  | 10, _ => bcv_10
  | 11, _ => bcv_11
  | 12, _ => bcv_12
  | 13, _ => bcv_13
  | 14, _ => bcv_14
  | 15, _ => bcv_15
  | 16, _ => bcv_16
  | 17, _ => bcv_17
  | 18, _ => bcv_18
  | 19, _ => bcv_19
  | 20, _ => bcv_20
  | 21, _ => bcv_21
  | 22, _ => bcv_22
  | 23, _ => bcv_23
  | 24, _ => bcv_24
  | 25, _ => bcv_25
  | 26, _ => bcv_26
  | 27, _ => bcv_27
  | 28, _ => bcv_28
  | 29, _ => bcv_29
  | 30, _ => bcv_30
  | 31, _ => bcv_31
  | 32, _ => bcv_32
  | 33, _ => bcv_33
  | 34, _ => bcv_34
  | 35, _ => bcv_35
  | 36, _ => bcv_36
  | 37, _ => bcv_37
  | 38, _ => bcv_38
  | 39, _ => bcv_39
  | 40, _ => bcv_40
  | 41, _ => bcv_41
  | 42, _ => bcv_42
  | 43, _ => bcv_43
  | 44, _ => bcv_44
  | 45, _ => bcv_45
  | 46, _ => bcv_46
  | 47, _ => bcv_47
  | 48, _ => bcv_48
  | 49, _ => bcv_49
  | 50, _ => bcv_50
  | 51, _ => bcv_51
  | 52, _ => bcv_52
  | 53, _ => bcv_53
  | 54, _ => bcv_54
  | 55, _ => bcv_55
  | 56, _ => bcv_56
  | 57, _ => bcv_57
  | 58, _ => bcv_58
  | 59, _ => bcv_59
  | 60, _ => bcv_60
  | 61, _ => bcv_61
  | 62, _ => bcv_62
  | 63, _ => bcv_63
  | 64, _ => bcv_64
  | 65, _ => bcv_65
  | 66, _ => bcv_66
  | 67, _ => bcv_67
  | 68, _ => bcv_68
  | 69, _ => bcv_69
  | 70, _ => bcv_70
  | 71, _ => bcv_71
  | 72, _ => bcv_72
  | 73, _ => bcv_73
  | 74, _ => bcv_74
  | 75, _ => bcv_75
  | 76, _ => bcv_76
  | 77, _ => bcv_77
  | 78, _ => bcv_78
  | 79, _ => bcv_79
  | 80, _ => bcv_80
  | 81, _ => bcv_81
  | 82, _ => bcv_82
  | 83, _ => bcv_83
  | 84, _ => bcv_84
  | 85, _ => bcv_85
  | 86, _ => bcv_86
  | 87, _ => bcv_87
  | 88, _ => bcv_88
  | 89, _ => bcv_89
  | 90, _ => bcv_90
  | 91, _ => bcv_91
  | 92, _ => bcv_92
  | 93, _ => bcv_93
  | 94, _ => bcv_94
  | 95, _ => bcv_95
  | 96, _ => bcv_96
  | 97, _ => bcv_97
  | 98, _ => bcv_98
  | 99, _ => bcv_99
  | 100, _ => bcv_100
  | 101, _ => bcv_101
  | 102, _ => bcv_102
  | 103, _ => bcv_103
  | 104, _ => bcv_104
  | 105, _ => bcv_105
  | 106, _ => bcv_106
  | 107, _ => bcv_107
  | 108, _ => bcv_108
  | 109, _ => bcv_109
  | 110, _ => bcv_110
  | 111, _ => bcv_111
  | 112, _ => bcv_112
  | 113, _ => bcv_113
  | 114, _ => bcv_114
  | 115, _ => bcv_115
  | 116, _ => bcv_116
  | 117, _ => bcv_117
  | 118, _ => bcv_118
  | 119, _ => bcv_119
  | 120, _ => bcv_120
  | 121, _ => bcv_121
  | 122, _ => bcv_122
  | 123, _ => bcv_123
  | 124, _ => bcv_124
  | 125, _ => bcv_125
  | 126, _ => bcv_126
  | 127, _ => bcv_127
  | n + 128, hh => absurd hh (by omega)
theorem bcv_of {m : Nat} (h : m < 16384) : bcv (nI m) = nI (cnt (fun i => m.testBit i) 14) := by
  have := bcv_tab (m / 128) (by omega) (m % 128) (by omega)
  rwa [show 128 * (m / 128) + m % 128 = m by omega] at this
