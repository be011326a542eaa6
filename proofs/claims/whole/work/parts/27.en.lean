/-! ===== calls begin their methods (written by program) ===== -/
theorem en_0 {l2 : Int32} {l3 : Int32} {h : sm_H} : xc 0 [.ref 124, .ref 116, .int l2, .int l3] h = xe 5 0 0 [.ref 124, .ref 116, .int l2, .int l3, .null, .null, .null, .null, .null] [] h := rfl
theorem en_1 {l1 : Int64} {h : sm_H} : xc 1 [.ref 124, .long l1] h = xe 2 1 0 [.ref 124, .long l1, .null] [] h := rfl
theorem en_2 {l1 : Int32} {h : sm_H} : xc 2 [.ref 124, .int l1] h = xe 1 2 0 [.ref 124, .int l1, .null, .null, .null] [] h := rfl
theorem en_3 {l1 : Int32} {l2 : Int32} {l3 : Int32} {h : sm_H} : xc 3 [.ref 124, .int l1, .int l2, .int l3] h = xe 4 3 0 [.ref 124, .int l1, .int l2, .int l3, .null, .null, .null, .null, .null] [] h := rfl
theorem en_4  {h : sm_H} : xc 4 [.ref 124] h = xe 1 4 0 [.ref 124, .null, .null] [] h := rfl
theorem en_5 {l1 : Int32} {h : sm_H} : xc 5 [.ref 124, .int l1] h = xe 5 5 0 [.ref 124, .int l1, .null, .null, .null, .null, .null] [] h := rfl
theorem en_6 {l1 : Int32} {h : sm_H} : xc 6 [.ref 113, .int l1] h = xe 7 6 0 [.ref 113, .int l1] [] h := rfl
theorem en_7 {l1 : Int32} {l2 : Int32} {h : sm_H} : xc 7 [.ref 113, .int l1, .int l2] h = xe 8 7 0 [.ref 113, .int l1, .int l2, .null, .null, .null] [] h := rfl
theorem en_8 {l1 : Int32} {l2 : Int32} {h : sm_H} : xc 8 [.ref 113, .int l1, .int l2] h = xe 7 8 0 [.ref 113, .int l1, .int l2, .null] [] h := rfl
theorem en_9 {l1 : Int32} {l2 : Int32} {h : sm_H} : xc 9 [.ref 113, .int l1, .int l2] h = xe 8 9 0 [.ref 113, .int l1, .int l2, .null, .null, .null, .null] [] h := rfl
theorem en_10 {l1 : Int32} {h : sm_H} : xc 10 [.ref 113, .int l1] h = xe 1 10 0 [.ref 113, .int l1] [] h := rfl
theorem en_11 {l1 : Int32} {h : sm_H} : xc 11 [.ref 113, .int l1] h = xe 2 11 0 [.ref 113, .int l1, .null] [] h := rfl
theorem en_12  {h : sm_H} : xc 12 [.ref 113] h = xe 7 12 0 [.ref 113, .null, .null] [] h := rfl
theorem en_13  {h : sm_H} : xc 13 [.ref 113] h = xe 8 13 0 [.ref 113, .null, .null] [] h := rfl
theorem en_14  {h : sm_H} : xc 14 [.ref 113] h = xe 8 14 0 [.ref 113, .null, .null, .null, .null] [] h := rfl
theorem en_15 {l1 : Int32} {h : sm_H} : xc 15 [.ref 113, .int l1] h = xe 7 15 0 [.ref 113, .int l1, .null, .null] [] h := rfl
theorem en_16 {l1 : Int32} {l2 : Int32} {h : sm_H} : xc 16 [.ref 113, .int l1, .int l2] h = xe 8 16 0 [.ref 113, .int l1, .int l2, .null, .null, .null, .null] [] h := rfl
theorem en_17 {l1 : Int32} {h : sm_H} : xc 17 [.ref 113, .int l1] h = xe 4 17 0 [.ref 113, .int l1, .null, .null] [] h := rfl
theorem en_18  {h : sm_H} : xc 18 [.ref 113] h = xe 1 18 0 [.ref 113, .null] [] h := rfl
theorem en_19 {l1 : Int32} {h : sm_H} : xc 19 [.ref 113, .int l1] h = xe 5 19 0 [.ref 113, .int l1, .null, .null, .null, .null, .null, .null] [] h := rfl
theorem en_20 {a1 : Nat} {l2 : Int32} {l3 : Int32} {h : sm_H} : xc 20 [.ref 51, .ref a1, .int l2, .int l3] h = xe 4 20 0 [.ref 51, .ref a1, .int l2, .int l3, .null, .null] [] h := rfl
theorem en_21 {a1 : Nat} {l2 : Int32} {l3 : Int32} {h : sm_H} : xc 21 [.ref 51, .ref a1, .int l2, .int l3] h = xe 5 21 0 [.ref 51, .ref a1, .int l2, .int l3, .null, .null] [] h := rfl
theorem en_22 {a1 : Nat} {l2 : Int32} {l3 : Int32} {l4 : Int32} {h : sm_H} : xc 22 [.ref 51, .ref a1, .int l2, .int l3, .int l4] h = xe 2 22 0 [.ref 51, .ref a1, .int l2, .int l3, .int l4] [] h := rfl
theorem en_23 {a1 : Nat} {l2 : Int32} {h : sm_H} : xc 23 [.ref 51, .ref a1, .int l2] h = xe 2 23 0 [.ref 51, .ref a1, .int l2] [] h := rfl
theorem en_24 {a1 : Nat} {l2 : Int32} {h : sm_H} : xc 24 [.ref 51, .ref a1, .int l2] h = xe 2 24 0 [.ref 51, .ref a1, .int l2] [] h := rfl
theorem en_25 {a1 : Nat} {l2 : Int32} {h : sm_H} : xc 25 [.ref 51, .ref a1, .int l2] h = xe 1 25 0 [.ref 51, .ref a1, .int l2, .null] [] h := rfl
theorem en_26 {a1 : Nat} {l2 : Int64} {h : sm_H} : xc 26 [.ref 51, .ref a1, .long l2] h = xe 6 26 0 [.ref 51, .ref a1, .long l2, .null, .null] [] h := rfl
theorem en_27 {a1 : Nat} {l3 : Int32} {h : sm_H} : xc 27 [.ref 51, .ref a1, .ref 116, .int l3] h = xe 7 27 0 [.ref 51, .ref a1, .ref 116, .int l3, .null] [] h := rfl
theorem en_28 {l1 : Int32} {h : sm_H} : xc 28 [.ref 51, .int l1] h = xe 2 28 0 [.ref 51, .int l1] [] h := rfl
theorem en_29  {h : sm_H} : xc 29 [.ref 51] h = xe 3 29 0 [.ref 51, .null, .null] [] h := rfl
theorem en_30 {a1 : Nat} {l2 : Int32} {l3 : Int32} {h : sm_H} : xc 30 [.ref 51, .ref a1, .int l2, .int l3] h = xe 7 30 0 [.ref 51, .ref a1, .int l2, .int l3, .null, .null] [] h := rfl
theorem en_31 {o : Nat} {h : sm_H} : xc 31 [.ref o] h = xe 1 31 0 [.ref o] [] h := rfl
theorem en_32 {o : Nat} {a1 : Nat} {h : sm_H} : xc 32 [.ref o, .ref a1] h = xe 2 32 0 [.ref o, .ref a1] [] h := rfl
theorem en_33 {o : Nat} {l1 : Int32} {h : sm_H} : xc 33 [.ref o, .int l1] h = xe 1 33 0 [.ref o, .int l1] [] h := rfl
theorem en_34 {o : Nat} {l1 : Int32} {h : sm_H} : xc 34 [.ref o, .int l1] h = xe 1 34 0 [.ref o, .int l1] [] h := rfl
theorem en_35 {o : Nat} {l1 : Int32} {h : sm_H} : xc 35 [.ref o, .int l1] h = xe 1 35 0 [.ref o, .int l1] [] h := rfl
theorem en_36 {o : Nat} {l1 : Int32} {h : sm_H} : xc 36 [.ref o, .int l1] h = xe 1 36 0 [.ref o, .int l1] [] h := rfl
theorem en_37 {o : Nat} {l1 : Int32} {h : sm_H} : xc 37 [.ref o, .int l1] h = xe 2 37 0 [.ref o, .int l1] [] h := rfl
theorem en_38 {o : Nat} {l1 : Int32} {l2 : Int32} {h : sm_H} : xc 38 [.ref o, .int l1, .int l2] h = xe 1 38 0 [.ref o, .int l1, .int l2] [] h := rfl
theorem en_39 {o : Nat} {h : sm_H} : xc 39 [.ref o] h = xe 1 39 0 [.ref o, .null, .null] [] h := rfl
theorem en_40 {o : Nat} {a1 : Nat} {h : sm_H} : xc 40 [.ref o, .ref a1] h = xe 1 40 0 [.ref o, .ref a1] [] h := rfl
theorem en_41 {o : Nat} {l1 : Int32} {h : sm_H} : xc 41 [.ref o, .int l1] h = xe 1 41 0 [.ref o, .int l1] [] h := rfl
theorem en_42 {o : Nat} {h : sm_H} : xc 42 [.ref o, .ref 49] h = xe 2 42 0 [.ref o, .ref 49, .null, .null, .null, .null, .null, .null, .null, .null, .null] [] h := rfl
theorem en_43  {h : sm_H} : xc 43 [.ref 48] h = xe 2 43 0 [.ref 48] [] h := rfl
theorem en_44 {l1 : Int32} {l2 : Int32} {l3 : Int32} {l4 : Int32} {l5 : Int32} {h : sm_H} : xc 44 [.ref 48, .int l1, .int l2, .int l3, .int l4, .int l5] h = xe 3 44 0 [.ref 48, .int l1, .int l2, .int l3, .int l4, .int l5, .null, .null, .null, .null] [] h := rfl
theorem en_45 {l1 : Int32} {l2 : Int32} {l3 : Int32} {l4 : Int32} {l5 : Int32} {h : sm_H} : xc 45 [.ref 48, .int l1, .int l2, .int l3, .int l4, .int l5] h = xe 3 45 0 [.ref 48, .int l1, .int l2, .int l3, .int l4, .int l5] [] h := rfl
theorem en_46 {l1 : Int32} {l2 : Int32} {l3 : Int32} {l4 : Int32} {l5 : Int32} {h : sm_H} : xc 46 [.ref 48, .int l1, .int l2, .int l3, .int l4, .int l5] h = xe 2 46 0 [.ref 48, .int l1, .int l2, .int l3, .int l4, .int l5] [] h := rfl
theorem en_47  {h : sm_H} : xc 47 [.ref 52] h = xe 1 47 0 [.ref 52] [] h := rfl
theorem en_48 {a1 : Nat} {h : sm_H} : xc 48 [.ref 52, .ref a1] h = xe 2 48 0 [.ref 52, .ref a1] [] h := rfl
theorem en_49 {a1 : Nat} {l2 : Int32} {h : sm_H} : xc 49 [.ref 52, .ref a1, .int l2] h = xe 2 49 0 [.ref 52, .ref a1, .int l2] [] h := rfl
theorem en_50 {l2 : Int32} {h : sm_H} : xc 50 [.ref 28, .ref 1, .int l2] h = xe 77 50 0 [.ref 28, .ref 1, .int l2, .null, .null] [] h := rfl
theorem en_51 {l2 : Int32} {h : sm_H} : xc 51 [.ref 28, .ref 1, .int l2] h = xe 3 51 0 [.ref 28, .ref 1, .int l2, .null, .null, .null, .null, .null] [] h := rfl
theorem en_52 {l1 : Int32} {l2 : Int32} {h : sm_H} : xc 52 [.ref 1, .int l1, .int l2] h = xe 1 52 0 [.ref 1, .int l1, .int l2, .null, .null, .null] [] h := rfl
theorem en_53 {l1 : Int32} {l2 : Int32} {h : sm_H} : xc 53 [.ref 1, .int l1, .int l2] h = xe 1 53 0 [.ref 1, .int l1, .int l2, .null, .null] [] h := rfl
theorem en_54 {l1 : Int32} {l2 : Int32} {h : sm_H} : xc 54 [.ref 1, .int l1, .int l2] h = xe 2 54 0 [.ref 1, .int l1, .int l2, .null, .null, .null, .null] [] h := rfl
theorem en_55 {l0 : Int32} {h : sm_H} : xc 55 [.int l0] h = xe 1 55 0 [.int l0] [] h := rfl
theorem en_56 {l1 : Int32} {h : sm_H} : xc 56 [.ref 28, .int l1] h = xe 1 56 0 [.ref 28, .int l1] [] h := rfl
theorem en_57 {l1 : Int32} {l2 : Int32} {l3 : Int32} {h : sm_H} : xc 57 [.ref 28, .int l1, .int l2, .int l3] h = xe 1 57 0 [.ref 28, .int l1, .int l2, .int l3] [] h := rfl
theorem en_58 {l1 : Int32} {h : sm_H} : xc 58 [.ref 28, .int l1] h = xe 2 58 0 [.ref 28, .int l1] [] h := rfl
theorem en_59  {h : sm_H} : xc 59 [.ref 28] h = xe 2 59 0 [.ref 28, .null] [] h := rfl
theorem en_60  {h : sm_H} : xc 60 [.ref 28] h = xe 76 60 0 [.ref 28, .null] [] h := rfl
theorem en_61  {h : sm_H} : xc 61 [.ref 28] h = xe 3 61 0 [.ref 28, .null, .null, .null] [] h := rfl
theorem en_62 {l1 : Int32} {h : sm_H} : xc 62 [.ref 28, .int l1] h = xe 2 62 0 [.ref 28, .int l1, .null] [] h := rfl
theorem en_63  {h : sm_H} : xc 63 [.ref 28] h = xe 4 63 0 [.ref 28, .null, .null, .null] [] h := rfl
theorem en_64 {l1 : Int32} {h : sm_H} : xc 64 [.ref 28, .int l1] h = xe 3 64 0 [.ref 28, .int l1, .null] [] h := rfl
theorem en_65 {a1 : Nat} {h : sm_H} : xc 65 [.ref 28, .ref a1] h = xe 2 65 0 [.ref 28, .ref a1] [] h := rfl
theorem en_66 {l1 : Int32} {h : sm_H} : xc 66 [.ref 28, .int l1] h = xe (sm_rk 66 [.ref 28, .int l1]) 66 0 [.ref 28, .int l1, .null, .null, .null, .null] [] h := rfl
theorem en_67 {l1 : Int32} {h : sm_H} : xc 67 [.ref 28, .int l1] h = xe (sm_rk 67 [.ref 28, .int l1]) 67 0 [.ref 28, .int l1, .null, .null, .null] [] h := rfl
theorem en_68 {l0 : Int32} {h : sm_H} : xc 68 [.int l0] h = xe 1 68 0 [.int l0] [] h := rfl
theorem en_69 {l1 : Int32} {h : sm_H} : xc 69 [.ref 28, .int l1] h = xe (sm_rk 69 [.ref 28, .int l1]) 69 0 [.ref 28, .int l1, .null, .null, .null, .null] [] h := rfl
theorem en_70 {l1 : Int32} {h : sm_H} : xc 70 [.ref 28, .int l1] h = xe (sm_rk 70 [.ref 28, .int l1]) 70 0 [.ref 28, .int l1, .null, .null] [] h := rfl
theorem en_71 {a1 : Nat} {l2 : Int32} {h : sm_H} : xc 71 [.ref 104, .ref a1, .int l2] h = xe 1 71 0 [.ref 104, .ref a1, .int l2] [] h := rfl
theorem en_72 {l0 : Int32} {l1 : Int32} {l2 : Int32} {l3 : Int32} {h : sm_H} : xc 72 [.int l0, .int l1, .int l2, .int l3] h = xe 1 72 0 [.int l0, .int l1, .int l2, .int l3] [] h := rfl
theorem en_73  {h : sm_H} : xc 73 [.ref 104] h = xe 6 73 0 [.ref 104, .null, .null, .null, .null, .null, .null] [] h := rfl
theorem en_74 {l1 : Int32} {h : sm_H} : xc 74 [.ref 104, .int l1] h = xe 1 74 0 [.ref 104, .int l1, .null] [] h := rfl
theorem en_75 {l1 : Int32} {l2 : Int32} {h : sm_H} : xc 75 [.ref 104, .int l1, .int l2] h = xe 1 75 0 [.ref 104, .int l1, .int l2, .null, .null, .null] [] h := rfl
theorem en_76 {l1 : Int32} {h : sm_H} : xc 76 [.ref 104, .int l1] h = xe 5 76 0 [.ref 104, .int l1, .null, .null, .null] [] h := rfl
theorem en_77 {l1 : Int32} {l2 : Int32} {h : sm_H} : xc 77 [.ref 104, .int l1, .int l2] h = xe 4 77 0 [.ref 104, .int l1, .int l2, .null, .null, .null, .null, .null] [] h := rfl
theorem en_78 {l1 : Int32} {l2 : Int32} {l3 : Int32} {l4 : Int32} {h : sm_H} : xc 78 [.ref 104, .int l1, .int l2, .int l3, .int l4] h = xe 2 78 0 [.ref 104, .int l1, .int l2, .int l3, .int l4] [] h := rfl
theorem en_79 {l1 : Int32} {l2 : Int32} {h : sm_H} : xc 79 [.ref 104, .int l1, .int l2] h = xe 1 79 0 [.ref 104, .int l1, .int l2, .null] [] h := rfl
theorem en_80 {l1 : Int32} {h : sm_H} : xc 80 [.ref 104, .int l1] h = xe 2 80 0 [.ref 104, .int l1, .null, .null] [] h := rfl
theorem en_81 {l1 : Int32} {l2 : Int32} {l3 : Int32} {l4 : Int32} {h : sm_H} : xc 81 [.ref 104, .int l1, .int l2, .int l3, .int l4] h = xe 2 81 0 [.ref 104, .int l1, .int l2, .int l3, .int l4, .null, .null] [] h := rfl
theorem en_82 {l1 : Int32} {h : sm_H} : xc 82 [.ref 104, .int l1] h = xe 1 82 0 [.ref 104, .int l1] [] h := rfl
theorem en_83 {l1 : Int32} {h : sm_H} : xc 83 [.ref 104, .int l1] h = xe 1 83 0 [.ref 104, .int l1] [] h := rfl
theorem en_84  {h : sm_H} : xc 84 [.ref 104] h = xe 1 84 0 [.ref 104, .null, .null] [] h := rfl
theorem en_85  {h : sm_H} : xc 85 [.ref 104] h = xe 1 85 0 [.ref 104] [] h := rfl
theorem en_86 {l1 : Int32} {h : sm_H} : xc 86 [.ref 104, .int l1] h = xe 2 86 0 [.ref 104, .int l1] [] h := rfl
theorem en_87  {h : sm_H} : xc 87 [.ref 104] h = xe 2 87 0 [.ref 104] [] h := rfl
theorem en_88 {l1 : Int32} {h : sm_H} : xc 88 [.ref 104, .int l1] h = xe 1 88 0 [.ref 104, .int l1, .null, .null] [] h := rfl
theorem en_89 {l1 : Int32} {h : sm_H} : xc 89 [.ref 104, .int l1] h = xe 1 89 0 [.ref 104, .int l1] [] h := rfl
theorem en_90 {l1 : Int32} {h : sm_H} : xc 90 [.ref 104, .int l1] h = xe 3 90 0 [.ref 104, .int l1, .null, .null] [] h := rfl
theorem en_91  {h : sm_H} : xc 91 [.ref 104] h = xe 7 91 0 [.ref 104, .null, .null] [] h := rfl
theorem en_92 {l1 : Int32} {l2 : Int32} {h : sm_H} : xc 92 [.ref 104, .int l1, .int l2] h = xe 6 92 0 [.ref 104, .int l1, .int l2, .null, .null, .null] [] h := rfl
theorem en_93 {a1 : Nat} {a2 : Nat} {h : sm_H} : xc 93 [.ref 104, .ref a1, .ref a2] h = xe 5 93 0 [.ref 104, .ref a1, .ref a2, .null, .null, .null] [] h := rfl
theorem en_94 {l1 : Int32} {h : sm_H} : xc 94 [.ref 116, .int l1] h = xe 1 94 0 [.ref 116, .int l1] [] h := rfl
theorem en_95 {l1 : Int32} {h : sm_H} : xc 95 [.ref 116, .int l1] h = xe 1 95 0 [.ref 116, .int l1] [] h := rfl
theorem en_96 {l1 : Int32} {l2 : Int32} {l3 : Int32} {h : sm_H} : xc 96 [.ref 116, .int l1, .int l2, .int l3] h = xe 2 96 0 [.ref 116, .int l1, .int l2, .int l3] [] h := rfl
theorem en_97 {l1 : Int32} {l2 : Int32} {l3 : Int64} {h : sm_H} : xc 97 [.ref 116, .int l1, .int l2, .long l3] h = xe 1 97 0 [.ref 116, .int l1, .int l2, .long l3, .null] [] h := rfl
theorem en_98 {o : Nat} {a1 : Nat} {h : sm_H} : xc 98 [.ref o, .ref a1] h = xe 2 98 0 [.ref o, .ref a1, .null] [] h := rfl
theorem en_99 {o : Nat} {a1 : Nat} {h : sm_H} : xc 99 [.ref o, .ref a1] h = xe 1 99 0 [.ref o, .ref a1] [] h := rfl
theorem en_100 {o : Nat} {h : sm_H} : xc 100 [.ref o] h = xe 1 100 0 [.ref o, .null, .null] [] h := rfl
theorem en_101 {l1 : Int32} {l2 : Int32} {l3 : Int32} {l4 : Int32} {l5 : Int32} {h : sm_H} : xc 101 [.ref 0, .int l1, .int l2, .int l3, .int l4, .int l5] h = xe 2 101 0 [.ref 0, .int l1, .int l2, .int l3, .int l4, .int l5] [] h := rfl
theorem en_102 {l1 : Int32} {h : sm_H} : xc 102 [.ref 0, .int l1] h = xe 1 102 0 [.ref 0, .int l1, .null] [] h := rfl
theorem en_103 {l1 : Int32} {h : sm_H} : xc 103 [.ref 0, .int l1] h = xe 78 103 0 [.ref 0, .int l1, .null] [] h := rfl
theorem en_104 {l1 : Int32} {h : sm_H} : xc 104 [.ref 0, .int l1] h = xe 1 104 0 [.ref 0, .int l1] [] h := rfl
theorem en_105 {l1 : Int32} {l2 : Int32} {h : sm_H} : xc 105 [.ref 0, .int l1, .int l2] h = xe 2 105 0 [.ref 0, .int l1, .int l2] [] h := rfl
theorem en_106 {l1 : Int32} {l2 : Int32} {h : sm_H} : xc 106 [.ref 0, .int l1, .int l2] h = xe 2 106 0 [.ref 0, .int l1, .int l2] [] h := rfl
theorem en_107 {l1 : Int32} {l2 : Int32} {h : sm_H} : xc 107 [.ref 0, .int l1, .int l2] h = xe 5 107 0 [.ref 0, .int l1, .int l2] [] h := rfl
theorem en_108 {l1 : Int32} {l2 : Int32} {h : sm_H} : xc 108 [.ref 0, .int l1, .int l2] h = xe 4 108 0 [.ref 0, .int l1, .int l2, .null] [] h := rfl
theorem en_109 {l1 : Int32} {l2 : Int32} {h : sm_H} : xc 109 [.ref 0, .int l1, .int l2] h = xe 6 109 0 [.ref 0, .int l1, .int l2, .null] [] h := rfl
theorem en_110 {l1 : Int32} {l2 : Int32} {l3 : Int32} {h : sm_H} : xc 110 [.ref 0, .int l1, .int l2, .int l3] h = xe 3 110 0 [.ref 0, .int l1, .int l2, .int l3, .null] [] h := rfl
theorem en_111 {l1 : Int32} {h : sm_H} : xc 111 [.ref 0, .int l1] h = xe 3 111 0 [.ref 0, .int l1, .null] [] h := rfl
theorem en_112 {l1 : Int32} {h : sm_H} : xc 112 [.ref 0, .int l1] h = xe 3 112 0 [.ref 0, .int l1, .null] [] h := rfl
theorem en_113 {l1 : Int32} {h : sm_H} : xc 113 [.ref 0, .int l1] h = xe 3 113 0 [.ref 0, .int l1] [] h := rfl
theorem en_114 {l1 : Int32} {h : sm_H} : xc 114 [.ref 0, .int l1] h = xe 3 114 0 [.ref 0, .int l1] [] h := rfl
theorem en_115 {l1 : Int32} {l2 : Int32} {h : sm_H} : xc 115 [.ref 0, .int l1, .int l2] h = xe 8 115 0 [.ref 0, .int l1, .int l2, .null] [] h := rfl
theorem en_116 {l1 : Int32} {h : sm_H} : xc 116 [.ref 0, .int l1] h = xe 8 116 0 [.ref 0, .int l1, .null] [] h := rfl
theorem en_117 {l1 : Int32} {l2 : Int32} {h : sm_H} : xc 117 [.ref 0, .int l1, .int l2] h = xe 8 117 0 [.ref 0, .int l1, .int l2, .null] [] h := rfl
theorem en_118 {l1 : Int32} {l2 : Int32} {h : sm_H} : xc 118 [.ref 0, .int l1, .int l2] h = xe 8 118 0 [.ref 0, .int l1, .int l2] [] h := rfl
theorem en_119 {l1 : Int32} {l2 : Int32} {l3 : Int32} {h : sm_H} : xc 119 [.ref 0, .int l1, .int l2, .int l3] h = xe 8 119 0 [.ref 0, .int l1, .int l2, .int l3] [] h := rfl
theorem en_120 {l1 : Int32} {l2 : Int32} {h : sm_H} : xc 120 [.ref 0, .int l1, .int l2] h = xe 8 120 0 [.ref 0, .int l1, .int l2] [] h := rfl
theorem en_121 {l1 : Int32} {h : sm_H} : xc 121 [.ref 0, .int l1] h = xe 8 121 0 [.ref 0, .int l1] [] h := rfl
theorem en_122 {l1 : Int32} {l2 : Int32} {l3 : Int32} {h : sm_H} : xc 122 [.ref 0, .int l1, .int l2, .int l3] h = xe 7 122 0 [.ref 0, .int l1, .int l2, .int l3] [] h := rfl
theorem en_123 {l1 : Int32} {l2 : Int32} {h : sm_H} : xc 123 [.ref 0, .int l1, .int l2] h = xe 9 123 0 [.ref 0, .int l1, .int l2] [] h := rfl
theorem en_124 {l1 : Int32} {l2 : Int32} {h : sm_H} : xc 124 [.ref 0, .int l1, .int l2] h = xe 8 124 0 [.ref 0, .int l1, .int l2] [] h := rfl
theorem en_125 {l1 : Int32} {l2 : Int32} {h : sm_H} : xc 125 [.ref 0, .int l1, .int l2] h = xe 9 125 0 [.ref 0, .int l1, .int l2] [] h := rfl
theorem en_126  {h : sm_H} : xc 126 [.ref 0] h = xe 8 126 0 [.ref 0] [] h := rfl
theorem en_127 {l1 : Int32} {h : sm_H} : xc 127 [.ref 0, .int l1] h = xe 8 127 0 [.ref 0, .int l1] [] h := rfl
theorem en_128  {h : sm_H} : xc 128 [.ref 0] h = xe 9 128 0 [.ref 0] [] h := rfl
theorem en_129  {h : sm_H} : xc 129 [.ref 0] h = xe 9 129 0 [.ref 0] [] h := rfl
theorem en_130 {l1 : Int32} {h : sm_H} : xc 130 [.ref 0, .int l1] h = xe 8 130 0 [.ref 0, .int l1] [] h := rfl
theorem en_131 {l1 : Int32} {l2 : Int32} {h : sm_H} : xc 131 [.ref 0, .int l1, .int l2] h = xe 8 131 0 [.ref 0, .int l1, .int l2] [] h := rfl
theorem en_132 {l1 : Int32} {h : sm_H} : xc 132 [.ref 0, .int l1] h = xe 8 132 0 [.ref 0, .int l1] [] h := rfl
theorem en_133 {l1 : Int32} {h : sm_H} : xc 133 [.ref 0, .int l1] h = xe 8 133 0 [.ref 0, .int l1] [] h := rfl
theorem en_134 {l1 : Int32} {l2 : Int32} {h : sm_H} : xc 134 [.ref 0, .int l1, .int l2] h = xe 9 134 0 [.ref 0, .int l1, .int l2, .null] [] h := rfl
theorem en_135 {l1 : Int32} {l2 : Int32} {h : sm_H} : xc 135 [.ref 0, .int l1, .int l2] h = xe 9 135 0 [.ref 0, .int l1, .int l2, .null] [] h := rfl
theorem en_136 {l1 : Int32} {l2 : Int32} {h : sm_H} : xc 136 [.ref 0, .int l1, .int l2] h = xe 6 136 0 [.ref 0, .int l1, .int l2, .null] [] h := rfl
theorem en_137 {l1 : Int32} {l2 : Int32} {h : sm_H} : xc 137 [.ref 0, .int l1, .int l2] h = xe 6 137 0 [.ref 0, .int l1, .int l2, .null] [] h := rfl
theorem en_138 {l1 : Int32} {l2 : Int32} {h : sm_H} : xc 138 [.ref 0, .int l1, .int l2] h = xe 6 138 0 [.ref 0, .int l1, .int l2, .null] [] h := rfl
theorem en_139 {l1 : Int32} {l2 : Int32} {l3 : Int32} {h : sm_H} : xc 139 [.ref 0, .int l1, .int l2, .int l3] h = xe 8 139 0 [.ref 0, .int l1, .int l2, .int l3] [] h := rfl
theorem en_140 {l1 : Int32} {h : sm_H} : xc 140 [.ref 0, .int l1] h = xe 8 140 0 [.ref 0, .int l1] [] h := rfl
theorem en_141 {l1 : Int32} {l2 : Int32} {l3 : Int32} {h : sm_H} : xc 141 [.ref 0, .int l1, .int l2, .int l3] h = xe 3 141 0 [.ref 0, .int l1, .int l2, .int l3] [] h := rfl
theorem en_142 {l1 : Int32} {l2 : Int32} {l3 : Int64} {h : sm_H} : xc 142 [.ref 0, .int l1, .int l2, .long l3] h = xe 2 142 0 [.ref 0, .int l1, .int l2, .long l3, .null] [] h := rfl
theorem en_143 {l1 : Int32} {l2 : Int32} {l3 : Int32} {h : sm_H} : xc 143 [.ref 0, .int l1, .int l2, .int l3] h = xe 8 143 0 [.ref 0, .int l1, .int l2, .int l3, .null, .null] [] h := rfl
theorem en_144 {l1 : Int32} {h : sm_H} : xc 144 [.ref 0, .int l1] h = xe 3 144 0 [.ref 0, .int l1] [] h := rfl
theorem en_145 {l1 : Int32} {h : sm_H} : xc 145 [.ref 0, .int l1] h = xe 3 145 0 [.ref 0, .int l1] [] h := rfl
theorem en_146 {l1 : Int32} {h : sm_H} : xc 146 [.ref 0, .int l1] h = xe 2 146 0 [.ref 0, .int l1] [] h := rfl
theorem en_147 {l0 : Int64} {l2 : Int64} {l4 : Int64} {h : sm_H} : xc 147 [.long l0, .long l2, .long l4] h = xe 1 147 0 [.long l0, .null, .long l2, .null, .long l4, .null] [] h := rfl
theorem en_148 {a0 : Nat} {h : sm_H} : xc 148 [.ref a0] h = xe 1 148 0 [.ref a0, .null] [] h := rfl
theorem en_149 {l1 : Int32} {l2 : Int32} {l3 : Int32} {l4 : Int32} {l5 : Int32} {h : sm_H} : xc 149 [.ref 169, .int l1, .int l2, .int l3, .int l4, .int l5] h = xe 1 149 0 [.ref 169, .int l1, .int l2, .int l3, .int l4, .int l5, .null, .null] [] h := rfl
theorem en_150 {l1 : Int32} {h : sm_H} : xc 150 [.ref 169, .int l1] h = xe 1 150 0 [.ref 169, .int l1] [] h := rfl
theorem en_151 {l0 : Int32} {h : sm_H} : xc 151 [.int l0] h = xe 1 151 0 [.int l0] [] h := rfl
theorem en_152 {l0 : Int32} {h : sm_H} : xc 152 [.int l0] h = xe 1 152 0 [.int l0] [] h := rfl
theorem en_153  {h : sm_H} : xc 153 [.ref 169] h = xe 1 153 0 [.ref 169, .null, .null, .null] [] h := rfl
theorem en_154  {h : sm_H} : xc 154 [.ref 169] h = xe 2 154 0 [.ref 169, .null] [] h := rfl
theorem en_155 {l1 : Int32} {h : sm_H} : xc 155 [.ref 169, .int l1] h = xe 1 155 0 [.ref 169, .int l1] [] h := rfl
theorem en_156 {l1 : Int32} {h : sm_H} : xc 156 [.ref 169, .int l1] h = xe 1 156 0 [.ref 169, .int l1] [] h := rfl
theorem en_157 {l1 : Int32} {h : sm_H} : xc 157 [.ref 169, .int l1] h = xe 3 157 0 [.ref 169, .int l1] [] h := rfl
theorem en_158 {l1 : Int32} {l2 : Int32} {h : sm_H} : xc 158 [.ref 169, .int l1, .int l2] h = xe 3 158 0 [.ref 169, .int l1, .int l2, .null] [] h := rfl
theorem en_159 {l0 : Int64} {l2 : Int32} {h : sm_H} : xc 159 [.long l0, .int l2] h = xe 1 159 0 [.long l0, .null, .int l2] [] h := rfl
theorem en_160 {l1 : Int32} {h : sm_H} : xc 160 [.ref 169, .int l1] h = xe 1 160 0 [.ref 169, .int l1] [] h := rfl
theorem en_161 {l1 : Int32} {h : sm_H} : xc 161 [.ref 169, .int l1] h = xe 1 161 0 [.ref 169, .int l1] [] h := rfl
theorem en_162 {l1 : Int32} {h : sm_H} : xc 162 [.ref 169, .int l1] h = xe 3 162 0 [.ref 169, .int l1] [] h := rfl
theorem en_163 {l1 : Int32} {h : sm_H} : xc 163 [.ref 169, .int l1] h = xe (sm_rk 163 [.ref 169, .int l1]) 163 0 [.ref 169, .int l1] [] h := rfl
theorem en_164 {l1 : Int32} {h : sm_H} : xc 164 [.ref 169, .int l1] h = xe (sm_rk 164 [.ref 169, .int l1]) 164 0 [.ref 169, .int l1] [] h := rfl
theorem en_165 {l1 : Int32} {h : sm_H} : xc 165 [.ref 169, .int l1] h = xe (sm_rk 165 [.ref 169, .int l1]) 165 0 [.ref 169, .int l1, .null] [] h := rfl
theorem en_166 {l1 : Int32} {h : sm_H} : xc 166 [.ref 169, .int l1] h = xe (sm_rk 166 [.ref 169, .int l1]) 166 0 [.ref 169, .int l1, .null] [] h := rfl
theorem en_167 {l1 : Int32} {h : sm_H} : xc 167 [.ref 169, .int l1] h = xe (sm_rk 167 [.ref 169, .int l1]) 167 0 [.ref 169, .int l1] [] h := rfl
theorem en_168 {l1 : Int32} {h : sm_H} : xc 168 [.ref 169, .int l1] h = xe (sm_rk 168 [.ref 169, .int l1]) 168 0 [.ref 169, .int l1] [] h := rfl
theorem en_169  {h : sm_H} : xc 169 [.ref 169] h = xe 1 169 0 [.ref 169, .null, .null] [] h := rfl
theorem en_170  {h : sm_H} : xc 170 [.ref 169] h = xe 4 170 0 [.ref 169, .null, .null, .null, .null] [] h := rfl
theorem en_171 {l1 : Int32} {h : sm_H} : xc 171 [.ref 169, .int l1] h = xe 4 171 0 [.ref 169, .int l1, .null, .null] [] h := rfl
theorem en_172  {h : sm_H} : xc 172 [.ref 169] h = xe 5 172 0 [.ref 169, .null, .null] [] h := rfl
theorem en_173 {l1 : Int32} {h : sm_H} : xc 173 [.ref 169, .int l1] h = xe 80 173 0 [.ref 169, .int l1, .null] [] h := rfl
theorem en_174  {h : sm_H} : xc 174 [.ref 169] h = xe 81 174 0 [.ref 169] [] h := rfl
theorem en_175  {h : sm_H} : xc 175 [.ref 169] h = xe 4 175 0 [.ref 169] [] h := rfl
theorem en_176 {l1 : Int32} {h : sm_H} : xc 176 [.ref 169, .int l1] h = xe 82 176 0 [.ref 169, .int l1, .null] [] h := rfl
theorem en_177 {l1 : Int32} {h : sm_H} : xc 177 [.ref 169, .int l1] h = xe 1 177 0 [.ref 169, .int l1] [] h := rfl
theorem en_178 {l1 : Int64} {h : sm_H} : xc 178 [.ref 169, .long l1] h = xe 2 178 0 [.ref 169, .long l1, .null] [] h := rfl
theorem en_179 {l1 : Int64} {h : sm_H} : xc 179 [.ref 169, .long l1] h = xe 2 179 0 [.ref 169, .long l1, .null] [] h := rfl
theorem en_180 {l1 : Int64} {h : sm_H} : xc 180 [.ref 169, .long l1] h = xe 2 180 0 [.ref 169, .long l1, .null] [] h := rfl
theorem en_181 {l1 : Int64} {l3 : Int64} {h : sm_H} : xc 181 [.ref 169, .long l1, .long l3] h = xe 3 181 0 [.ref 169, .long l1, .null, .long l3, .null] [] h := rfl
theorem en_182 {l0 : Int32} {h : sm_H} : xc 182 [.int l0] h = xe 1 182 0 [.int l0, .null, .null] [] h := rfl
theorem en_183 {l1 : Int32} {h : sm_H} : xc 183 [.ref 169, .int l1] h = xe 1 183 0 [.ref 169, .int l1] [] h := rfl
theorem en_184 {l1 : Int32} {l2 : Int32} {h : sm_H} : xc 184 [.ref 169, .int l1, .int l2] h = xe 1 184 0 [.ref 169, .int l1, .int l2] [] h := rfl
theorem en_185 {l1 : Int32} {h : sm_H} : xc 185 [.ref 169, .int l1] h = xe 1 185 0 [.ref 169, .int l1] [] h := rfl
theorem en_186 {l0 : Int32} {l1 : Int32} {l2 : Int32} {h : sm_H} : xc 186 [.int l0, .int l1, .int l2] h = xe 1 186 0 [.int l0, .int l1, .int l2, .null, .null] [] h := rfl
theorem en_187 {l1 : Int32} {l2 : Int32} {l3 : Int32} {l4 : Int32} {l5 : Int32} {l6 : Int32} {h : sm_H} : xc 187 [.ref 169, .int l1, .int l2, .int l3, .int l4, .int l5, .int l6] h = xe 2 187 0 [.ref 169, .int l1, .int l2, .int l3, .int l4, .int l5, .int l6, .null, .null, .null] [] h := rfl
theorem en_188 {l1 : Int32} {l2 : Int32} {l3 : Int32} {l4 : Int32} {l5 : Int32} {h : sm_H} : xc 188 [.ref 169, .int l1, .int l2, .int l3, .int l4, .int l5] h = xe 3 188 0 [.ref 169, .int l1, .int l2, .int l3, .int l4, .int l5] [] h := rfl
theorem en_189 {l1 : Int32} {l2 : Int32} {l3 : Int32} {l4 : Int32} {l5 : Int32} {h : sm_H} : xc 189 [.ref 169, .int l1, .int l2, .int l3, .int l4, .int l5] h = xe 3 189 0 [.ref 169, .int l1, .int l2, .int l3, .int l4, .int l5, .null] [] h := rfl
theorem en_190 {l1 : Int32} {l2 : Int32} {l3 : Int32} {l4 : Int32} {l5 : Int32} {h : sm_H} : xc 190 [.ref 169, .int l1, .int l2, .int l3, .int l4, .int l5] h = xe 4 190 0 [.ref 169, .int l1, .int l2, .int l3, .int l4, .int l5, .null] [] h := rfl
theorem en_191 {l1 : Int64} {l3 : Int64} {h : sm_H} : xc 191 [.ref 169, .long l1, .long l3] h = xe 5 191 0 [.ref 169, .long l1, .null, .long l3, .null, .null] [] h := rfl
theorem en_192 {l1 : Int32} {l2 : Int32} {h : sm_H} : xc 192 [.ref 169, .int l1, .int l2] h = xe 4 192 0 [.ref 169, .int l1, .int l2, .null] [] h := rfl
theorem en_193 {l1 : Int32} {l2 : Int32} {h : sm_H} : xc 193 [.ref 169, .int l1, .int l2] h = xe 3 193 0 [.ref 169, .int l1, .int l2] [] h := rfl
theorem en_194 {l1 : Int32} {l2 : Int32} {h : sm_H} : xc 194 [.ref 169, .int l1, .int l2] h = xe 3 194 0 [.ref 169, .int l1, .int l2] [] h := rfl
theorem en_195 {l1 : Int32} {l2 : Int32} {h : sm_H} : xc 195 [.ref 169, .int l1, .int l2] h = xe 6 195 0 [.ref 169, .int l1, .int l2] [] h := rfl
theorem en_196 {l1 : Int32} {l2 : Int32} {h : sm_H} : xc 196 [.ref 169, .int l1, .int l2] h = xe 5 196 0 [.ref 169, .int l1, .int l2] [] h := rfl
theorem en_197  {h : sm_H} : xc 197 [.ref 169] h = xe 1 197 0 [.ref 169, .null] [] h := rfl
theorem en_198  {h : sm_H} : xc 198 [.ref 169] h = xe 1 198 0 [.ref 169, .null] [] h := rfl
theorem en_199  {h : sm_H} : xc 199 [.ref 169] h = xe 1 199 0 [.ref 169, .null] [] h := rfl
theorem en_200 {l1 : Int32} {l2 : Int32} {h : sm_H} : xc 200 [.ref 169, .int l1, .int l2] h = xe 5 200 0 [.ref 169, .int l1, .int l2] [] h := rfl
theorem en_201 {l1 : Int64} {l3 : Int64} {l5 : Int64} {h : sm_H} : xc 201 [.ref 169, .long l1, .long l3, .long l5] h = xe 4 201 0 [.ref 169, .long l1, .null, .long l3, .null, .long l5, .null, .null, .null] [] h := rfl
theorem en_202 {l1 : Int32} {l2 : Int32} {l3 : Int32} {h : sm_H} : xc 202 [.ref 169, .int l1, .int l2, .int l3] h = xe 1 202 0 [.ref 169, .int l1, .int l2, .int l3] [] h := rfl
theorem en_203 {l1 : Int64} {h : sm_H} : xc 203 [.ref 169, .long l1] h = xe 3 203 0 [.ref 169, .long l1, .null] [] h := rfl
theorem en_204 {l1 : Int32} {h : sm_H} : xc 204 [.ref 169, .int l1] h = xe 1 204 0 [.ref 169, .int l1] [] h := rfl
theorem en_205  {h : sm_H} : xc 205 [.ref 169] h = xe 1 205 0 [.ref 169, .null] [] h := rfl
theorem en_206 {l1 : Int32} {l2 : Int32} {h : sm_H} : xc 206 [.ref 169, .int l1, .int l2] h = xe 6 206 0 [.ref 169, .int l1, .int l2, .null] [] h := rfl
theorem en_207 {l1 : Int32} {l2 : Int32} {l3 : Int32} {h : sm_H} : xc 207 [.ref 169, .int l1, .int l2, .int l3] h = xe 5 207 0 [.ref 169, .int l1, .int l2, .int l3, .null] [] h := rfl
theorem en_208 {l1 : Int32} {h : sm_H} : xc 208 [.ref 169, .int l1] h = xe 4 208 0 [.ref 169, .int l1, .null] [] h := rfl
theorem en_209 {l1 : Int32} {h : sm_H} : xc 209 [.ref 169, .int l1] h = xe 3 209 0 [.ref 169, .int l1] [] h := rfl
theorem en_210 {l1 : Int32} {h : sm_H} : xc 210 [.ref 169, .int l1] h = xe 2 210 0 [.ref 169, .int l1, .null] [] h := rfl
theorem en_211 {l1 : Int32} {h : sm_H} : xc 211 [.ref 169, .int l1] h = xe 2 211 0 [.ref 169, .int l1, .null] [] h := rfl
theorem en_212 {l1 : Int64} {h : sm_H} : xc 212 [.ref 169, .long l1] h = xe 6 212 0 [.ref 169, .long l1, .null] [] h := rfl
theorem en_213 {l1 : Int32} {h : sm_H} : xc 213 [.ref 169, .int l1] h = xe 6 213 0 [.ref 169, .int l1] [] h := rfl
theorem en_214 {l1 : Int32} {h : sm_H} : xc 214 [.ref 169, .int l1] h = xe 7 214 0 [.ref 169, .int l1, .null] [] h := rfl
theorem en_215 {l1 : Int32} {h : sm_H} : xc 215 [.ref 169, .int l1] h = xe 2 215 0 [.ref 169, .int l1] [] h := rfl
theorem en_216  {h : sm_H} : xc 216 [.ref 169] h = xe 1 216 0 [.ref 169, .null, .null] [] h := rfl
theorem en_217 {l1 : Int32} {l2 : Int32} {h : sm_H} : xc 217 [.ref 169, .int l1, .int l2] h = xe 8 217 0 [.ref 169, .int l1, .int l2, .null, .null, .null, .null] [] h := rfl
theorem en_218 {l1 : Int32} {h : sm_H} : xc 218 [.ref 169, .int l1] h = xe 8 218 0 [.ref 169, .int l1, .null, .null] [] h := rfl
theorem en_219 {l1 : Int32} {h : sm_H} : xc 219 [.ref 169, .int l1] h = xe 1 219 0 [.ref 169, .int l1] [] h := rfl
theorem en_220  {h : sm_H} : xc 220 [.ref 169] h = xe 2 220 0 [.ref 169, .null, .null] [] h := rfl
theorem en_221 {l1 : Int32} {l2 : Int32} {h : sm_H} : xc 221 [.ref 169, .int l1, .int l2] h = xe 7 221 0 [.ref 169, .int l1, .int l2, .null, .null, .null] [] h := rfl
theorem en_222 {l0 : Int32} {l1 : Int32} {l2 : Int32} {l3 : Int32} {h : sm_H} : xc 222 [.int l0, .int l1, .int l2, .int l3] h = xe 1 222 0 [.int l0, .int l1, .int l2, .int l3] [] h := rfl
theorem en_223 {l1 : Int32} {h : sm_H} : xc 223 [.ref 169, .int l1] h = xe 1 223 0 [.ref 169, .int l1] [] h := rfl
theorem en_224 {l1 : Int32} {h : sm_H} : xc 224 [.ref 169, .int l1] h = xe 1 224 0 [.ref 169, .int l1, .null, .null] [] h := rfl
theorem en_225 {l1 : Int32} {l2 : Int32} {l3 : Int32} {h : sm_H} : xc 225 [.ref 169, .int l1, .int l2, .int l3] h = xe 5 225 0 [.ref 169, .int l1, .int l2, .int l3, .null, .null, .null, .null, .null, .null, .null, .null, .null] [] h := rfl
theorem en_226 {l0 : Int32} {h : sm_H} : xc 226 [.int l0] h = xe 1 226 0 [.int l0] [] h := rfl
theorem en_227 {l1 : Int32} {l2 : Int32} {h : sm_H} : xc 227 [.ref 169, .int l1, .int l2] h = xe 2 227 0 [.ref 169, .int l1, .int l2] [] h := rfl
theorem en_228 {l1 : Int32} {l2 : Int32} {l3 : Int32} {h : sm_H} : xc 228 [.ref 169, .int l1, .int l2, .int l3] h = xe 3 228 0 [.ref 169, .int l1, .int l2, .int l3, .null] [] h := rfl
theorem en_229 {l1 : Int32} {l2 : Int32} {l3 : Int32} {h : sm_H} : xc 229 [.ref 169, .int l1, .int l2, .int l3] h = xe 2 229 0 [.ref 169, .int l1, .int l2, .int l3] [] h := rfl
theorem en_230  {h : sm_H} : xc 230 [.ref 169] h = xe 1 230 0 [.ref 169, .null, .null] [] h := rfl
theorem en_231 {l1 : Int32} {l2 : Int32} {h : sm_H} : xc 231 [.ref 169, .int l1, .int l2] h = xe 4 231 0 [.ref 169, .int l1, .int l2, .null, .null, .null, .null] [] h := rfl
theorem en_232 {l1 : Int32} {l2 : Int32} {l3 : Int32} {h : sm_H} : xc 232 [.ref 169, .int l1, .int l2, .int l3] h = xe 6 232 0 [.ref 169, .int l1, .int l2, .int l3] [] h := rfl
theorem en_233 {l1 : Int32} {l2 : Int32} {h : sm_H} : xc 233 [.ref 169, .int l1, .int l2] h = xe 7 233 0 [.ref 169, .int l1, .int l2] [] h := rfl
theorem en_234 {l1 : Int32} {h : sm_H} : xc 234 [.ref 169, .int l1] h = xe 4 234 0 [.ref 169, .int l1, .null, .null, .null, .null] [] h := rfl
theorem en_235 {l1 : Int32} {l2 : Int32} {h : sm_H} : xc 235 [.ref 169, .int l1, .int l2] h = xe 8 235 0 [.ref 169, .int l1, .int l2] [] h := rfl
theorem en_236 {l1 : Int32} {l2 : Int32} {h : sm_H} : xc 236 [.ref 169, .int l1, .int l2] h = xe 3 236 0 [.ref 169, .int l1, .int l2] [] h := rfl
theorem en_237 {l1 : Int32} {l2 : Int32} {h : sm_H} : xc 237 [.ref 169, .int l1, .int l2] h = xe 8 237 0 [.ref 169, .int l1, .int l2] [] h := rfl
theorem en_238 {l1 : Int32} {l2 : Int32} {l3 : Int32} {h : sm_H} : xc 238 [.ref 169, .int l1, .int l2, .int l3] h = xe 9 238 0 [.ref 169, .int l1, .int l2, .int l3, .null] [] h := rfl
theorem en_239 {l1 : Int32} {l2 : Int32} {h : sm_H} : xc 239 [.ref 169, .int l1, .int l2] h = xe 9 239 0 [.ref 169, .int l1, .int l2] [] h := rfl
theorem en_240 {l1 : Int32} {h : sm_H} : xc 240 [.ref 169, .int l1] h = xe 6 240 0 [.ref 169, .int l1, .null, .null] [] h := rfl
theorem en_241 {l1 : Int32} {l2 : Int32} {l3 : Int32} {h : sm_H} : xc 241 [.ref 169, .int l1, .int l2, .int l3] h = xe 6 241 0 [.ref 169, .int l1, .int l2, .int l3, .null, .null, .null] [] h := rfl
theorem en_242 {l1 : Int32} {l2 : Int32} {h : sm_H} : xc 242 [.ref 169, .int l1, .int l2] h = xe 8 242 0 [.ref 169, .int l1, .int l2, .null, .null] [] h := rfl
theorem en_243 {l1 : Int32} {l2 : Int32} {h : sm_H} : xc 243 [.ref 169, .int l1, .int l2] h = xe 7 243 0 [.ref 169, .int l1, .int l2, .null] [] h := rfl
theorem en_244 {l1 : Int32} {l2 : Int32} {h : sm_H} : xc 244 [.ref 169, .int l1, .int l2] h = xe 8 244 0 [.ref 169, .int l1, .int l2, .null, .null, .null, .null] [] h := rfl
theorem en_245 {l1 : Int32} {h : sm_H} : xc 245 [.ref 169, .int l1] h = xe 1 245 0 [.ref 169, .int l1] [] h := rfl
theorem en_246 {l1 : Int32} {l2 : Int32} {h : sm_H} : xc 246 [.ref 169, .int l1, .int l2] h = xe 7 246 0 [.ref 169, .int l1, .int l2, .null] [] h := rfl
theorem en_247  {h : sm_H} : xc 247 [.ref 169] h = xe 8 247 0 [.ref 169, .null, .null] [] h := rfl
theorem en_248  {h : sm_H} : xc 248 [.ref 169] h = xe 9 248 0 [.ref 169] [] h := rfl
theorem en_249 {l1 : Int32} {h : sm_H} : xc 249 [.ref 169, .int l1] h = xe 8 249 0 [.ref 169, .int l1, .null, .null] [] h := rfl
theorem en_250  {h : sm_H} : xc 250 [.ref 169] h = xe 8 250 0 [.ref 169, .null] [] h := rfl
theorem en_251  {h : sm_H} : xc 251 [.ref 169] h = xe 9 251 0 [.ref 169, .null, .null, .null, .null] [] h := rfl
theorem en_252 {l1 : Int32} {h : sm_H} : xc 252 [.ref 169, .int l1] h = xe 6 252 0 [.ref 169, .int l1] [] h := rfl
theorem en_253 {l1 : Int32} {h : sm_H} : xc 253 [.ref 169, .int l1] h = xe 7 253 0 [.ref 169, .int l1] [] h := rfl
theorem en_254 {l1 : Int32} {l2 : Int32} {h : sm_H} : xc 254 [.ref 169, .int l1, .int l2] h = xe 7 254 0 [.ref 169, .int l1, .int l2, .null] [] h := rfl
theorem en_255 {l1 : Int32} {h : sm_H} : xc 255 [.ref 169, .int l1] h = xe 6 255 0 [.ref 169, .int l1] [] h := rfl
theorem en_256 {l1 : Int32} {h : sm_H} : xc 256 [.ref 169, .int l1] h = xe 6 256 0 [.ref 169, .int l1, .null, .null, .null] [] h := rfl
theorem en_257 {l1 : Int32} {l2 : Int32} {h : sm_H} : xc 257 [.ref 169, .int l1, .int l2] h = xe 8 257 0 [.ref 169, .int l1, .int l2, .null, .null, .null, .null, .null] [] h := rfl
theorem en_258 {l1 : Int32} {l2 : Int32} {h : sm_H} : xc 258 [.ref 169, .int l1, .int l2] h = xe 9 258 0 [.ref 169, .int l1, .int l2] [] h := rfl
theorem en_259 {l1 : Int32} {l2 : Int32} {h : sm_H} : xc 259 [.ref 169, .int l1, .int l2] h = xe 9 259 0 [.ref 169, .int l1, .int l2] [] h := rfl
theorem en_260 {l1 : Int32} {l2 : Int32} {h : sm_H} : xc 260 [.ref 169, .int l1, .int l2] h = xe 3 260 0 [.ref 169, .int l1, .int l2, .null, .null, .null, .null] [] h := rfl
theorem en_261 {l1 : Int32} {l2 : Int32} {l3 : Int32} {l4 : Int32} {h : sm_H} : xc 261 [.ref 169, .int l1, .int l2, .int l3, .int l4] h = xe 4 261 0 [.ref 169, .int l1, .int l2, .int l3, .int l4, .null] [] h := rfl
theorem en_262 {l1 : Int32} {l2 : Int32} {l3 : Int32} {h : sm_H} : xc 262 [.ref 169, .int l1, .int l2, .int l3] h = xe 5 262 0 [.ref 169, .int l1, .int l2, .int l3, .null, .null] [] h := rfl
theorem en_263 {l1 : Int32} {l2 : Int32} {h : sm_H} : xc 263 [.ref 169, .int l1, .int l2] h = xe 6 263 0 [.ref 169, .int l1, .int l2, .null, .null, .null] [] h := rfl
theorem en_264 {l1 : Int32} {l2 : Int32} {h : sm_H} : xc 264 [.ref 169, .int l1, .int l2] h = xe 6 264 0 [.ref 169, .int l1, .int l2, .null, .null, .null] [] h := rfl
theorem en_265 {l1 : Int32} {l2 : Int32} {h : sm_H} : xc 265 [.ref 169, .int l1, .int l2] h = xe 6 265 0 [.ref 169, .int l1, .int l2, .null, .null, .null, .null, .null, .null, .null] [] h := rfl
theorem en_266 {l0 : Int32} {h : sm_H} : xc 266 [.int l0] h = xe 1 266 0 [.int l0, .null, .null, .null] [] h := rfl
theorem en_267 {l0 : Int64} {l2 : Int64} {h : sm_H} : xc 267 [.long l0, .long l2] h = xe (sm_rk 267 [.long l0, .long l2]) 267 0 [.long l0, .null, .long l2, .null] [] h := rfl
theorem en_268 {l1 : Int32} {h : sm_H} : xc 268 [.ref 169, .int l1] h = xe 2 268 0 [.ref 169, .int l1, .null, .null, .null, .null] [] h := rfl
theorem en_269 {l1 : Int32} {l2 : Int32} {l3 : Int32} {h : sm_H} : xc 269 [.ref 169, .int l1, .int l2, .int l3] h = xe 301 269 0 [.ref 169, .int l1, .int l2, .int l3, .null, .null, .null, .null, .null] [] h := rfl
theorem en_270 {l1 : Int32} {h : sm_H} : xc 270 [.ref 169, .int l1] h = xe 9 270 0 [.ref 169, .int l1, .null, .null, .null, .null, .null] [] h := rfl
theorem en_271 {l0 : Int64} {l2 : Int32} {h : sm_H} : xc 271 [.long l0, .int l2] h = xe 1 271 0 [.long l0, .null, .int l2] [] h := rfl
theorem en_272 {l1 : Int32} {l2 : Int32} {l3 : Int32} {h : sm_H} : xc 272 [.ref 169, .int l1, .int l2, .int l3] h = xe 2 272 0 [.ref 169, .int l1, .int l2, .int l3, .null] [] h := rfl
theorem en_273 {l1 : Int32} {l2 : Int32} {l3 : Int64} {h : sm_H} : xc 273 [.ref 169, .int l1, .int l2, .long l3] h = xe 3 273 0 [.ref 169, .int l1, .int l2, .long l3, .null, .null] [] h := rfl
theorem en_274 {l1 : Int32} {l2 : Int32} {l3 : Int32} {h : sm_H} : xc 274 [.ref 169, .int l1, .int l2, .int l3] h = xe 9 274 0 [.ref 169, .int l1, .int l2, .int l3, .null, .null, .null, .null] [] h := rfl
theorem en_275 {l1 : Int32} {h : sm_H} : xc 275 [.ref 169, .int l1] h = xe 2 275 0 [.ref 169, .int l1, .null] [] h := rfl
theorem en_276 {l1 : Int32} {h : sm_H} : xc 276 [.ref 169, .int l1] h = xe 2 276 0 [.ref 169, .int l1, .null] [] h := rfl
theorem en_277  {h : sm_H} : xc 277 [.ref 169] h = xe 1 277 0 [.ref 169, .null, .null] [] h := rfl
theorem en_278  {h : sm_H} : xc 278 [.ref 169] h = xe 2 278 0 [.ref 169, .null, .null] [] h := rfl
theorem en_279 {l1 : Int32} {h : sm_H} : xc 279 [.ref 169, .int l1] h = xe 3 279 0 [.ref 169, .int l1] [] h := rfl
theorem en_280 {l0 : Int32} {h : sm_H} : xc 280 [.int l0] h = xe 1 280 0 [.int l0] [] h := rfl
theorem en_281 {l0 : Int64} {h : sm_H} : xc 281 [.long l0] h = xe 1 281 0 [.long l0, .null] [] h := rfl
theorem en_282 {l0 : Int32} {l1 : Int32} {h : sm_H} : xc 282 [.int l0, .int l1] h = xe 1 282 0 [.int l0, .int l1] [] h := rfl
theorem en_283 {l0 : Int64} {l2 : Int64} {h : sm_H} : xc 283 [.long l0, .long l2] h = xe 1 283 0 [.long l0, .null, .long l2, .null] [] h := rfl
theorem en_284 {l0 : Int32} {l1 : Int32} {h : sm_H} : xc 284 [.int l0, .int l1] h = xe 1 284 0 [.int l0, .int l1] [] h := rfl
theorem en_285 {l0 : Int64} {l2 : Int64} {h : sm_H} : xc 285 [.long l0, .long l2] h = xe 1 285 0 [.long l0, .null, .long l2, .null] [] h := rfl
theorem en_286 {a0 : Nat} {l1 : Int32} {h : sm_H} : xc 286 [.ref a0, .int l1] h = xe 1 286 0 [.ref a0, .int l1, .null, .null] [] h := rfl
theorem en_287 {a0 : Nat} {l1 : Int64} {h : sm_H} : xc 287 [.ref a0, .long l1] h = xe 1 287 0 [.ref a0, .long l1, .null, .null, .null] [] h := rfl
