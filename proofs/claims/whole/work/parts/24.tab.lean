/-! ScriptLedger$Machine.doBuiltin()V -/
theorem jd_43_0 : decode prog_4_method_10_code 0 = .ok (.aload_n 0, 1) := by decide +kernel
theorem jd_43_1 : decode prog_4_method_10_code 1 = .ok (.getfield 21, 3) := by decide +kernel
theorem jd_43_4 : decode prog_4_method_10_code 4 = .ok (.getfield 137, 3) := by decide +kernel
theorem jd_43_7 : decode prog_4_method_10_code 7 = .ok (.aload_n 0, 1) := by decide +kernel
theorem jd_43_8 : decode prog_4_method_10_code 8 = .ok (.getfield 125, 3) := by decide +kernel
theorem jd_43_11 : decode prog_4_method_10_code 11 = .ok (.iaload, 1) := by decide +kernel
theorem jd_43_12 : decode prog_4_method_10_code 12 = .ok (.istore_n 1, 1) := by decide +kernel
theorem jd_43_13 : decode prog_4_method_10_code 13 = .ok (.aload_n 0, 1) := by decide +kernel
theorem jd_43_14 : decode prog_4_method_10_code 14 = .ok (.getfield 21, 3) := by decide +kernel
theorem jd_43_17 : decode prog_4_method_10_code 17 = .ok (.getfield 140, 3) := by decide +kernel
theorem jd_43_20 : decode prog_4_method_10_code 20 = .ok (.aload_n 0, 1) := by decide +kernel
theorem jd_43_21 : decode prog_4_method_10_code 21 = .ok (.getfield 125, 3) := by decide +kernel
theorem jd_43_24 : decode prog_4_method_10_code 24 = .ok (.iaload, 1) := by decide +kernel
theorem jd_43_25 : decode prog_4_method_10_code 25 = .ok (.istore_n 2, 1) := by decide +kernel
theorem jd_43_26 : decode prog_4_method_10_code 26 = .ok (.aload_n 0, 1) := by decide +kernel
theorem jd_43_27 : decode prog_4_method_10_code 27 = .ok (.getstatic 150, 3) := by decide +kernel
theorem jd_43_30 : decode prog_4_method_10_code 30 = .ok (.iload_n 1, 1) := by decide +kernel
theorem jd_43_31 : decode prog_4_method_10_code 31 = .ok (.iaload, 1) := by decide +kernel
theorem jd_43_32 : decode prog_4_method_10_code 32 = .ok (.invokevirtual 96, 3) := by decide +kernel
theorem jd_43_35 : decode prog_4_method_10_code 35 = .ok (.ifCond .ne 4, 3) := by decide +kernel
theorem jd_43_38 : decode prog_4_method_10_code 38 = .ok (.return_, 1) := by decide +kernel
theorem jd_43_39 : decode prog_4_method_10_code 39 = .ok (.aload_n 0, 1) := by decide +kernel
theorem jd_43_40 : decode prog_4_method_10_code 40 = .ok (.getfield 21, 3) := by decide +kernel
theorem jd_43_43 : decode prog_4_method_10_code 43 = .ok (.iload_n 2, 1) := by decide +kernel
theorem jd_43_44 : decode prog_4_method_10_code 44 = .ok (.iconst 0, 1) := by decide +kernel
theorem jd_43_45 : decode prog_4_method_10_code 45 = .ok (.invokevirtual 109, 3) := by decide +kernel
theorem jd_43_48 : decode prog_4_method_10_code 48 = .ok (.istore_n 3, 1) := by decide +kernel
theorem jd_43_49 : decode prog_4_method_10_code 49 = .ok (.iload_n 1, 1) := by decide +kernel
theorem jd_43_50 : decode prog_4_method_10_code 50 = .ok (.iconst 5, 1) := by decide +kernel
theorem jd_43_51 : decode prog_4_method_10_code 51 = .ok (.if_icmp .gt 21, 3) := by decide +kernel
theorem jd_43_54 : decode prog_4_method_10_code 54 = .ok (.aload_n 0, 1) := by decide +kernel
theorem jd_43_55 : decode prog_4_method_10_code 55 = .ok (.iload_n 1, 1) := by decide +kernel
theorem jd_43_56 : decode prog_4_method_10_code 56 = .ok (.aload_n 0, 1) := by decide +kernel
theorem jd_43_57 : decode prog_4_method_10_code 57 = .ok (.getfield 21, 3) := by decide +kernel
theorem jd_43_60 : decode prog_4_method_10_code 60 = .ok (.iload_n 2, 1) := by decide +kernel
theorem jd_43_61 : decode prog_4_method_10_code 61 = .ok (.iconst 1, 1) := by decide +kernel
theorem jd_43_62 : decode prog_4_method_10_code 62 = .ok (.invokevirtual 109, 3) := by decide +kernel
theorem jd_43_65 : decode prog_4_method_10_code 65 = .ok (.iload_n 3, 1) := by decide +kernel
theorem jd_43_66 : decode prog_4_method_10_code 66 = .ok (.invokevirtual 153, 3) := by decide +kernel
theorem jd_43_69 : decode prog_4_method_10_code 69 = .ok (.goto 64, 3) := by decide +kernel
theorem jd_43_72 : decode prog_4_method_10_code 72 = .ok (.iload_n 1, 1) := by decide +kernel
theorem jd_43_73 : decode prog_4_method_10_code 73 = .ok (.bipush 6, 2) := by decide +kernel
theorem jd_43_75 : decode prog_4_method_10_code 75 = .ok (.if_icmp .ne 29, 3) := by decide +kernel
theorem jd_43_78 : decode prog_4_method_10_code 78 = .ok (.aload_n 0, 1) := by decide +kernel
theorem jd_43_79 : decode prog_4_method_10_code 79 = .ok (.aload_n 0, 1) := by decide +kernel
theorem jd_43_80 : decode prog_4_method_10_code 80 = .ok (.getfield 21, 3) := by decide +kernel
theorem jd_43_83 : decode prog_4_method_10_code 83 = .ok (.iload_n 2, 1) := by decide +kernel
theorem jd_43_84 : decode prog_4_method_10_code 84 = .ok (.iconst 2, 1) := by decide +kernel
theorem jd_43_85 : decode prog_4_method_10_code 85 = .ok (.invokevirtual 109, 3) := by decide +kernel
theorem jd_43_88 : decode prog_4_method_10_code 88 = .ok (.aload_n 0, 1) := by decide +kernel
theorem jd_43_89 : decode prog_4_method_10_code 89 = .ok (.getfield 21, 3) := by decide +kernel
theorem jd_43_92 : decode prog_4_method_10_code 92 = .ok (.iload_n 2, 1) := by decide +kernel
theorem jd_43_93 : decode prog_4_method_10_code 93 = .ok (.iconst 1, 1) := by decide +kernel
theorem jd_43_94 : decode prog_4_method_10_code 94 = .ok (.invokevirtual 109, 3) := by decide +kernel
theorem jd_43_97 : decode prog_4_method_10_code 97 = .ok (.iload_n 3, 1) := by decide +kernel
theorem jd_43_98 : decode prog_4_method_10_code 98 = .ok (.invokevirtual 156, 3) := by decide +kernel
theorem jd_43_101 : decode prog_4_method_10_code 101 = .ok (.goto 32, 3) := by decide +kernel
theorem jd_43_104 : decode prog_4_method_10_code 104 = .ok (.iload_n 1, 1) := by decide +kernel
theorem jd_43_105 : decode prog_4_method_10_code 105 = .ok (.bipush 7, 2) := by decide +kernel
theorem jd_43_107 : decode prog_4_method_10_code 107 = .ok (.if_icmp .ne 20, 3) := by decide +kernel
theorem jd_43_110 : decode prog_4_method_10_code 110 = .ok (.aload_n 0, 1) := by decide +kernel
theorem jd_43_111 : decode prog_4_method_10_code 111 = .ok (.aload_n 0, 1) := by decide +kernel
theorem jd_43_112 : decode prog_4_method_10_code 112 = .ok (.getfield 21, 3) := by decide +kernel
theorem jd_43_115 : decode prog_4_method_10_code 115 = .ok (.iload_n 2, 1) := by decide +kernel
theorem jd_43_116 : decode prog_4_method_10_code 116 = .ok (.iconst 1, 1) := by decide +kernel
theorem jd_43_117 : decode prog_4_method_10_code 117 = .ok (.invokevirtual 109, 3) := by decide +kernel
theorem jd_43_120 : decode prog_4_method_10_code 120 = .ok (.iload_n 3, 1) := by decide +kernel
theorem jd_43_121 : decode prog_4_method_10_code 121 = .ok (.invokevirtual 159, 3) := by decide +kernel
theorem jd_43_124 : decode prog_4_method_10_code 124 = .ok (.goto 9, 3) := by decide +kernel
theorem jd_43_127 : decode prog_4_method_10_code 127 = .ok (.aload_n 0, 1) := by decide +kernel
theorem jd_43_128 : decode prog_4_method_10_code 128 = .ok (.iload_n 1, 1) := by decide +kernel
theorem jd_43_129 : decode prog_4_method_10_code 129 = .ok (.iload_n 3, 1) := by decide +kernel
theorem jd_43_130 : decode prog_4_method_10_code 130 = .ok (.invokevirtual 162, 3) := by decide +kernel
theorem jd_43_133 : decode prog_4_method_10_code 133 = .ok (.return_, 1) := by decide +kernel
def jt_43 (pc : Nat) : jx_Sp := bif Nat.ble pc 62 then (bif Nat.ble pc 32 then (bif Nat.ble pc 17 then (bif Nat.ble pc 8 then (bif Nat.ble pc 4 then (bif Nat.ble pc 1 then (bif Nat.ble pc 0 then (bif Nat.beq pc 0 then js_al 0 1 else js_none) else (bif Nat.beq pc 1 then js_getf 2 1 else js_none)) else (bif Nat.beq pc 4 then js_getf 4 1 else js_none)) else (bif Nat.ble pc 7 then (bif Nat.beq pc 7 then js_al 0 1 else js_none) else (bif Nat.beq pc 8 then js_getf 2 9 else js_none))) else (bif Nat.ble pc 13 then (bif Nat.ble pc 12 then (bif Nat.ble pc 11 then (bif Nat.beq pc 11 then js_ald else js_none) else (bif Nat.beq pc 12 then js_is 1 1 else js_none)) else (bif Nat.beq pc 13 then js_al 0 1 else js_none)) else (bif Nat.ble pc 14 then (bif Nat.beq pc 14 then js_getf 2 1 else js_none) else (bif Nat.beq pc 17 then js_getf 4 2 else js_none)))) else (bif Nat.ble pc 26 then (bif Nat.ble pc 24 then (bif Nat.ble pc 21 then (bif Nat.ble pc 20 then (bif Nat.beq pc 20 then js_al 0 1 else js_none) else (bif Nat.beq pc 21 then js_getf 2 9 else js_none)) else (bif Nat.beq pc 24 then js_ald else js_none)) else (bif Nat.ble pc 25 then (bif Nat.beq pc 25 then js_is 2 1 else js_none) else (bif Nat.beq pc 26 then js_al 0 1 else js_none))) else (bif Nat.ble pc 30 then (bif Nat.ble pc 27 then (bif Nat.beq pc 27 then js_gets 901 else js_none) else (bif Nat.beq pc 30 then js_il 1 1 else js_none)) else (bif Nat.ble pc 31 then (bif Nat.beq pc 31 then js_ald else js_none) else (bif Nat.beq pc 32 then js_v1 2 49 else js_none))))) else (bif Nat.ble pc 49 then (bif Nat.ble pc 43 then (bif Nat.ble pc 39 then (bif Nat.ble pc 38 then (bif Nat.ble pc 35 then (bif Nat.beq pc 35 then js_ifne 39 else js_none) else (bif Nat.beq pc 38 then js_vr else js_none)) else (bif Nat.beq pc 39 then js_al 0 1 else js_none)) else (bif Nat.ble pc 40 then (bif Nat.beq pc 40 then js_getf 2 1 else js_none) else (bif Nat.beq pc 43 then js_il 2 1 else js_none))) else (bif Nat.ble pc 45 then (bif Nat.ble pc 44 then (bif Nat.beq pc 44 then js_c 0 1 else js_none) else (bif Nat.beq pc 45 then js_v2 4 66 else js_none)) else (bif Nat.ble pc 48 then (bif Nat.beq pc 48 then js_is 3 1 else js_none) else (bif Nat.beq pc 49 then js_il 1 1 else js_none)))) else (bif Nat.ble pc 56 then (bif Nat.ble pc 54 then (bif Nat.ble pc 51 then (bif Nat.ble pc 50 then (bif Nat.beq pc 50 then js_c 5 1 else js_none) else (bif Nat.beq pc 51 then js_cgt 72 else js_none)) else (bif Nat.beq pc 54 then js_al 0 1 else js_none)) else (bif Nat.ble pc 55 then (bif Nat.beq pc 55 then js_il 1 1 else js_none) else (bif Nat.beq pc 56 then js_al 0 1 else js_none))) else (bif Nat.ble pc 60 then (bif Nat.ble pc 57 then (bif Nat.beq pc 57 then js_getf 2 1 else js_none) else (bif Nat.beq pc 60 then js_il 2 1 else js_none)) else (bif Nat.ble pc 61 then (bif Nat.beq pc 61 then js_c 1 1 else js_none) else (bif Nat.beq pc 62 then js_v2 4 66 else js_none)))))) else (bif Nat.ble pc 98 then (bif Nat.ble pc 83 then (bif Nat.ble pc 73 then (bif Nat.ble pc 69 then (bif Nat.ble pc 66 then (bif Nat.ble pc 65 then (bif Nat.beq pc 65 then js_il 3 1 else js_none) else (bif Nat.beq pc 66 then js_v3 2 44 else js_none)) else (bif Nat.beq pc 69 then js_go 133 else js_none)) else (bif Nat.ble pc 72 then (bif Nat.beq pc 72 then js_il 1 1 else js_none) else (bif Nat.beq pc 73 then js_c 6 2 else js_none))) else (bif Nat.ble pc 79 then (bif Nat.ble pc 78 then (bif Nat.ble pc 75 then (bif Nat.beq pc 75 then js_cne 104 else js_none) else (bif Nat.beq pc 78 then js_al 0 1 else js_none)) else (bif Nat.beq pc 79 then js_al 0 1 else js_none)) else (bif Nat.ble pc 80 then (bif Nat.beq pc 80 then js_getf 2 1 else js_none) else (bif Nat.beq pc 83 then js_il 2 1 else js_none)))) else (bif Nat.ble pc 92 then (bif Nat.ble pc 88 then (bif Nat.ble pc 85 then (bif Nat.ble pc 84 then (bif Nat.beq pc 84 then js_c 2 1 else js_none) else (bif Nat.beq pc 85 then js_v2 4 66 else js_none)) else (bif Nat.beq pc 88 then js_al 0 1 else js_none)) else (bif Nat.ble pc 89 then (bif Nat.beq pc 89 then js_getf 2 1 else js_none) else (bif Nat.beq pc 92 then js_il 2 1 else js_none))) else (bif Nat.ble pc 94 then (bif Nat.ble pc 93 then (bif Nat.beq pc 93 then js_c 1 1 else js_none) else (bif Nat.beq pc 94 then js_v2 4 66 else js_none)) else (bif Nat.ble pc 97 then (bif Nat.beq pc 97 then js_il 3 1 else js_none) else (bif Nat.beq pc 98 then js_v3 2 46 else js_none))))) else (bif Nat.ble pc 116 then (bif Nat.ble pc 110 then (bif Nat.ble pc 105 then (bif Nat.ble pc 104 then (bif Nat.ble pc 101 then (bif Nat.beq pc 101 then js_go 133 else js_none) else (bif Nat.beq pc 104 then js_il 1 1 else js_none)) else (bif Nat.beq pc 105 then js_c 7 2 else js_none)) else (bif Nat.ble pc 107 then (bif Nat.beq pc 107 then js_cne 127 else js_none) else (bif Nat.beq pc 110 then js_al 0 1 else js_none))) else (bif Nat.ble pc 112 then (bif Nat.ble pc 111 then (bif Nat.beq pc 111 then js_al 0 1 else js_none) else (bif Nat.beq pc 112 then js_getf 2 1 else js_none)) else (bif Nat.ble pc 115 then (bif Nat.beq pc 115 then js_il 2 1 else js_none) else (bif Nat.beq pc 116 then js_c 1 1 else js_none)))) else (bif Nat.ble pc 127 then (bif Nat.ble pc 121 then (bif Nat.ble pc 120 then (bif Nat.ble pc 117 then (bif Nat.beq pc 117 then js_v2 4 66 else js_none) else (bif Nat.beq pc 120 then js_il 3 1 else js_none)) else (bif Nat.beq pc 121 then js_v2 2 47 else js_none)) else (bif Nat.ble pc 124 then (bif Nat.beq pc 124 then js_go 133 else js_none) else (bif Nat.beq pc 127 then js_al 0 1 else js_none))) else (bif Nat.ble pc 129 then (bif Nat.ble pc 128 then (bif Nat.beq pc 128 then js_il 1 1 else js_none) else (bif Nat.beq pc 129 then js_il 3 1 else js_none)) else (bif Nat.ble pc 130 then (bif Nat.beq pc 130 then js_v2 2 48 else js_none) else (bif Nat.beq pc 133 then js_vr else js_none))))))
theorem jk_43_0 : jx_Snd 43 0 (js_al 0 1) := jo_aload_n (i := 0) (w := 0) rfl jd_43_0
theorem jk_43_1 : jx_Snd 43 1 (js_getf 2 1) := jo_getf rfl jf_2_21 jd_43_1
theorem jk_43_4 : jx_Snd 43 4 (js_getf 4 1) := jo_getf rfl jf_2_137 jd_43_4
theorem jk_43_7 : jx_Snd 43 7 (js_al 0 1) := jo_aload_n (i := 0) (w := 0) rfl jd_43_7
theorem jk_43_8 : jx_Snd 43 8 (js_getf 2 9) := jo_getf rfl jf_2_125 jd_43_8
theorem jk_43_11 : jx_Snd 43 11 (js_ald) := jo_ald jd_43_11
theorem jk_43_12 : jx_Snd 43 12 (js_is 1 1) := jo_istore_n (i := 1) (w := 1) rfl (Nat.le_of_ble_eq_true rfl) jd_43_12
theorem jk_43_13 : jx_Snd 43 13 (js_al 0 1) := jo_aload_n (i := 0) (w := 0) rfl jd_43_13
theorem jk_43_14 : jx_Snd 43 14 (js_getf 2 1) := jo_getf rfl jf_2_21 jd_43_14
theorem jk_43_17 : jx_Snd 43 17 (js_getf 4 2) := jo_getf rfl jf_2_140 jd_43_17
theorem jk_43_20 : jx_Snd 43 20 (js_al 0 1) := jo_aload_n (i := 0) (w := 0) rfl jd_43_20
theorem jk_43_21 : jx_Snd 43 21 (js_getf 2 9) := jo_getf rfl jf_2_125 jd_43_21
theorem jk_43_24 : jx_Snd 43 24 (js_ald) := jo_ald jd_43_24
theorem jk_43_25 : jx_Snd 43 25 (js_is 2 1) := jo_istore_n (i := 2) (w := 2) rfl (Nat.le_of_ble_eq_true rfl) jd_43_25
theorem jk_43_26 : jx_Snd 43 26 (js_al 0 1) := jo_aload_n (i := 0) (w := 0) rfl jd_43_26
theorem jk_43_27 : jx_Snd 43 27 (js_gets 901) := jo_gets rfl (List.mem_of_getElem? (i := 1) rfl) jw_274 jd_43_27
theorem jk_43_30 : jx_Snd 43 30 (js_il 1 1) := jo_iload_n (i := 1) (w := 1) rfl jd_43_30
theorem jk_43_31 : jx_Snd 43 31 (js_ald) := jo_ald jd_43_31
theorem jk_43_32 : jx_Snd 43 32 (js_v1 2 49) := jo_v1 rfl jok_49 (Or.inl jw_241) jw_242 jw_691 rfl jd_43_32
theorem jk_43_35 : jx_Snd 43 35 (js_ifne 39) := jo_ifne (o := 4) rfl jd_43_35
theorem jk_43_38 : jx_Snd 43 38 (js_vr) := jo_vr rfl jd_43_38
theorem jk_43_39 : jx_Snd 43 39 (js_al 0 1) := jo_aload_n (i := 0) (w := 0) rfl jd_43_39
theorem jk_43_40 : jx_Snd 43 40 (js_getf 2 1) := jo_getf rfl jf_2_21 jd_43_40
theorem jk_43_43 : jx_Snd 43 43 (js_il 2 1) := jo_iload_n (i := 2) (w := 2) rfl jd_43_43
theorem jk_43_44 : jx_Snd 43 44 (js_c 0 1) := jo_iconst (z := 0) jd_43_44 rfl
theorem jk_43_45 : jx_Snd 43 45 (js_v2 4 66) := jo_v2 rfl jok_66 (Or.inl jw_244) jw_245 jw_246 rfl jd_43_45
theorem jk_43_48 : jx_Snd 43 48 (js_is 3 1) := jo_istore_n (i := 3) (w := 3) rfl (Nat.le_of_ble_eq_true rfl) jd_43_48
theorem jk_43_49 : jx_Snd 43 49 (js_il 1 1) := jo_iload_n (i := 1) (w := 1) rfl jd_43_49
theorem jk_43_50 : jx_Snd 43 50 (js_c 5 1) := jo_iconst (z := 5) jd_43_50 rfl
theorem jk_43_51 : jx_Snd 43 51 (js_cgt 72) := jo_cgt (o := 21) rfl jd_43_51
theorem jk_43_54 : jx_Snd 43 54 (js_al 0 1) := jo_aload_n (i := 0) (w := 0) rfl jd_43_54
theorem jk_43_55 : jx_Snd 43 55 (js_il 1 1) := jo_iload_n (i := 1) (w := 1) rfl jd_43_55
theorem jk_43_56 : jx_Snd 43 56 (js_al 0 1) := jo_aload_n (i := 0) (w := 0) rfl jd_43_56
theorem jk_43_57 : jx_Snd 43 57 (js_getf 2 1) := jo_getf rfl jf_2_21 jd_43_57
theorem jk_43_60 : jx_Snd 43 60 (js_il 2 1) := jo_iload_n (i := 2) (w := 2) rfl jd_43_60
theorem jk_43_61 : jx_Snd 43 61 (js_c 1 1) := jo_iconst (z := 1) jd_43_61 rfl
theorem jk_43_62 : jx_Snd 43 62 (js_v2 4 66) := jo_v2 rfl jok_66 (Or.inl jw_244) jw_245 jw_246 rfl jd_43_62
theorem jk_43_65 : jx_Snd 43 65 (js_il 3 1) := jo_iload_n (i := 3) (w := 3) rfl jd_43_65
theorem jk_43_66 : jx_Snd 43 66 (js_v3 2 44) := jo_v3 rfl jok_44 (Or.inl jw_275) jw_276 jw_699 rfl jd_43_66
theorem jk_43_69 : jx_Snd 43 69 (js_go 133) := jo_goto (o := 64) rfl jd_43_69
theorem jk_43_72 : jx_Snd 43 72 (js_il 1 1) := jo_iload_n (i := 1) (w := 1) rfl jd_43_72
theorem jk_43_73 : jx_Snd 43 73 (js_c 6 2) := jo_bipush (z := 6) jd_43_73 (by decide +kernel)
theorem jk_43_75 : jx_Snd 43 75 (js_cne 104) := jo_cne (o := 29) rfl jd_43_75
theorem jk_43_78 : jx_Snd 43 78 (js_al 0 1) := jo_aload_n (i := 0) (w := 0) rfl jd_43_78
theorem jk_43_79 : jx_Snd 43 79 (js_al 0 1) := jo_aload_n (i := 0) (w := 0) rfl jd_43_79
theorem jk_43_80 : jx_Snd 43 80 (js_getf 2 1) := jo_getf rfl jf_2_21 jd_43_80
theorem jk_43_83 : jx_Snd 43 83 (js_il 2 1) := jo_iload_n (i := 2) (w := 2) rfl jd_43_83
theorem jk_43_84 : jx_Snd 43 84 (js_c 2 1) := jo_iconst (z := 2) jd_43_84 rfl
theorem jk_43_85 : jx_Snd 43 85 (js_v2 4 66) := jo_v2 rfl jok_66 (Or.inl jw_244) jw_245 jw_246 rfl jd_43_85
theorem jk_43_88 : jx_Snd 43 88 (js_al 0 1) := jo_aload_n (i := 0) (w := 0) rfl jd_43_88
theorem jk_43_89 : jx_Snd 43 89 (js_getf 2 1) := jo_getf rfl jf_2_21 jd_43_89
theorem jk_43_92 : jx_Snd 43 92 (js_il 2 1) := jo_iload_n (i := 2) (w := 2) rfl jd_43_92
theorem jk_43_93 : jx_Snd 43 93 (js_c 1 1) := jo_iconst (z := 1) jd_43_93 rfl
theorem jk_43_94 : jx_Snd 43 94 (js_v2 4 66) := jo_v2 rfl jok_66 (Or.inl jw_244) jw_245 jw_246 rfl jd_43_94
theorem jk_43_97 : jx_Snd 43 97 (js_il 3 1) := jo_iload_n (i := 3) (w := 3) rfl jd_43_97
theorem jk_43_98 : jx_Snd 43 98 (js_v3 2 46) := jo_v3 rfl jok_46 (Or.inl jw_281) jw_282 jw_700 rfl jd_43_98
theorem jk_43_101 : jx_Snd 43 101 (js_go 133) := jo_goto (o := 32) rfl jd_43_101
theorem jk_43_104 : jx_Snd 43 104 (js_il 1 1) := jo_iload_n (i := 1) (w := 1) rfl jd_43_104
theorem jk_43_105 : jx_Snd 43 105 (js_c 7 2) := jo_bipush (z := 7) jd_43_105 (by decide +kernel)
theorem jk_43_107 : jx_Snd 43 107 (js_cne 127) := jo_cne (o := 20) rfl jd_43_107
theorem jk_43_110 : jx_Snd 43 110 (js_al 0 1) := jo_aload_n (i := 0) (w := 0) rfl jd_43_110
theorem jk_43_111 : jx_Snd 43 111 (js_al 0 1) := jo_aload_n (i := 0) (w := 0) rfl jd_43_111
theorem jk_43_112 : jx_Snd 43 112 (js_getf 2 1) := jo_getf rfl jf_2_21 jd_43_112
theorem jk_43_115 : jx_Snd 43 115 (js_il 2 1) := jo_iload_n (i := 2) (w := 2) rfl jd_43_115
theorem jk_43_116 : jx_Snd 43 116 (js_c 1 1) := jo_iconst (z := 1) jd_43_116 rfl
theorem jk_43_117 : jx_Snd 43 117 (js_v2 4 66) := jo_v2 rfl jok_66 (Or.inl jw_244) jw_245 jw_246 rfl jd_43_117
theorem jk_43_120 : jx_Snd 43 120 (js_il 3 1) := jo_iload_n (i := 3) (w := 3) rfl jd_43_120
theorem jk_43_121 : jx_Snd 43 121 (js_v2 2 47) := jo_v2 rfl jok_47 (Or.inl jw_284) jw_285 jw_701 rfl jd_43_121
theorem jk_43_124 : jx_Snd 43 124 (js_go 133) := jo_goto (o := 9) rfl jd_43_124
theorem jk_43_127 : jx_Snd 43 127 (js_al 0 1) := jo_aload_n (i := 0) (w := 0) rfl jd_43_127
theorem jk_43_128 : jx_Snd 43 128 (js_il 1 1) := jo_iload_n (i := 1) (w := 1) rfl jd_43_128
theorem jk_43_129 : jx_Snd 43 129 (js_il 3 1) := jo_iload_n (i := 3) (w := 3) rfl jd_43_129
theorem jk_43_130 : jx_Snd 43 130 (js_v2 2 48) := jo_v2 rfl jok_48 (Or.inl jw_287) jw_288 jw_702 rfl jd_43_130
theorem jk_43_133 : jx_Snd 43 133 (js_vr) := jo_vr rfl jd_43_133
theorem jk_43 : jx_So 43 jt_43 := fun pc => jo_le (jo_le (jo_le (jo_le (jo_le (jo_le (jo_le (jo_at (jk_43_0)) (jo_at (jk_43_1))) (jo_at (jk_43_4))) (jo_le (jo_at (jk_43_7)) (jo_at (jk_43_8)))) (jo_le (jo_le (jo_le (jo_at (jk_43_11)) (jo_at (jk_43_12))) (jo_at (jk_43_13))) (jo_le (jo_at (jk_43_14)) (jo_at (jk_43_17))))) (jo_le (jo_le (jo_le (jo_le (jo_at (jk_43_20)) (jo_at (jk_43_21))) (jo_at (jk_43_24))) (jo_le (jo_at (jk_43_25)) (jo_at (jk_43_26)))) (jo_le (jo_le (jo_at (jk_43_27)) (jo_at (jk_43_30))) (jo_le (jo_at (jk_43_31)) (jo_at (jk_43_32)))))) (jo_le (jo_le (jo_le (jo_le (jo_le (jo_at (jk_43_35)) (jo_at (jk_43_38))) (jo_at (jk_43_39))) (jo_le (jo_at (jk_43_40)) (jo_at (jk_43_43)))) (jo_le (jo_le (jo_at (jk_43_44)) (jo_at (jk_43_45))) (jo_le (jo_at (jk_43_48)) (jo_at (jk_43_49))))) (jo_le (jo_le (jo_le (jo_le (jo_at (jk_43_50)) (jo_at (jk_43_51))) (jo_at (jk_43_54))) (jo_le (jo_at (jk_43_55)) (jo_at (jk_43_56)))) (jo_le (jo_le (jo_at (jk_43_57)) (jo_at (jk_43_60))) (jo_le (jo_at (jk_43_61)) (jo_at (jk_43_62))))))) (jo_le (jo_le (jo_le (jo_le (jo_le (jo_le (jo_at (jk_43_65)) (jo_at (jk_43_66))) (jo_at (jk_43_69))) (jo_le (jo_at (jk_43_72)) (jo_at (jk_43_73)))) (jo_le (jo_le (jo_le (jo_at (jk_43_75)) (jo_at (jk_43_78))) (jo_at (jk_43_79))) (jo_le (jo_at (jk_43_80)) (jo_at (jk_43_83))))) (jo_le (jo_le (jo_le (jo_le (jo_at (jk_43_84)) (jo_at (jk_43_85))) (jo_at (jk_43_88))) (jo_le (jo_at (jk_43_89)) (jo_at (jk_43_92)))) (jo_le (jo_le (jo_at (jk_43_93)) (jo_at (jk_43_94))) (jo_le (jo_at (jk_43_97)) (jo_at (jk_43_98)))))) (jo_le (jo_le (jo_le (jo_le (jo_le (jo_at (jk_43_101)) (jo_at (jk_43_104))) (jo_at (jk_43_105))) (jo_le (jo_at (jk_43_107)) (jo_at (jk_43_110)))) (jo_le (jo_le (jo_at (jk_43_111)) (jo_at (jk_43_112))) (jo_le (jo_at (jk_43_115)) (jo_at (jk_43_116))))) (jo_le (jo_le (jo_le (jo_le (jo_at (jk_43_117)) (jo_at (jk_43_120))) (jo_at (jk_43_121))) (jo_le (jo_at (jk_43_124)) (jo_at (jk_43_127)))) (jo_le (jo_le (jo_at (jk_43_128)) (jo_at (jk_43_129))) (jo_le (jo_at (jk_43_130)) (jo_at (jk_43_133)))))))
theorem ji_43 {l : Launch} {D : va_G} {cA : ClassId} {ρ : Nat → Nat} {Λ : List jx_Lc} {d : Nat} {Q : Option Value → jx_St → Prop} {σ : jx_St} {z0 : Nat} (h : jt_43 0 Λ jx_tb0 (jx_rn Λ jx_tb0 jt_43 (fun k' as σ K => jx_C l D cA ρ Λ d k' as σ K) Q (jx_J l D cA ρ Λ (jx_A ρ Λ) jx_tb0 (d + 1) 43 Q) [] 400) (fun k' as σ K => jx_C l D cA ρ Λ d k' as σ K) Q 0 [(0, .ref z0)] [] σ) : jx_C l D cA ρ Λ (d + 1) 43 [.ref z0] σ Q := jx_in jk_43 400 [] rfl (Nat.le_of_ble_eq_true rfl) h
/-! ScriptLedger$Machine.reckon(III)V -/
theorem jd_44_0 : decode prog_4_method_11_code 0 = .ok (.aload_n 0, 1) := by decide +kernel
theorem jd_44_1 : decode prog_4_method_11_code 1 = .ok (.getfield 21, 3) := by decide +kernel
theorem jd_44_4 : decode prog_4_method_11_code 4 = .ok (.getfield 134, 3) := by decide +kernel
theorem jd_44_7 : decode prog_4_method_11_code 7 = .ok (.iload_n 2, 1) := by decide +kernel
theorem jd_44_8 : decode prog_4_method_11_code 8 = .ok (.iaload, 1) := by decide +kernel
theorem jd_44_9 : decode prog_4_method_11_code 9 = .ok (.ifCond .ne 15, 3) := by decide +kernel
theorem jd_44_12 : decode prog_4_method_11_code 12 = .ok (.aload_n 0, 1) := by decide +kernel
theorem jd_44_13 : decode prog_4_method_11_code 13 = .ok (.getfield 21, 3) := by decide +kernel
theorem jd_44_16 : decode prog_4_method_11_code 16 = .ok (.getfield 134, 3) := by decide +kernel
theorem jd_44_19 : decode prog_4_method_11_code 19 = .ok (.iload_n 3, 1) := by decide +kernel
theorem jd_44_20 : decode prog_4_method_11_code 20 = .ok (.iaload, 1) := by decide +kernel
theorem jd_44_21 : decode prog_4_method_11_code 21 = .ok (.ifCond .eq 9, 3) := by decide +kernel
theorem jd_44_24 : decode prog_4_method_11_code 24 = .ok (.aload_n 0, 1) := by decide +kernel
theorem jd_44_25 : decode prog_4_method_11_code 25 = .ok (.iconst 2, 1) := by decide +kernel
theorem jd_44_26 : decode prog_4_method_11_code 26 = .ok (.invokevirtual 74, 3) := by decide +kernel
theorem jd_44_29 : decode prog_4_method_11_code 29 = .ok (.return_, 1) := by decide +kernel
theorem jd_44_30 : decode prog_4_method_11_code 30 = .ok (.aload_n 0, 1) := by decide +kernel
theorem jd_44_31 : decode prog_4_method_11_code 31 = .ok (.getfield 21, 3) := by decide +kernel
theorem jd_44_34 : decode prog_4_method_11_code 34 = .ok (.getfield 137, 3) := by decide +kernel
theorem jd_44_37 : decode prog_4_method_11_code 37 = .ok (.iload_n 2, 1) := by decide +kernel
theorem jd_44_38 : decode prog_4_method_11_code 38 = .ok (.iaload, 1) := by decide +kernel
theorem jd_44_39 : decode prog_4_method_11_code 39 = .ok (.istore 4, 2) := by decide +kernel
theorem jd_44_41 : decode prog_4_method_11_code 41 = .ok (.aload_n 0, 1) := by decide +kernel
theorem jd_44_42 : decode prog_4_method_11_code 42 = .ok (.getfield 21, 3) := by decide +kernel
theorem jd_44_45 : decode prog_4_method_11_code 45 = .ok (.getfield 137, 3) := by decide +kernel
theorem jd_44_48 : decode prog_4_method_11_code 48 = .ok (.iload_n 3, 1) := by decide +kernel
theorem jd_44_49 : decode prog_4_method_11_code 49 = .ok (.iaload, 1) := by decide +kernel
theorem jd_44_50 : decode prog_4_method_11_code 50 = .ok (.istore 5, 2) := by decide +kernel
theorem jd_44_52 : decode prog_4_method_11_code 52 = .ok (.iload_n 1, 1) := by decide +kernel
theorem jd_44_53 : decode prog_4_method_11_code 53 = .ok (.iconst 3, 1) := by decide +kernel
theorem jd_44_54 : decode prog_4_method_11_code 54 = .ok (.if_icmp .ne 16, 3) := by decide +kernel
theorem jd_44_57 : decode prog_4_method_11_code 57 = .ok (.iload 5, 2) := by decide +kernel
theorem jd_44_59 : decode prog_4_method_11_code 59 = .ok (.ifCond .ne 11, 3) := by decide +kernel
theorem jd_44_62 : decode prog_4_method_11_code 62 = .ok (.aload_n 0, 1) := by decide +kernel
theorem jd_44_63 : decode prog_4_method_11_code 63 = .ok (.iconst 2, 1) := by decide +kernel
theorem jd_44_64 : decode prog_4_method_11_code 64 = .ok (.invokevirtual 74, 3) := by decide +kernel
theorem jd_44_67 : decode prog_4_method_11_code 67 = .ok (.goto 87, 3) := by decide +kernel
theorem jd_44_70 : decode prog_4_method_11_code 70 = .ok (.iload_n 1, 1) := by decide +kernel
theorem jd_44_71 : decode prog_4_method_11_code 71 = .ok (.iconst 4, 1) := by decide +kernel
theorem jd_44_72 : decode prog_4_method_11_code 72 = .ok (.if_icmp .ne 30, 3) := by decide +kernel
theorem jd_44_75 : decode prog_4_method_11_code 75 = .ok (.aload_n 0, 1) := by decide +kernel
theorem jd_44_76 : decode prog_4_method_11_code 76 = .ok (.aload_n 0, 1) := by decide +kernel
theorem jd_44_77 : decode prog_4_method_11_code 77 = .ok (.getfield 21, 3) := by decide +kernel
theorem jd_44_80 : decode prog_4_method_11_code 80 = .ok (.iconst 1, 1) := by decide +kernel
theorem jd_44_81 : decode prog_4_method_11_code 81 = .ok (.iload 4, 2) := by decide +kernel
theorem jd_44_83 : decode prog_4_method_11_code 83 = .ok (.iload 5, 2) := by decide +kernel
theorem jd_44_85 : decode prog_4_method_11_code 85 = .ok (.if_icmp .ne 7, 3) := by decide +kernel
theorem jd_44_88 : decode prog_4_method_11_code 88 = .ok (.iconst 1, 1) := by decide +kernel
theorem jd_44_89 : decode prog_4_method_11_code 89 = .ok (.goto 4, 3) := by decide +kernel
theorem jd_44_92 : decode prog_4_method_11_code 92 = .ok (.iconst 0, 1) := by decide +kernel
theorem jd_44_93 : decode prog_4_method_11_code 93 = .ok (.invokevirtual 55, 3) := by decide +kernel
theorem jd_44_96 : decode prog_4_method_11_code 96 = .ok (.invokevirtual 112, 3) := by decide +kernel
theorem jd_44_99 : decode prog_4_method_11_code 99 = .ok (.goto 55, 3) := by decide +kernel
theorem jd_44_102 : decode prog_4_method_11_code 102 = .ok (.iload_n 1, 1) := by decide +kernel
theorem jd_44_103 : decode prog_4_method_11_code 103 = .ok (.iconst 5, 1) := by decide +kernel
theorem jd_44_104 : decode prog_4_method_11_code 104 = .ok (.if_icmp .ne 30, 3) := by decide +kernel
theorem jd_44_107 : decode prog_4_method_11_code 107 = .ok (.aload_n 0, 1) := by decide +kernel
theorem jd_44_108 : decode prog_4_method_11_code 108 = .ok (.aload_n 0, 1) := by decide +kernel
theorem jd_44_109 : decode prog_4_method_11_code 109 = .ok (.getfield 21, 3) := by decide +kernel
theorem jd_44_112 : decode prog_4_method_11_code 112 = .ok (.iconst 1, 1) := by decide +kernel
theorem jd_44_113 : decode prog_4_method_11_code 113 = .ok (.iload 4, 2) := by decide +kernel
theorem jd_44_115 : decode prog_4_method_11_code 115 = .ok (.iload 5, 2) := by decide +kernel
theorem jd_44_117 : decode prog_4_method_11_code 117 = .ok (.if_icmp .ge 7, 3) := by decide +kernel
theorem jd_44_120 : decode prog_4_method_11_code 120 = .ok (.iconst 1, 1) := by decide +kernel
theorem jd_44_121 : decode prog_4_method_11_code 121 = .ok (.goto 4, 3) := by decide +kernel
theorem jd_44_124 : decode prog_4_method_11_code 124 = .ok (.iconst 0, 1) := by decide +kernel
theorem jd_44_125 : decode prog_4_method_11_code 125 = .ok (.invokevirtual 55, 3) := by decide +kernel
theorem jd_44_128 : decode prog_4_method_11_code 128 = .ok (.invokevirtual 112, 3) := by decide +kernel
theorem jd_44_131 : decode prog_4_method_11_code 131 = .ok (.goto 23, 3) := by decide +kernel
theorem jd_44_134 : decode prog_4_method_11_code 134 = .ok (.aload_n 0, 1) := by decide +kernel
theorem jd_44_135 : decode prog_4_method_11_code 135 = .ok (.aload_n 0, 1) := by decide +kernel
theorem jd_44_136 : decode prog_4_method_11_code 136 = .ok (.getfield 21, 3) := by decide +kernel
theorem jd_44_139 : decode prog_4_method_11_code 139 = .ok (.iconst 0, 1) := by decide +kernel
theorem jd_44_140 : decode prog_4_method_11_code 140 = .ok (.iload_n 1, 1) := by decide +kernel
theorem jd_44_141 : decode prog_4_method_11_code 141 = .ok (.iload 4, 2) := by decide +kernel
theorem jd_44_143 : decode prog_4_method_11_code 143 = .ok (.iload 5, 2) := by decide +kernel
theorem jd_44_145 : decode prog_4_method_11_code 145 = .ok (.invokestatic 165, 3) := by decide +kernel
theorem jd_44_148 : decode prog_4_method_11_code 148 = .ok (.invokevirtual 55, 3) := by decide +kernel
theorem jd_44_151 : decode prog_4_method_11_code 151 = .ok (.invokevirtual 112, 3) := by decide +kernel
theorem jd_44_154 : decode prog_4_method_11_code 154 = .ok (.return_, 1) := by decide +kernel
def jt_44 (pc : Nat) : jx_Sp := bif Nat.ble pc 72 then (bif Nat.ble pc 37 then (bif Nat.ble pc 19 then (bif Nat.ble pc 8 then (bif Nat.ble pc 4 then (bif Nat.ble pc 1 then (bif Nat.ble pc 0 then (bif Nat.beq pc 0 then js_al 0 1 else js_none) else (bif Nat.beq pc 1 then js_getf 2 1 else js_none)) else (bif Nat.beq pc 4 then js_getf 4 0 else js_none)) else (bif Nat.ble pc 7 then (bif Nat.beq pc 7 then js_il 2 1 else js_none) else (bif Nat.beq pc 8 then js_ald else js_none))) else (bif Nat.ble pc 13 then (bif Nat.ble pc 12 then (bif Nat.ble pc 9 then (bif Nat.beq pc 9 then js_ifne 24 else js_none) else (bif Nat.beq pc 12 then js_al 0 1 else js_none)) else (bif Nat.beq pc 13 then js_getf 2 1 else js_none)) else (bif Nat.ble pc 16 then (bif Nat.beq pc 16 then js_getf 4 0 else js_none) else (bif Nat.beq pc 19 then js_il 3 1 else js_none)))) else (bif Nat.ble pc 26 then (bif Nat.ble pc 24 then (bif Nat.ble pc 21 then (bif Nat.ble pc 20 then (bif Nat.beq pc 20 then js_ald else js_none) else (bif Nat.beq pc 21 then js_ifeq 30 else js_none)) else (bif Nat.beq pc 24 then js_al 0 1 else js_none)) else (bif Nat.ble pc 25 then (bif Nat.beq pc 25 then js_c 2 1 else js_none) else (bif Nat.beq pc 26 then js_v1 2 53 else js_none))) else (bif Nat.ble pc 31 then (bif Nat.ble pc 30 then (bif Nat.ble pc 29 then (bif Nat.beq pc 29 then js_vr else js_none) else (bif Nat.beq pc 30 then js_al 0 1 else js_none)) else (bif Nat.beq pc 31 then js_getf 2 1 else js_none)) else (bif Nat.ble pc 34 then (bif Nat.beq pc 34 then js_getf 4 1 else js_none) else (bif Nat.beq pc 37 then js_il 2 1 else js_none))))) else (bif Nat.ble pc 53 then (bif Nat.ble pc 45 then (bif Nat.ble pc 41 then (bif Nat.ble pc 39 then (bif Nat.ble pc 38 then (bif Nat.beq pc 38 then js_ald else js_none) else (bif Nat.beq pc 39 then js_is 4 2 else js_none)) else (bif Nat.beq pc 41 then js_al 0 1 else js_none)) else (bif Nat.ble pc 42 then (bif Nat.beq pc 42 then js_getf 2 1 else js_none) else (bif Nat.beq pc 45 then js_getf 4 1 else js_none))) else (bif Nat.ble pc 50 then (bif Nat.ble pc 49 then (bif Nat.ble pc 48 then (bif Nat.beq pc 48 then js_il 3 1 else js_none) else (bif Nat.beq pc 49 then js_ald else js_none)) else (bif Nat.beq pc 50 then js_is 5 2 else js_none)) else (bif Nat.ble pc 52 then (bif Nat.beq pc 52 then js_il 1 1 else js_none) else (bif Nat.beq pc 53 then js_c 3 1 else js_none)))) else (bif Nat.ble pc 63 then (bif Nat.ble pc 59 then (bif Nat.ble pc 57 then (bif Nat.ble pc 54 then (bif Nat.beq pc 54 then js_cne 70 else js_none) else (bif Nat.beq pc 57 then js_il 5 2 else js_none)) else (bif Nat.beq pc 59 then js_ifne 70 else js_none)) else (bif Nat.ble pc 62 then (bif Nat.beq pc 62 then js_al 0 1 else js_none) else (bif Nat.beq pc 63 then js_c 2 1 else js_none))) else (bif Nat.ble pc 70 then (bif Nat.ble pc 67 then (bif Nat.ble pc 64 then (bif Nat.beq pc 64 then js_v1 2 53 else js_none) else (bif Nat.beq pc 67 then js_go 154 else js_none)) else (bif Nat.beq pc 70 then js_il 1 1 else js_none)) else (bif Nat.ble pc 71 then (bif Nat.beq pc 71 then js_c 4 1 else js_none) else (bif Nat.beq pc 72 then js_cne 102 else js_none)))))) else (bif Nat.ble pc 112 then (bif Nat.ble pc 92 then (bif Nat.ble pc 81 then (bif Nat.ble pc 77 then (bif Nat.ble pc 76 then (bif Nat.ble pc 75 then (bif Nat.beq pc 75 then js_al 0 1 else js_none) else (bif Nat.beq pc 76 then js_al 0 1 else js_none)) else (bif Nat.beq pc 77 then js_getf 2 1 else js_none)) else (bif Nat.ble pc 80 then (bif Nat.beq pc 80 then js_c 1 1 else js_none) else (bif Nat.beq pc 81 then js_il 4 2 else js_none))) else (bif Nat.ble pc 88 then (bif Nat.ble pc 85 then (bif Nat.ble pc 83 then (bif Nat.beq pc 83 then js_il 5 2 else js_none) else (bif Nat.beq pc 85 then js_cne 92 else js_none)) else (bif Nat.beq pc 88 then js_c 1 1 else js_none)) else (bif Nat.ble pc 89 then (bif Nat.beq pc 89 then js_go 93 else js_none) else (bif Nat.beq pc 92 then js_c 0 1 else js_none)))) else (bif Nat.ble pc 103 then (bif Nat.ble pc 99 then (bif Nat.ble pc 96 then (bif Nat.ble pc 93 then (bif Nat.beq pc 93 then js_v2 4 64 else js_none) else (bif Nat.beq pc 96 then js_v1 2 52 else js_none)) else (bif Nat.beq pc 99 then js_go 154 else js_none)) else (bif Nat.ble pc 102 then (bif Nat.beq pc 102 then js_il 1 1 else js_none) else (bif Nat.beq pc 103 then js_c 5 1 else js_none))) else (bif Nat.ble pc 108 then (bif Nat.ble pc 107 then (bif Nat.ble pc 104 then (bif Nat.beq pc 104 then js_cne 134 else js_none) else (bif Nat.beq pc 107 then js_al 0 1 else js_none)) else (bif Nat.beq pc 108 then js_al 0 1 else js_none)) else (bif Nat.ble pc 109 then (bif Nat.beq pc 109 then js_getf 2 1 else js_none) else (bif Nat.beq pc 112 then js_c 1 1 else js_none))))) else (bif Nat.ble pc 134 then (bif Nat.ble pc 121 then (bif Nat.ble pc 117 then (bif Nat.ble pc 115 then (bif Nat.ble pc 113 then (bif Nat.beq pc 113 then js_il 4 2 else js_none) else (bif Nat.beq pc 115 then js_il 5 2 else js_none)) else (bif Nat.beq pc 117 then js_cge 124 else js_none)) else (bif Nat.ble pc 120 then (bif Nat.beq pc 120 then js_c 1 1 else js_none) else (bif Nat.beq pc 121 then js_go 125 else js_none))) else (bif Nat.ble pc 128 then (bif Nat.ble pc 125 then (bif Nat.ble pc 124 then (bif Nat.beq pc 124 then js_c 0 1 else js_none) else (bif Nat.beq pc 125 then js_v2 4 64 else js_none)) else (bif Nat.beq pc 128 then js_v1 2 52 else js_none)) else (bif Nat.ble pc 131 then (bif Nat.beq pc 131 then js_go 154 else js_none) else (bif Nat.beq pc 134 then js_al 0 1 else js_none)))) else (bif Nat.ble pc 141 then (bif Nat.ble pc 139 then (bif Nat.ble pc 136 then (bif Nat.ble pc 135 then (bif Nat.beq pc 135 then js_al 0 1 else js_none) else (bif Nat.beq pc 136 then js_getf 2 1 else js_none)) else (bif Nat.beq pc 139 then js_c 0 1 else js_none)) else (bif Nat.ble pc 140 then (bif Nat.beq pc 140 then js_il 1 1 else js_none) else (bif Nat.beq pc 141 then js_il 4 2 else js_none))) else (bif Nat.ble pc 148 then (bif Nat.ble pc 145 then (bif Nat.ble pc 143 then (bif Nat.beq pc 143 then js_il 5 2 else js_none) else (bif Nat.beq pc 145 then js_s3 45 else js_none)) else (bif Nat.beq pc 148 then js_v2 4 64 else js_none)) else (bif Nat.ble pc 151 then (bif Nat.beq pc 151 then js_v1 2 52 else js_none) else (bif Nat.beq pc 154 then js_vr else js_none))))))
theorem jk_44_0 : jx_Snd 44 0 (js_al 0 1) := jo_aload_n (i := 0) (w := 0) rfl jd_44_0
theorem jk_44_1 : jx_Snd 44 1 (js_getf 2 1) := jo_getf rfl jf_2_21 jd_44_1
theorem jk_44_4 : jx_Snd 44 4 (js_getf 4 0) := jo_getf rfl jf_2_134 jd_44_4
theorem jk_44_7 : jx_Snd 44 7 (js_il 2 1) := jo_iload_n (i := 2) (w := 2) rfl jd_44_7
theorem jk_44_8 : jx_Snd 44 8 (js_ald) := jo_ald jd_44_8
theorem jk_44_9 : jx_Snd 44 9 (js_ifne 24) := jo_ifne (o := 15) rfl jd_44_9
theorem jk_44_12 : jx_Snd 44 12 (js_al 0 1) := jo_aload_n (i := 0) (w := 0) rfl jd_44_12
theorem jk_44_13 : jx_Snd 44 13 (js_getf 2 1) := jo_getf rfl jf_2_21 jd_44_13
theorem jk_44_16 : jx_Snd 44 16 (js_getf 4 0) := jo_getf rfl jf_2_134 jd_44_16
theorem jk_44_19 : jx_Snd 44 19 (js_il 3 1) := jo_iload_n (i := 3) (w := 3) rfl jd_44_19
theorem jk_44_20 : jx_Snd 44 20 (js_ald) := jo_ald jd_44_20
theorem jk_44_21 : jx_Snd 44 21 (js_ifeq 30) := jo_ifeq (o := 9) rfl jd_44_21
theorem jk_44_24 : jx_Snd 44 24 (js_al 0 1) := jo_aload_n (i := 0) (w := 0) rfl jd_44_24
theorem jk_44_25 : jx_Snd 44 25 (js_c 2 1) := jo_iconst (z := 2) jd_44_25 rfl
theorem jk_44_26 : jx_Snd 44 26 (js_v1 2 53) := jo_v1 rfl jok_53 (Or.inl jw_235) jw_236 jw_689 rfl jd_44_26
theorem jk_44_29 : jx_Snd 44 29 (js_vr) := jo_vr rfl jd_44_29
theorem jk_44_30 : jx_Snd 44 30 (js_al 0 1) := jo_aload_n (i := 0) (w := 0) rfl jd_44_30
theorem jk_44_31 : jx_Snd 44 31 (js_getf 2 1) := jo_getf rfl jf_2_21 jd_44_31
theorem jk_44_34 : jx_Snd 44 34 (js_getf 4 1) := jo_getf rfl jf_2_137 jd_44_34
theorem jk_44_37 : jx_Snd 44 37 (js_il 2 1) := jo_iload_n (i := 2) (w := 2) rfl jd_44_37
theorem jk_44_38 : jx_Snd 44 38 (js_ald) := jo_ald jd_44_38
theorem jk_44_39 : jx_Snd 44 39 (js_is 4 2) := jo_istore (i := 4) (Nat.le_of_ble_eq_true rfl) jd_44_39
theorem jk_44_41 : jx_Snd 44 41 (js_al 0 1) := jo_aload_n (i := 0) (w := 0) rfl jd_44_41
theorem jk_44_42 : jx_Snd 44 42 (js_getf 2 1) := jo_getf rfl jf_2_21 jd_44_42
theorem jk_44_45 : jx_Snd 44 45 (js_getf 4 1) := jo_getf rfl jf_2_137 jd_44_45
theorem jk_44_48 : jx_Snd 44 48 (js_il 3 1) := jo_iload_n (i := 3) (w := 3) rfl jd_44_48
theorem jk_44_49 : jx_Snd 44 49 (js_ald) := jo_ald jd_44_49
theorem jk_44_50 : jx_Snd 44 50 (js_is 5 2) := jo_istore (i := 5) (Nat.le_of_ble_eq_true rfl) jd_44_50
theorem jk_44_52 : jx_Snd 44 52 (js_il 1 1) := jo_iload_n (i := 1) (w := 1) rfl jd_44_52
theorem jk_44_53 : jx_Snd 44 53 (js_c 3 1) := jo_iconst (z := 3) jd_44_53 rfl
theorem jk_44_54 : jx_Snd 44 54 (js_cne 70) := jo_cne (o := 16) rfl jd_44_54
theorem jk_44_57 : jx_Snd 44 57 (js_il 5 2) := jo_iload (i := 5) jd_44_57
theorem jk_44_59 : jx_Snd 44 59 (js_ifne 70) := jo_ifne (o := 11) rfl jd_44_59
theorem jk_44_62 : jx_Snd 44 62 (js_al 0 1) := jo_aload_n (i := 0) (w := 0) rfl jd_44_62
theorem jk_44_63 : jx_Snd 44 63 (js_c 2 1) := jo_iconst (z := 2) jd_44_63 rfl
theorem jk_44_64 : jx_Snd 44 64 (js_v1 2 53) := jo_v1 rfl jok_53 (Or.inl jw_235) jw_236 jw_689 rfl jd_44_64
theorem jk_44_67 : jx_Snd 44 67 (js_go 154) := jo_goto (o := 87) rfl jd_44_67
theorem jk_44_70 : jx_Snd 44 70 (js_il 1 1) := jo_iload_n (i := 1) (w := 1) rfl jd_44_70
theorem jk_44_71 : jx_Snd 44 71 (js_c 4 1) := jo_iconst (z := 4) jd_44_71 rfl
theorem jk_44_72 : jx_Snd 44 72 (js_cne 102) := jo_cne (o := 30) rfl jd_44_72
theorem jk_44_75 : jx_Snd 44 75 (js_al 0 1) := jo_aload_n (i := 0) (w := 0) rfl jd_44_75
theorem jk_44_76 : jx_Snd 44 76 (js_al 0 1) := jo_aload_n (i := 0) (w := 0) rfl jd_44_76
theorem jk_44_77 : jx_Snd 44 77 (js_getf 2 1) := jo_getf rfl jf_2_21 jd_44_77
theorem jk_44_80 : jx_Snd 44 80 (js_c 1 1) := jo_iconst (z := 1) jd_44_80 rfl
theorem jk_44_81 : jx_Snd 44 81 (js_il 4 2) := jo_iload (i := 4) jd_44_81
theorem jk_44_83 : jx_Snd 44 83 (js_il 5 2) := jo_iload (i := 5) jd_44_83
theorem jk_44_85 : jx_Snd 44 85 (js_cne 92) := jo_cne (o := 7) rfl jd_44_85
theorem jk_44_88 : jx_Snd 44 88 (js_c 1 1) := jo_iconst (z := 1) jd_44_88 rfl
theorem jk_44_89 : jx_Snd 44 89 (js_go 93) := jo_goto (o := 4) rfl jd_44_89
theorem jk_44_92 : jx_Snd 44 92 (js_c 0 1) := jo_iconst (z := 0) jd_44_92 rfl
theorem jk_44_93 : jx_Snd 44 93 (js_v2 4 64) := jo_v2 rfl jok_64 (Or.inl jw_224) jw_225 jw_226 rfl jd_44_93
theorem jk_44_96 : jx_Snd 44 96 (js_v1 2 52) := jo_v1 rfl jok_52 (Or.inl jw_248) jw_249 jw_692 rfl jd_44_96
theorem jk_44_99 : jx_Snd 44 99 (js_go 154) := jo_goto (o := 55) rfl jd_44_99
theorem jk_44_102 : jx_Snd 44 102 (js_il 1 1) := jo_iload_n (i := 1) (w := 1) rfl jd_44_102
theorem jk_44_103 : jx_Snd 44 103 (js_c 5 1) := jo_iconst (z := 5) jd_44_103 rfl
theorem jk_44_104 : jx_Snd 44 104 (js_cne 134) := jo_cne (o := 30) rfl jd_44_104
theorem jk_44_107 : jx_Snd 44 107 (js_al 0 1) := jo_aload_n (i := 0) (w := 0) rfl jd_44_107
theorem jk_44_108 : jx_Snd 44 108 (js_al 0 1) := jo_aload_n (i := 0) (w := 0) rfl jd_44_108
theorem jk_44_109 : jx_Snd 44 109 (js_getf 2 1) := jo_getf rfl jf_2_21 jd_44_109
theorem jk_44_112 : jx_Snd 44 112 (js_c 1 1) := jo_iconst (z := 1) jd_44_112 rfl
theorem jk_44_113 : jx_Snd 44 113 (js_il 4 2) := jo_iload (i := 4) jd_44_113
theorem jk_44_115 : jx_Snd 44 115 (js_il 5 2) := jo_iload (i := 5) jd_44_115
theorem jk_44_117 : jx_Snd 44 117 (js_cge 124) := jo_cge (o := 7) rfl jd_44_117
theorem jk_44_120 : jx_Snd 44 120 (js_c 1 1) := jo_iconst (z := 1) jd_44_120 rfl
theorem jk_44_121 : jx_Snd 44 121 (js_go 125) := jo_goto (o := 4) rfl jd_44_121
theorem jk_44_124 : jx_Snd 44 124 (js_c 0 1) := jo_iconst (z := 0) jd_44_124 rfl
theorem jk_44_125 : jx_Snd 44 125 (js_v2 4 64) := jo_v2 rfl jok_64 (Or.inl jw_224) jw_225 jw_226 rfl jd_44_125
theorem jk_44_128 : jx_Snd 44 128 (js_v1 2 52) := jo_v1 rfl jok_52 (Or.inl jw_248) jw_249 jw_692 rfl jd_44_128
theorem jk_44_131 : jx_Snd 44 131 (js_go 154) := jo_goto (o := 23) rfl jd_44_131
theorem jk_44_134 : jx_Snd 44 134 (js_al 0 1) := jo_aload_n (i := 0) (w := 0) rfl jd_44_134
theorem jk_44_135 : jx_Snd 44 135 (js_al 0 1) := jo_aload_n (i := 0) (w := 0) rfl jd_44_135
theorem jk_44_136 : jx_Snd 44 136 (js_getf 2 1) := jo_getf rfl jf_2_21 jd_44_136
theorem jk_44_139 : jx_Snd 44 139 (js_c 0 1) := jo_iconst (z := 0) jd_44_139 rfl
theorem jk_44_140 : jx_Snd 44 140 (js_il 1 1) := jo_iload_n (i := 1) (w := 1) rfl jd_44_140
theorem jk_44_141 : jx_Snd 44 141 (js_il 4 2) := jo_iload (i := 4) jd_44_141
theorem jk_44_143 : jx_Snd 44 143 (js_il 5 2) := jo_iload (i := 5) jd_44_143
theorem jk_44_145 : jx_Snd 44 145 (js_s3 45) := jo_s3 rfl jok_45 (Or.inl jw_278) jw_279 jd_44_145
theorem jk_44_148 : jx_Snd 44 148 (js_v2 4 64) := jo_v2 rfl jok_64 (Or.inl jw_224) jw_225 jw_226 rfl jd_44_148
theorem jk_44_151 : jx_Snd 44 151 (js_v1 2 52) := jo_v1 rfl jok_52 (Or.inl jw_248) jw_249 jw_692 rfl jd_44_151
theorem jk_44_154 : jx_Snd 44 154 (js_vr) := jo_vr rfl jd_44_154
theorem jk_44 : jx_So 44 jt_44 := fun pc => jo_le (jo_le (jo_le (jo_le (jo_le (jo_le (jo_le (jo_at (jk_44_0)) (jo_at (jk_44_1))) (jo_at (jk_44_4))) (jo_le (jo_at (jk_44_7)) (jo_at (jk_44_8)))) (jo_le (jo_le (jo_le (jo_at (jk_44_9)) (jo_at (jk_44_12))) (jo_at (jk_44_13))) (jo_le (jo_at (jk_44_16)) (jo_at (jk_44_19))))) (jo_le (jo_le (jo_le (jo_le (jo_at (jk_44_20)) (jo_at (jk_44_21))) (jo_at (jk_44_24))) (jo_le (jo_at (jk_44_25)) (jo_at (jk_44_26)))) (jo_le (jo_le (jo_le (jo_at (jk_44_29)) (jo_at (jk_44_30))) (jo_at (jk_44_31))) (jo_le (jo_at (jk_44_34)) (jo_at (jk_44_37)))))) (jo_le (jo_le (jo_le (jo_le (jo_le (jo_at (jk_44_38)) (jo_at (jk_44_39))) (jo_at (jk_44_41))) (jo_le (jo_at (jk_44_42)) (jo_at (jk_44_45)))) (jo_le (jo_le (jo_le (jo_at (jk_44_48)) (jo_at (jk_44_49))) (jo_at (jk_44_50))) (jo_le (jo_at (jk_44_52)) (jo_at (jk_44_53))))) (jo_le (jo_le (jo_le (jo_le (jo_at (jk_44_54)) (jo_at (jk_44_57))) (jo_at (jk_44_59))) (jo_le (jo_at (jk_44_62)) (jo_at (jk_44_63)))) (jo_le (jo_le (jo_le (jo_at (jk_44_64)) (jo_at (jk_44_67))) (jo_at (jk_44_70))) (jo_le (jo_at (jk_44_71)) (jo_at (jk_44_72))))))) (jo_le (jo_le (jo_le (jo_le (jo_le (jo_le (jo_at (jk_44_75)) (jo_at (jk_44_76))) (jo_at (jk_44_77))) (jo_le (jo_at (jk_44_80)) (jo_at (jk_44_81)))) (jo_le (jo_le (jo_le (jo_at (jk_44_83)) (jo_at (jk_44_85))) (jo_at (jk_44_88))) (jo_le (jo_at (jk_44_89)) (jo_at (jk_44_92))))) (jo_le (jo_le (jo_le (jo_le (jo_at (jk_44_93)) (jo_at (jk_44_96))) (jo_at (jk_44_99))) (jo_le (jo_at (jk_44_102)) (jo_at (jk_44_103)))) (jo_le (jo_le (jo_le (jo_at (jk_44_104)) (jo_at (jk_44_107))) (jo_at (jk_44_108))) (jo_le (jo_at (jk_44_109)) (jo_at (jk_44_112)))))) (jo_le (jo_le (jo_le (jo_le (jo_le (jo_at (jk_44_113)) (jo_at (jk_44_115))) (jo_at (jk_44_117))) (jo_le (jo_at (jk_44_120)) (jo_at (jk_44_121)))) (jo_le (jo_le (jo_le (jo_at (jk_44_124)) (jo_at (jk_44_125))) (jo_at (jk_44_128))) (jo_le (jo_at (jk_44_131)) (jo_at (jk_44_134))))) (jo_le (jo_le (jo_le (jo_le (jo_at (jk_44_135)) (jo_at (jk_44_136))) (jo_at (jk_44_139))) (jo_le (jo_at (jk_44_140)) (jo_at (jk_44_141)))) (jo_le (jo_le (jo_le (jo_at (jk_44_143)) (jo_at (jk_44_145))) (jo_at (jk_44_148))) (jo_le (jo_at (jk_44_151)) (jo_at (jk_44_154)))))))
theorem ji_44 {l : Launch} {D : va_G} {cA : ClassId} {ρ : Nat → Nat} {Λ : List jx_Lc} {d : Nat} {Q : Option Value → jx_St → Prop} {σ : jx_St} {z0 : Nat} {a1 : Int32} {a2 : Int32} {a3 : Int32} (h : jt_44 0 Λ jx_tb0 (jx_rn Λ jx_tb0 jt_44 (fun k' as σ K => jx_C l D cA ρ Λ d k' as σ K) Q (jx_J l D cA ρ Λ (jx_A ρ Λ) jx_tb0 (d + 1) 44 Q) [] 400) (fun k' as σ K => jx_C l D cA ρ Λ d k' as σ K) Q 0 [(0, .ref z0), (1, .int a1), (2, .int a2), (3, .int a3)] [] σ) : jx_C l D cA ρ Λ (d + 1) 44 [.ref z0, .int a1, .int a2, .int a3] σ Q := jx_in jk_44 400 [] rfl (Nat.le_of_ble_eq_true rfl) h
/-! ScriptLedger$Machine.reckoned(III)I -/
theorem jd_45_0 : decode prog_4_method_12_code 0 = .ok (.iload_n 0, 1) := by decide +kernel
theorem jd_45_1 : decode prog_4_method_12_code 1 = .ok (.tableswitch 47 1 3 #[27, 31, 35], 27) := by decide +kernel
theorem jd_45_28 : decode prog_4_method_12_code 28 = .ok (.iload_n 1, 1) := by decide +kernel
theorem jd_45_29 : decode prog_4_method_12_code 29 = .ok (.iload_n 2, 1) := by decide +kernel
theorem jd_45_30 : decode prog_4_method_12_code 30 = .ok (.isub, 1) := by decide +kernel
theorem jd_45_31 : decode prog_4_method_12_code 31 = .ok (.ireturn, 1) := by decide +kernel
theorem jd_45_32 : decode prog_4_method_12_code 32 = .ok (.iload_n 1, 1) := by decide +kernel
theorem jd_45_33 : decode prog_4_method_12_code 33 = .ok (.iload_n 2, 1) := by decide +kernel
theorem jd_45_34 : decode prog_4_method_12_code 34 = .ok (.imul, 1) := by decide +kernel
theorem jd_45_35 : decode prog_4_method_12_code 35 = .ok (.ireturn, 1) := by decide +kernel
theorem jd_45_36 : decode prog_4_method_12_code 36 = .ok (.iload_n 2, 1) := by decide +kernel
theorem jd_45_37 : decode prog_4_method_12_code 37 = .ok (.ifCond .ne 7, 3) := by decide +kernel
theorem jd_45_40 : decode prog_4_method_12_code 40 = .ok (.iconst 0, 1) := by decide +kernel
theorem jd_45_41 : decode prog_4_method_12_code 41 = .ok (.goto 6, 3) := by decide +kernel
theorem jd_45_44 : decode prog_4_method_12_code 44 = .ok (.iload_n 1, 1) := by decide +kernel
theorem jd_45_45 : decode prog_4_method_12_code 45 = .ok (.iload_n 2, 1) := by decide +kernel
theorem jd_45_46 : decode prog_4_method_12_code 46 = .ok (.idiv, 1) := by decide +kernel
theorem jd_45_47 : decode prog_4_method_12_code 47 = .ok (.ireturn, 1) := by decide +kernel
theorem jd_45_48 : decode prog_4_method_12_code 48 = .ok (.iload_n 1, 1) := by decide +kernel
theorem jd_45_49 : decode prog_4_method_12_code 49 = .ok (.iload_n 2, 1) := by decide +kernel
theorem jd_45_50 : decode prog_4_method_12_code 50 = .ok (.iadd, 1) := by decide +kernel
theorem jd_45_51 : decode prog_4_method_12_code 51 = .ok (.ireturn, 1) := by decide +kernel
def jt_45 (pc : Nat) : jx_Sp := bif Nat.ble pc 36 then (bif Nat.ble pc 31 then (bif Nat.ble pc 28 then (bif Nat.ble pc 1 then (bif Nat.ble pc 0 then (bif Nat.beq pc 0 then js_il 0 1 else js_none) else (bif Nat.beq pc 1 then js_sw [(1, 28), (2, 32), (3, 36)] 48 else js_none)) else (bif Nat.beq pc 28 then js_il 1 1 else js_none)) else (bif Nat.ble pc 30 then (bif Nat.ble pc 29 then (bif Nat.beq pc 29 then js_il 2 1 else js_none) else (bif Nat.beq pc 30 then js_isub else js_none)) else (bif Nat.beq pc 31 then js_ir else js_none))) else (bif Nat.ble pc 34 then (bif Nat.ble pc 33 then (bif Nat.ble pc 32 then (bif Nat.beq pc 32 then js_il 1 1 else js_none) else (bif Nat.beq pc 33 then js_il 2 1 else js_none)) else (bif Nat.beq pc 34 then js_imul else js_none)) else (bif Nat.ble pc 35 then (bif Nat.beq pc 35 then js_ir else js_none) else (bif Nat.beq pc 36 then js_il 2 1 else js_none)))) else (bif Nat.ble pc 46 then (bif Nat.ble pc 41 then (bif Nat.ble pc 40 then (bif Nat.ble pc 37 then (bif Nat.beq pc 37 then js_ifne 44 else js_none) else (bif Nat.beq pc 40 then js_c 0 1 else js_none)) else (bif Nat.beq pc 41 then js_go 47 else js_none)) else (bif Nat.ble pc 45 then (bif Nat.ble pc 44 then (bif Nat.beq pc 44 then js_il 1 1 else js_none) else (bif Nat.beq pc 45 then js_il 2 1 else js_none)) else (bif Nat.beq pc 46 then js_idiv else js_none))) else (bif Nat.ble pc 49 then (bif Nat.ble pc 48 then (bif Nat.ble pc 47 then (bif Nat.beq pc 47 then js_ir else js_none) else (bif Nat.beq pc 48 then js_il 1 1 else js_none)) else (bif Nat.beq pc 49 then js_il 2 1 else js_none)) else (bif Nat.ble pc 50 then (bif Nat.beq pc 50 then js_iadd else js_none) else (bif Nat.beq pc 51 then js_ir else js_none))))
theorem jk_45_0 : jx_Snd 45 0 (js_il 0 1) := jo_iload_n (i := 0) (w := 0) rfl jd_45_0
theorem jk_45_1 : jx_Snd 45 1 (js_sw [(1, 28), (2, 32), (3, 36)] 48) := jo_tableD (dflt := 47) (lo := 1) (hi := 3) (offs := #[27, 31, 35]) rfl rfl (by decide +kernel) jd_45_1
theorem jk_45_28 : jx_Snd 45 28 (js_il 1 1) := jo_iload_n (i := 1) (w := 1) rfl jd_45_28
theorem jk_45_29 : jx_Snd 45 29 (js_il 2 1) := jo_iload_n (i := 2) (w := 2) rfl jd_45_29
theorem jk_45_30 : jx_Snd 45 30 (js_isub) := jo_isub jd_45_30
theorem jk_45_31 : jx_Snd 45 31 (js_ir) := jo_ir rfl jd_45_31
theorem jk_45_32 : jx_Snd 45 32 (js_il 1 1) := jo_iload_n (i := 1) (w := 1) rfl jd_45_32
theorem jk_45_33 : jx_Snd 45 33 (js_il 2 1) := jo_iload_n (i := 2) (w := 2) rfl jd_45_33
theorem jk_45_34 : jx_Snd 45 34 (js_imul) := jo_imul jd_45_34
theorem jk_45_35 : jx_Snd 45 35 (js_ir) := jo_ir rfl jd_45_35
theorem jk_45_36 : jx_Snd 45 36 (js_il 2 1) := jo_iload_n (i := 2) (w := 2) rfl jd_45_36
theorem jk_45_37 : jx_Snd 45 37 (js_ifne 44) := jo_ifne (o := 7) rfl jd_45_37
theorem jk_45_40 : jx_Snd 45 40 (js_c 0 1) := jo_iconst (z := 0) jd_45_40 rfl
theorem jk_45_41 : jx_Snd 45 41 (js_go 47) := jo_goto (o := 6) rfl jd_45_41
theorem jk_45_44 : jx_Snd 45 44 (js_il 1 1) := jo_iload_n (i := 1) (w := 1) rfl jd_45_44
theorem jk_45_45 : jx_Snd 45 45 (js_il 2 1) := jo_iload_n (i := 2) (w := 2) rfl jd_45_45
theorem jk_45_46 : jx_Snd 45 46 (js_idiv) := jo_idiv jd_45_46
theorem jk_45_47 : jx_Snd 45 47 (js_ir) := jo_ir rfl jd_45_47
theorem jk_45_48 : jx_Snd 45 48 (js_il 1 1) := jo_iload_n (i := 1) (w := 1) rfl jd_45_48
theorem jk_45_49 : jx_Snd 45 49 (js_il 2 1) := jo_iload_n (i := 2) (w := 2) rfl jd_45_49
theorem jk_45_50 : jx_Snd 45 50 (js_iadd) := jo_iadd jd_45_50
theorem jk_45_51 : jx_Snd 45 51 (js_ir) := jo_ir rfl jd_45_51
theorem jk_45 : jx_So 45 jt_45 := fun pc => jo_le (jo_le (jo_le (jo_le (jo_le (jo_at (jk_45_0)) (jo_at (jk_45_1))) (jo_at (jk_45_28))) (jo_le (jo_le (jo_at (jk_45_29)) (jo_at (jk_45_30))) (jo_at (jk_45_31)))) (jo_le (jo_le (jo_le (jo_at (jk_45_32)) (jo_at (jk_45_33))) (jo_at (jk_45_34))) (jo_le (jo_at (jk_45_35)) (jo_at (jk_45_36))))) (jo_le (jo_le (jo_le (jo_le (jo_at (jk_45_37)) (jo_at (jk_45_40))) (jo_at (jk_45_41))) (jo_le (jo_le (jo_at (jk_45_44)) (jo_at (jk_45_45))) (jo_at (jk_45_46)))) (jo_le (jo_le (jo_le (jo_at (jk_45_47)) (jo_at (jk_45_48))) (jo_at (jk_45_49))) (jo_le (jo_at (jk_45_50)) (jo_at (jk_45_51)))))
theorem ji_45 {l : Launch} {D : va_G} {cA : ClassId} {ρ : Nat → Nat} {Λ : List jx_Lc} {d : Nat} {Q : Option Value → jx_St → Prop} {σ : jx_St} {a1 : Int32} {a2 : Int32} {a3 : Int32} (h : jt_45 0 Λ jx_tb0 (jx_rn Λ jx_tb0 jt_45 (fun k' as σ K => jx_C l D cA ρ Λ d k' as σ K) Q (jx_J l D cA ρ Λ (jx_A ρ Λ) jx_tb0 (d + 1) 45 Q) [] 400) (fun k' as σ K => jx_C l D cA ρ Λ d k' as σ K) Q 0 [(0, .int a1), (1, .int a2), (2, .int a3)] [] σ) : jx_C l D cA ρ Λ (d + 1) 45 [.int a1, .int a2, .int a3] σ Q := jx_in jk_45 400 [] rfl (Nat.le_of_ble_eq_true rfl) h
/-! ScriptLedger$Machine.choose(III)V -/
theorem jd_46_0 : decode prog_4_method_13_code 0 = .ok (.aload_n 0, 1) := by decide +kernel
theorem jd_46_1 : decode prog_4_method_13_code 1 = .ok (.getfield 21, 3) := by decide +kernel
theorem jd_46_4 : decode prog_4_method_13_code 4 = .ok (.getfield 134, 3) := by decide +kernel
theorem jd_46_7 : decode prog_4_method_13_code 7 = .ok (.iload_n 1, 1) := by decide +kernel
theorem jd_46_8 : decode prog_4_method_13_code 8 = .ok (.iaload, 1) := by decide +kernel
theorem jd_46_9 : decode prog_4_method_13_code 9 = .ok (.iconst 1, 1) := by decide +kernel
theorem jd_46_10 : decode prog_4_method_13_code 10 = .ok (.if_icmp .eq 9, 3) := by decide +kernel
theorem jd_46_13 : decode prog_4_method_13_code 13 = .ok (.aload_n 0, 1) := by decide +kernel
theorem jd_46_14 : decode prog_4_method_13_code 14 = .ok (.iconst 2, 1) := by decide +kernel
theorem jd_46_15 : decode prog_4_method_13_code 15 = .ok (.invokevirtual 74, 3) := by decide +kernel
theorem jd_46_18 : decode prog_4_method_13_code 18 = .ok (.return_, 1) := by decide +kernel
theorem jd_46_19 : decode prog_4_method_13_code 19 = .ok (.aload_n 0, 1) := by decide +kernel
theorem jd_46_20 : decode prog_4_method_13_code 20 = .ok (.aload_n 0, 1) := by decide +kernel
theorem jd_46_21 : decode prog_4_method_13_code 21 = .ok (.getfield 21, 3) := by decide +kernel
theorem jd_46_24 : decode prog_4_method_13_code 24 = .ok (.getfield 137, 3) := by decide +kernel
theorem jd_46_27 : decode prog_4_method_13_code 27 = .ok (.iload_n 1, 1) := by decide +kernel
theorem jd_46_28 : decode prog_4_method_13_code 28 = .ok (.iaload, 1) := by decide +kernel
theorem jd_46_29 : decode prog_4_method_13_code 29 = .ok (.iconst 1, 1) := by decide +kernel
theorem jd_46_30 : decode prog_4_method_13_code 30 = .ok (.if_icmp .ne 7, 3) := by decide +kernel
theorem jd_46_33 : decode prog_4_method_13_code 33 = .ok (.iload_n 2, 1) := by decide +kernel
theorem jd_46_34 : decode prog_4_method_13_code 34 = .ok (.goto 4, 3) := by decide +kernel
theorem jd_46_37 : decode prog_4_method_13_code 37 = .ok (.iload_n 3, 1) := by decide +kernel
theorem jd_46_38 : decode prog_4_method_13_code 38 = .ok (.invokevirtual 112, 3) := by decide +kernel
theorem jd_46_41 : decode prog_4_method_13_code 41 = .ok (.return_, 1) := by decide +kernel
def jt_46 (pc : Nat) : jx_Sp := bif Nat.ble pc 19 then (bif Nat.ble pc 9 then (bif Nat.ble pc 4 then (bif Nat.ble pc 1 then (bif Nat.ble pc 0 then (bif Nat.beq pc 0 then js_al 0 1 else js_none) else (bif Nat.beq pc 1 then js_getf 2 1 else js_none)) else (bif Nat.beq pc 4 then js_getf 4 0 else js_none)) else (bif Nat.ble pc 8 then (bif Nat.ble pc 7 then (bif Nat.beq pc 7 then js_il 1 1 else js_none) else (bif Nat.beq pc 8 then js_ald else js_none)) else (bif Nat.beq pc 9 then js_c 1 1 else js_none))) else (bif Nat.ble pc 14 then (bif Nat.ble pc 13 then (bif Nat.ble pc 10 then (bif Nat.beq pc 10 then js_ceq 19 else js_none) else (bif Nat.beq pc 13 then js_al 0 1 else js_none)) else (bif Nat.beq pc 14 then js_c 2 1 else js_none)) else (bif Nat.ble pc 18 then (bif Nat.ble pc 15 then (bif Nat.beq pc 15 then js_v1 2 53 else js_none) else (bif Nat.beq pc 18 then js_vr else js_none)) else (bif Nat.beq pc 19 then js_al 0 1 else js_none)))) else (bif Nat.ble pc 29 then (bif Nat.ble pc 24 then (bif Nat.ble pc 21 then (bif Nat.ble pc 20 then (bif Nat.beq pc 20 then js_al 0 1 else js_none) else (bif Nat.beq pc 21 then js_getf 2 1 else js_none)) else (bif Nat.beq pc 24 then js_getf 4 1 else js_none)) else (bif Nat.ble pc 28 then (bif Nat.ble pc 27 then (bif Nat.beq pc 27 then js_il 1 1 else js_none) else (bif Nat.beq pc 28 then js_ald else js_none)) else (bif Nat.beq pc 29 then js_c 1 1 else js_none))) else (bif Nat.ble pc 34 then (bif Nat.ble pc 33 then (bif Nat.ble pc 30 then (bif Nat.beq pc 30 then js_cne 37 else js_none) else (bif Nat.beq pc 33 then js_il 2 1 else js_none)) else (bif Nat.beq pc 34 then js_go 38 else js_none)) else (bif Nat.ble pc 38 then (bif Nat.ble pc 37 then (bif Nat.beq pc 37 then js_il 3 1 else js_none) else (bif Nat.beq pc 38 then js_v1 2 52 else js_none)) else (bif Nat.beq pc 41 then js_vr else js_none))))
theorem jk_46_0 : jx_Snd 46 0 (js_al 0 1) := jo_aload_n (i := 0) (w := 0) rfl jd_46_0
theorem jk_46_1 : jx_Snd 46 1 (js_getf 2 1) := jo_getf rfl jf_2_21 jd_46_1
theorem jk_46_4 : jx_Snd 46 4 (js_getf 4 0) := jo_getf rfl jf_2_134 jd_46_4
theorem jk_46_7 : jx_Snd 46 7 (js_il 1 1) := jo_iload_n (i := 1) (w := 1) rfl jd_46_7
theorem jk_46_8 : jx_Snd 46 8 (js_ald) := jo_ald jd_46_8
theorem jk_46_9 : jx_Snd 46 9 (js_c 1 1) := jo_iconst (z := 1) jd_46_9 rfl
theorem jk_46_10 : jx_Snd 46 10 (js_ceq 19) := jo_ceq (o := 9) rfl jd_46_10
theorem jk_46_13 : jx_Snd 46 13 (js_al 0 1) := jo_aload_n (i := 0) (w := 0) rfl jd_46_13
theorem jk_46_14 : jx_Snd 46 14 (js_c 2 1) := jo_iconst (z := 2) jd_46_14 rfl
theorem jk_46_15 : jx_Snd 46 15 (js_v1 2 53) := jo_v1 rfl jok_53 (Or.inl jw_235) jw_236 jw_689 rfl jd_46_15
theorem jk_46_18 : jx_Snd 46 18 (js_vr) := jo_vr rfl jd_46_18
theorem jk_46_19 : jx_Snd 46 19 (js_al 0 1) := jo_aload_n (i := 0) (w := 0) rfl jd_46_19
theorem jk_46_20 : jx_Snd 46 20 (js_al 0 1) := jo_aload_n (i := 0) (w := 0) rfl jd_46_20
theorem jk_46_21 : jx_Snd 46 21 (js_getf 2 1) := jo_getf rfl jf_2_21 jd_46_21
theorem jk_46_24 : jx_Snd 46 24 (js_getf 4 1) := jo_getf rfl jf_2_137 jd_46_24
theorem jk_46_27 : jx_Snd 46 27 (js_il 1 1) := jo_iload_n (i := 1) (w := 1) rfl jd_46_27
theorem jk_46_28 : jx_Snd 46 28 (js_ald) := jo_ald jd_46_28
theorem jk_46_29 : jx_Snd 46 29 (js_c 1 1) := jo_iconst (z := 1) jd_46_29 rfl
theorem jk_46_30 : jx_Snd 46 30 (js_cne 37) := jo_cne (o := 7) rfl jd_46_30
theorem jk_46_33 : jx_Snd 46 33 (js_il 2 1) := jo_iload_n (i := 2) (w := 2) rfl jd_46_33
theorem jk_46_34 : jx_Snd 46 34 (js_go 38) := jo_goto (o := 4) rfl jd_46_34
theorem jk_46_37 : jx_Snd 46 37 (js_il 3 1) := jo_iload_n (i := 3) (w := 3) rfl jd_46_37
theorem jk_46_38 : jx_Snd 46 38 (js_v1 2 52) := jo_v1 rfl jok_52 (Or.inl jw_248) jw_249 jw_692 rfl jd_46_38
theorem jk_46_41 : jx_Snd 46 41 (js_vr) := jo_vr rfl jd_46_41
theorem jk_46 : jx_So 46 jt_46 := fun pc => jo_le (jo_le (jo_le (jo_le (jo_le (jo_at (jk_46_0)) (jo_at (jk_46_1))) (jo_at (jk_46_4))) (jo_le (jo_le (jo_at (jk_46_7)) (jo_at (jk_46_8))) (jo_at (jk_46_9)))) (jo_le (jo_le (jo_le (jo_at (jk_46_10)) (jo_at (jk_46_13))) (jo_at (jk_46_14))) (jo_le (jo_le (jo_at (jk_46_15)) (jo_at (jk_46_18))) (jo_at (jk_46_19))))) (jo_le (jo_le (jo_le (jo_le (jo_at (jk_46_20)) (jo_at (jk_46_21))) (jo_at (jk_46_24))) (jo_le (jo_le (jo_at (jk_46_27)) (jo_at (jk_46_28))) (jo_at (jk_46_29)))) (jo_le (jo_le (jo_le (jo_at (jk_46_30)) (jo_at (jk_46_33))) (jo_at (jk_46_34))) (jo_le (jo_le (jo_at (jk_46_37)) (jo_at (jk_46_38))) (jo_at (jk_46_41)))))
theorem ji_46 {l : Launch} {D : va_G} {cA : ClassId} {ρ : Nat → Nat} {Λ : List jx_Lc} {d : Nat} {Q : Option Value → jx_St → Prop} {σ : jx_St} {z0 : Nat} {a1 : Int32} {a2 : Int32} {a3 : Int32} (h : jt_46 0 Λ jx_tb0 (jx_rn Λ jx_tb0 jt_46 (fun k' as σ K => jx_C l D cA ρ Λ d k' as σ K) Q (jx_J l D cA ρ Λ (jx_A ρ Λ) jx_tb0 (d + 1) 46 Q) [] 400) (fun k' as σ K => jx_C l D cA ρ Λ d k' as σ K) Q 0 [(0, .ref z0), (1, .int a1), (2, .int a2), (3, .int a3)] [] σ) : jx_C l D cA ρ Λ (d + 1) 46 [.ref z0, .int a1, .int a2, .int a3] σ Q := jx_in jk_46 400 [] rfl (Nat.le_of_ble_eq_true rfl) h
/-! ScriptLedger$Machine.putInFront(II)V -/
theorem jd_47_0 : decode prog_4_method_14_code 0 = .ok (.aload_n 0, 1) := by decide +kernel
theorem jd_47_1 : decode prog_4_method_14_code 1 = .ok (.getfield 21, 3) := by decide +kernel
theorem jd_47_4 : decode prog_4_method_14_code 4 = .ok (.getfield 134, 3) := by decide +kernel
theorem jd_47_7 : decode prog_4_method_14_code 7 = .ok (.iload_n 1, 1) := by decide +kernel
theorem jd_47_8 : decode prog_4_method_14_code 8 = .ok (.iaload, 1) := by decide +kernel
theorem jd_47_9 : decode prog_4_method_14_code 9 = .ok (.istore_n 3, 1) := by decide +kernel
theorem jd_47_10 : decode prog_4_method_14_code 10 = .ok (.iload_n 3, 1) := by decide +kernel
theorem jd_47_11 : decode prog_4_method_14_code 11 = .ok (.ifCond .eq 8, 3) := by decide +kernel
theorem jd_47_14 : decode prog_4_method_14_code 14 = .ok (.iload_n 3, 1) := by decide +kernel
theorem jd_47_15 : decode prog_4_method_14_code 15 = .ok (.iconst 2, 1) := by decide +kernel
theorem jd_47_16 : decode prog_4_method_14_code 16 = .ok (.if_icmp .ne 16, 3) := by decide +kernel
theorem jd_47_19 : decode prog_4_method_14_code 19 = .ok (.aload_n 0, 1) := by decide +kernel
theorem jd_47_20 : decode prog_4_method_14_code 20 = .ok (.getfield 21, 3) := by decide +kernel
theorem jd_47_23 : decode prog_4_method_14_code 23 = .ok (.getfield 134, 3) := by decide +kernel
theorem jd_47_26 : decode prog_4_method_14_code 26 = .ok (.iload_n 2, 1) := by decide +kernel
theorem jd_47_27 : decode prog_4_method_14_code 27 = .ok (.iaload, 1) := by decide +kernel
theorem jd_47_28 : decode prog_4_method_14_code 28 = .ok (.iconst 2, 1) := by decide +kernel
theorem jd_47_29 : decode prog_4_method_14_code 29 = .ok (.if_icmp .eq 9, 3) := by decide +kernel
theorem jd_47_32 : decode prog_4_method_14_code 32 = .ok (.aload_n 0, 1) := by decide +kernel
theorem jd_47_33 : decode prog_4_method_14_code 33 = .ok (.iconst 2, 1) := by decide +kernel
theorem jd_47_34 : decode prog_4_method_14_code 34 = .ok (.invokevirtual 74, 3) := by decide +kernel
theorem jd_47_37 : decode prog_4_method_14_code 37 = .ok (.return_, 1) := by decide +kernel
theorem jd_47_38 : decode prog_4_method_14_code 38 = .ok (.aload_n 0, 1) := by decide +kernel
theorem jd_47_39 : decode prog_4_method_14_code 39 = .ok (.aload_n 0, 1) := by decide +kernel
theorem jd_47_40 : decode prog_4_method_14_code 40 = .ok (.getfield 21, 3) := by decide +kernel
theorem jd_47_43 : decode prog_4_method_14_code 43 = .ok (.iload_n 1, 1) := by decide +kernel
theorem jd_47_44 : decode prog_4_method_14_code 44 = .ok (.iload_n 2, 1) := by decide +kernel
theorem jd_47_45 : decode prog_4_method_14_code 45 = .ok (.invokevirtual 93, 3) := by decide +kernel
theorem jd_47_48 : decode prog_4_method_14_code 48 = .ok (.invokevirtual 112, 3) := by decide +kernel
theorem jd_47_51 : decode prog_4_method_14_code 51 = .ok (.return_, 1) := by decide +kernel
def jt_47 (pc : Nat) : jx_Sp := bif Nat.ble pc 26 then (bif Nat.ble pc 11 then (bif Nat.ble pc 7 then (bif Nat.ble pc 1 then (bif Nat.ble pc 0 then (bif Nat.beq pc 0 then js_al 0 1 else js_none) else (bif Nat.beq pc 1 then js_getf 2 1 else js_none)) else (bif Nat.ble pc 4 then (bif Nat.beq pc 4 then js_getf 4 0 else js_none) else (bif Nat.beq pc 7 then js_il 1 1 else js_none))) else (bif Nat.ble pc 9 then (bif Nat.ble pc 8 then (bif Nat.beq pc 8 then js_ald else js_none) else (bif Nat.beq pc 9 then js_is 3 1 else js_none)) else (bif Nat.ble pc 10 then (bif Nat.beq pc 10 then js_il 3 1 else js_none) else (bif Nat.beq pc 11 then js_ifeq 19 else js_none)))) else (bif Nat.ble pc 19 then (bif Nat.ble pc 15 then (bif Nat.ble pc 14 then (bif Nat.beq pc 14 then js_il 3 1 else js_none) else (bif Nat.beq pc 15 then js_c 2 1 else js_none)) else (bif Nat.ble pc 16 then (bif Nat.beq pc 16 then js_cne 32 else js_none) else (bif Nat.beq pc 19 then js_al 0 1 else js_none))) else (bif Nat.ble pc 23 then (bif Nat.ble pc 20 then (bif Nat.beq pc 20 then js_getf 2 1 else js_none) else (bif Nat.beq pc 23 then js_getf 4 0 else js_none)) else (bif Nat.beq pc 26 then js_il 2 1 else js_none)))) else (bif Nat.ble pc 38 then (bif Nat.ble pc 32 then (bif Nat.ble pc 28 then (bif Nat.ble pc 27 then (bif Nat.beq pc 27 then js_ald else js_none) else (bif Nat.beq pc 28 then js_c 2 1 else js_none)) else (bif Nat.ble pc 29 then (bif Nat.beq pc 29 then js_ceq 38 else js_none) else (bif Nat.beq pc 32 then js_al 0 1 else js_none))) else (bif Nat.ble pc 34 then (bif Nat.ble pc 33 then (bif Nat.beq pc 33 then js_c 2 1 else js_none) else (bif Nat.beq pc 34 then js_v1 2 53 else js_none)) else (bif Nat.ble pc 37 then (bif Nat.beq pc 37 then js_vr else js_none) else (bif Nat.beq pc 38 then js_al 0 1 else js_none)))) else (bif Nat.ble pc 44 then (bif Nat.ble pc 40 then (bif Nat.ble pc 39 then (bif Nat.beq pc 39 then js_al 0 1 else js_none) else (bif Nat.beq pc 40 then js_getf 2 1 else js_none)) else (bif Nat.ble pc 43 then (bif Nat.beq pc 43 then js_il 1 1 else js_none) else (bif Nat.beq pc 44 then js_il 2 1 else js_none))) else (bif Nat.ble pc 48 then (bif Nat.ble pc 45 then (bif Nat.beq pc 45 then js_v2 4 65 else js_none) else (bif Nat.beq pc 48 then js_v1 2 52 else js_none)) else (bif Nat.beq pc 51 then js_vr else js_none))))
theorem jk_47_0 : jx_Snd 47 0 (js_al 0 1) := jo_aload_n (i := 0) (w := 0) rfl jd_47_0
theorem jk_47_1 : jx_Snd 47 1 (js_getf 2 1) := jo_getf rfl jf_2_21 jd_47_1
theorem jk_47_4 : jx_Snd 47 4 (js_getf 4 0) := jo_getf rfl jf_2_134 jd_47_4
theorem jk_47_7 : jx_Snd 47 7 (js_il 1 1) := jo_iload_n (i := 1) (w := 1) rfl jd_47_7
theorem jk_47_8 : jx_Snd 47 8 (js_ald) := jo_ald jd_47_8
theorem jk_47_9 : jx_Snd 47 9 (js_is 3 1) := jo_istore_n (i := 3) (w := 3) rfl (Nat.le_of_ble_eq_true rfl) jd_47_9
theorem jk_47_10 : jx_Snd 47 10 (js_il 3 1) := jo_iload_n (i := 3) (w := 3) rfl jd_47_10
theorem jk_47_11 : jx_Snd 47 11 (js_ifeq 19) := jo_ifeq (o := 8) rfl jd_47_11
theorem jk_47_14 : jx_Snd 47 14 (js_il 3 1) := jo_iload_n (i := 3) (w := 3) rfl jd_47_14
theorem jk_47_15 : jx_Snd 47 15 (js_c 2 1) := jo_iconst (z := 2) jd_47_15 rfl
theorem jk_47_16 : jx_Snd 47 16 (js_cne 32) := jo_cne (o := 16) rfl jd_47_16
theorem jk_47_19 : jx_Snd 47 19 (js_al 0 1) := jo_aload_n (i := 0) (w := 0) rfl jd_47_19
theorem jk_47_20 : jx_Snd 47 20 (js_getf 2 1) := jo_getf rfl jf_2_21 jd_47_20
theorem jk_47_23 : jx_Snd 47 23 (js_getf 4 0) := jo_getf rfl jf_2_134 jd_47_23
theorem jk_47_26 : jx_Snd 47 26 (js_il 2 1) := jo_iload_n (i := 2) (w := 2) rfl jd_47_26
theorem jk_47_27 : jx_Snd 47 27 (js_ald) := jo_ald jd_47_27
theorem jk_47_28 : jx_Snd 47 28 (js_c 2 1) := jo_iconst (z := 2) jd_47_28 rfl
theorem jk_47_29 : jx_Snd 47 29 (js_ceq 38) := jo_ceq (o := 9) rfl jd_47_29
theorem jk_47_32 : jx_Snd 47 32 (js_al 0 1) := jo_aload_n (i := 0) (w := 0) rfl jd_47_32
theorem jk_47_33 : jx_Snd 47 33 (js_c 2 1) := jo_iconst (z := 2) jd_47_33 rfl
theorem jk_47_34 : jx_Snd 47 34 (js_v1 2 53) := jo_v1 rfl jok_53 (Or.inl jw_235) jw_236 jw_689 rfl jd_47_34
theorem jk_47_37 : jx_Snd 47 37 (js_vr) := jo_vr rfl jd_47_37
theorem jk_47_38 : jx_Snd 47 38 (js_al 0 1) := jo_aload_n (i := 0) (w := 0) rfl jd_47_38
theorem jk_47_39 : jx_Snd 47 39 (js_al 0 1) := jo_aload_n (i := 0) (w := 0) rfl jd_47_39
theorem jk_47_40 : jx_Snd 47 40 (js_getf 2 1) := jo_getf rfl jf_2_21 jd_47_40
theorem jk_47_43 : jx_Snd 47 43 (js_il 1 1) := jo_iload_n (i := 1) (w := 1) rfl jd_47_43
theorem jk_47_44 : jx_Snd 47 44 (js_il 2 1) := jo_iload_n (i := 2) (w := 2) rfl jd_47_44
theorem jk_47_45 : jx_Snd 47 45 (js_v2 4 65) := jo_v2 rfl jok_65 (Or.inl jw_228) jw_229 jw_230 rfl jd_47_45
theorem jk_47_48 : jx_Snd 47 48 (js_v1 2 52) := jo_v1 rfl jok_52 (Or.inl jw_248) jw_249 jw_692 rfl jd_47_48
theorem jk_47_51 : jx_Snd 47 51 (js_vr) := jo_vr rfl jd_47_51
theorem jk_47 : jx_So 47 jt_47 := fun pc => jo_le (jo_le (jo_le (jo_le (jo_le (jo_at (jk_47_0)) (jo_at (jk_47_1))) (jo_le (jo_at (jk_47_4)) (jo_at (jk_47_7)))) (jo_le (jo_le (jo_at (jk_47_8)) (jo_at (jk_47_9))) (jo_le (jo_at (jk_47_10)) (jo_at (jk_47_11))))) (jo_le (jo_le (jo_le (jo_at (jk_47_14)) (jo_at (jk_47_15))) (jo_le (jo_at (jk_47_16)) (jo_at (jk_47_19)))) (jo_le (jo_le (jo_at (jk_47_20)) (jo_at (jk_47_23))) (jo_at (jk_47_26))))) (jo_le (jo_le (jo_le (jo_le (jo_at (jk_47_27)) (jo_at (jk_47_28))) (jo_le (jo_at (jk_47_29)) (jo_at (jk_47_32)))) (jo_le (jo_le (jo_at (jk_47_33)) (jo_at (jk_47_34))) (jo_le (jo_at (jk_47_37)) (jo_at (jk_47_38))))) (jo_le (jo_le (jo_le (jo_at (jk_47_39)) (jo_at (jk_47_40))) (jo_le (jo_at (jk_47_43)) (jo_at (jk_47_44)))) (jo_le (jo_le (jo_at (jk_47_45)) (jo_at (jk_47_48))) (jo_at (jk_47_51)))))
theorem ji_47 {l : Launch} {D : va_G} {cA : ClassId} {ρ : Nat → Nat} {Λ : List jx_Lc} {d : Nat} {Q : Option Value → jx_St → Prop} {σ : jx_St} {z0 : Nat} {a1 : Int32} {a2 : Int32} (h : jt_47 0 Λ jx_tb0 (jx_rn Λ jx_tb0 jt_47 (fun k' as σ K => jx_C l D cA ρ Λ d k' as σ K) Q (jx_J l D cA ρ Λ (jx_A ρ Λ) jx_tb0 (d + 1) 47 Q) [] 400) (fun k' as σ K => jx_C l D cA ρ Λ d k' as σ K) Q 0 [(0, .ref z0), (1, .int a1), (2, .int a2)] [] σ) : jx_C l D cA ρ Λ (d + 1) 47 [.ref z0, .int a1, .int a2] σ Q := jx_in jk_47 400 [] rfl (Nat.le_of_ble_eq_true rfl) h
/-! ScriptLedger$Machine.lookInto(II)V -/
theorem jd_48_0 : decode prog_4_method_15_code 0 = .ok (.aload_n 0, 1) := by decide +kernel
theorem jd_48_1 : decode prog_4_method_15_code 1 = .ok (.getfield 21, 3) := by decide +kernel
theorem jd_48_4 : decode prog_4_method_15_code 4 = .ok (.getfield 144, 3) := by decide +kernel
theorem jd_48_7 : decode prog_4_method_15_code 7 = .ok (.iload_n 2, 1) := by decide +kernel
theorem jd_48_8 : decode prog_4_method_15_code 8 = .ok (.iaload, 1) := by decide +kernel
theorem jd_48_9 : decode prog_4_method_15_code 9 = .ok (.ifCond .ne 7, 3) := by decide +kernel
theorem jd_48_12 : decode prog_4_method_15_code 12 = .ok (.iconst 1, 1) := by decide +kernel
theorem jd_48_13 : decode prog_4_method_15_code 13 = .ok (.goto 4, 3) := by decide +kernel
theorem jd_48_16 : decode prog_4_method_15_code 16 = .ok (.iconst 0, 1) := by decide +kernel
theorem jd_48_17 : decode prog_4_method_15_code 17 = .ok (.istore_n 3, 1) := by decide +kernel
theorem jd_48_18 : decode prog_4_method_15_code 18 = .ok (.iload_n 1, 1) := by decide +kernel
theorem jd_48_19 : decode prog_4_method_15_code 19 = .ok (.bipush 8, 2) := by decide +kernel
theorem jd_48_21 : decode prog_4_method_15_code 21 = .ok (.if_icmp .eq 9, 3) := by decide +kernel
theorem jd_48_24 : decode prog_4_method_15_code 24 = .ok (.iload_n 1, 1) := by decide +kernel
theorem jd_48_25 : decode prog_4_method_15_code 25 = .ok (.bipush 9, 2) := by decide +kernel
theorem jd_48_27 : decode prog_4_method_15_code 27 = .ok (.if_icmp .ne 7, 3) := by decide +kernel
theorem jd_48_30 : decode prog_4_method_15_code 30 = .ok (.iconst 1, 1) := by decide +kernel
theorem jd_48_31 : decode prog_4_method_15_code 31 = .ok (.goto 4, 3) := by decide +kernel
theorem jd_48_34 : decode prog_4_method_15_code 34 = .ok (.iconst 0, 1) := by decide +kernel
theorem jd_48_35 : decode prog_4_method_15_code 35 = .ok (.istore 4, 2) := by decide +kernel
theorem jd_48_37 : decode prog_4_method_15_code 37 = .ok (.aload_n 0, 1) := by decide +kernel
theorem jd_48_38 : decode prog_4_method_15_code 38 = .ok (.getfield 21, 3) := by decide +kernel
theorem jd_48_41 : decode prog_4_method_15_code 41 = .ok (.getfield 134, 3) := by decide +kernel
theorem jd_48_44 : decode prog_4_method_15_code 44 = .ok (.iload_n 2, 1) := by decide +kernel
theorem jd_48_45 : decode prog_4_method_15_code 45 = .ok (.iaload, 1) := by decide +kernel
theorem jd_48_46 : decode prog_4_method_15_code 46 = .ok (.iconst 2, 1) := by decide +kernel
theorem jd_48_47 : decode prog_4_method_15_code 47 = .ok (.if_icmp .ne 12, 3) := by decide +kernel
theorem jd_48_50 : decode prog_4_method_15_code 50 = .ok (.iload 4, 2) := by decide +kernel
theorem jd_48_52 : decode prog_4_method_15_code 52 = .ok (.ifCond .eq 15, 3) := by decide +kernel
theorem jd_48_55 : decode prog_4_method_15_code 55 = .ok (.iload_n 3, 1) := by decide +kernel
theorem jd_48_56 : decode prog_4_method_15_code 56 = .ok (.ifCond .eq 11, 3) := by decide +kernel
theorem jd_48_59 : decode prog_4_method_15_code 59 = .ok (.aload_n 0, 1) := by decide +kernel
theorem jd_48_60 : decode prog_4_method_15_code 60 = .ok (.iconst 2, 1) := by decide +kernel
theorem jd_48_61 : decode prog_4_method_15_code 61 = .ok (.invokevirtual 74, 3) := by decide +kernel
theorem jd_48_64 : decode prog_4_method_15_code 64 = .ok (.goto 68, 3) := by decide +kernel
theorem jd_48_67 : decode prog_4_method_15_code 67 = .ok (.iload_n 1, 1) := by decide +kernel
theorem jd_48_68 : decode prog_4_method_15_code 68 = .ok (.bipush 8, 2) := by decide +kernel
theorem jd_48_70 : decode prog_4_method_15_code 70 = .ok (.if_icmp .ne 19, 3) := by decide +kernel
theorem jd_48_73 : decode prog_4_method_15_code 73 = .ok (.aload_n 0, 1) := by decide +kernel
theorem jd_48_74 : decode prog_4_method_15_code 74 = .ok (.aload_n 0, 1) := by decide +kernel
theorem jd_48_75 : decode prog_4_method_15_code 75 = .ok (.getfield 21, 3) := by decide +kernel
theorem jd_48_78 : decode prog_4_method_15_code 78 = .ok (.getfield 137, 3) := by decide +kernel
theorem jd_48_81 : decode prog_4_method_15_code 81 = .ok (.iload_n 2, 1) := by decide +kernel
theorem jd_48_82 : decode prog_4_method_15_code 82 = .ok (.iaload, 1) := by decide +kernel
theorem jd_48_83 : decode prog_4_method_15_code 83 = .ok (.invokevirtual 112, 3) := by decide +kernel
theorem jd_48_86 : decode prog_4_method_15_code 86 = .ok (.goto 46, 3) := by decide +kernel
theorem jd_48_89 : decode prog_4_method_15_code 89 = .ok (.iload_n 1, 1) := by decide +kernel
theorem jd_48_90 : decode prog_4_method_15_code 90 = .ok (.bipush 9, 2) := by decide +kernel
theorem jd_48_92 : decode prog_4_method_15_code 92 = .ok (.if_icmp .ne 19, 3) := by decide +kernel
theorem jd_48_95 : decode prog_4_method_15_code 95 = .ok (.aload_n 0, 1) := by decide +kernel
theorem jd_48_96 : decode prog_4_method_15_code 96 = .ok (.aload_n 0, 1) := by decide +kernel
theorem jd_48_97 : decode prog_4_method_15_code 97 = .ok (.getfield 21, 3) := by decide +kernel
theorem jd_48_100 : decode prog_4_method_15_code 100 = .ok (.getfield 140, 3) := by decide +kernel
theorem jd_48_103 : decode prog_4_method_15_code 103 = .ok (.iload_n 2, 1) := by decide +kernel
theorem jd_48_104 : decode prog_4_method_15_code 104 = .ok (.iaload, 1) := by decide +kernel
theorem jd_48_105 : decode prog_4_method_15_code 105 = .ok (.invokevirtual 112, 3) := by decide +kernel
theorem jd_48_108 : decode prog_4_method_15_code 108 = .ok (.goto 24, 3) := by decide +kernel
theorem jd_48_111 : decode prog_4_method_15_code 111 = .ok (.aload_n 0, 1) := by decide +kernel
theorem jd_48_112 : decode prog_4_method_15_code 112 = .ok (.aload_n 0, 1) := by decide +kernel
theorem jd_48_113 : decode prog_4_method_15_code 113 = .ok (.getfield 21, 3) := by decide +kernel
theorem jd_48_116 : decode prog_4_method_15_code 116 = .ok (.iconst 1, 1) := by decide +kernel
theorem jd_48_117 : decode prog_4_method_15_code 117 = .ok (.iload_n 3, 1) := by decide +kernel
theorem jd_48_118 : decode prog_4_method_15_code 118 = .ok (.ifCond .eq 7, 3) := by decide +kernel
theorem jd_48_121 : decode prog_4_method_15_code 121 = .ok (.iconst 1, 1) := by decide +kernel
theorem jd_48_122 : decode prog_4_method_15_code 122 = .ok (.goto 4, 3) := by decide +kernel
theorem jd_48_125 : decode prog_4_method_15_code 125 = .ok (.iconst 0, 1) := by decide +kernel
theorem jd_48_126 : decode prog_4_method_15_code 126 = .ok (.invokevirtual 55, 3) := by decide +kernel
theorem jd_48_129 : decode prog_4_method_15_code 129 = .ok (.invokevirtual 112, 3) := by decide +kernel
theorem jd_48_132 : decode prog_4_method_15_code 132 = .ok (.return_, 1) := by decide +kernel
def jt_48 (pc : Nat) : jx_Sp := bif Nat.ble pc 64 then (bif Nat.ble pc 31 then (bif Nat.ble pc 16 then (bif Nat.ble pc 8 then (bif Nat.ble pc 4 then (bif Nat.ble pc 1 then (bif Nat.ble pc 0 then (bif Nat.beq pc 0 then js_al 0 1 else js_none) else (bif Nat.beq pc 1 then js_getf 2 1 else js_none)) else (bif Nat.beq pc 4 then js_getf 4 3 else js_none)) else (bif Nat.ble pc 7 then (bif Nat.beq pc 7 then js_il 2 1 else js_none) else (bif Nat.beq pc 8 then js_ald else js_none))) else (bif Nat.ble pc 12 then (bif Nat.ble pc 9 then (bif Nat.beq pc 9 then js_ifne 16 else js_none) else (bif Nat.beq pc 12 then js_c 1 1 else js_none)) else (bif Nat.ble pc 13 then (bif Nat.beq pc 13 then js_go 17 else js_none) else (bif Nat.beq pc 16 then js_c 0 1 else js_none)))) else (bif Nat.ble pc 24 then (bif Nat.ble pc 19 then (bif Nat.ble pc 18 then (bif Nat.ble pc 17 then (bif Nat.beq pc 17 then js_is 3 1 else js_none) else (bif Nat.beq pc 18 then js_il 1 1 else js_none)) else (bif Nat.beq pc 19 then js_c 8 2 else js_none)) else (bif Nat.ble pc 21 then (bif Nat.beq pc 21 then js_ceq 30 else js_none) else (bif Nat.beq pc 24 then js_il 1 1 else js_none))) else (bif Nat.ble pc 27 then (bif Nat.ble pc 25 then (bif Nat.beq pc 25 then js_c 9 2 else js_none) else (bif Nat.beq pc 27 then js_cne 34 else js_none)) else (bif Nat.ble pc 30 then (bif Nat.beq pc 30 then js_c 1 1 else js_none) else (bif Nat.beq pc 31 then js_go 35 else js_none))))) else (bif Nat.ble pc 47 then (bif Nat.ble pc 41 then (bif Nat.ble pc 37 then (bif Nat.ble pc 35 then (bif Nat.ble pc 34 then (bif Nat.beq pc 34 then js_c 0 1 else js_none) else (bif Nat.beq pc 35 then js_is 4 2 else js_none)) else (bif Nat.beq pc 37 then js_al 0 1 else js_none)) else (bif Nat.ble pc 38 then (bif Nat.beq pc 38 then js_getf 2 1 else js_none) else (bif Nat.beq pc 41 then js_getf 4 0 else js_none))) else (bif Nat.ble pc 45 then (bif Nat.ble pc 44 then (bif Nat.beq pc 44 then js_il 2 1 else js_none) else (bif Nat.beq pc 45 then js_ald else js_none)) else (bif Nat.ble pc 46 then (bif Nat.beq pc 46 then js_c 2 1 else js_none) else (bif Nat.beq pc 47 then js_cne 59 else js_none)))) else (bif Nat.ble pc 56 then (bif Nat.ble pc 52 then (bif Nat.ble pc 50 then (bif Nat.beq pc 50 then js_il 4 2 else js_none) else (bif Nat.beq pc 52 then js_ifeq 67 else js_none)) else (bif Nat.ble pc 55 then (bif Nat.beq pc 55 then js_il 3 1 else js_none) else (bif Nat.beq pc 56 then js_ifeq 67 else js_none))) else (bif Nat.ble pc 60 then (bif Nat.ble pc 59 then (bif Nat.beq pc 59 then js_al 0 1 else js_none) else (bif Nat.beq pc 60 then js_c 2 1 else js_none)) else (bif Nat.ble pc 61 then (bif Nat.beq pc 61 then js_v1 2 53 else js_none) else (bif Nat.beq pc 64 then js_go 132 else js_none)))))) else (bif Nat.ble pc 97 then (bif Nat.ble pc 82 then (bif Nat.ble pc 74 then (bif Nat.ble pc 70 then (bif Nat.ble pc 68 then (bif Nat.ble pc 67 then (bif Nat.beq pc 67 then js_il 1 1 else js_none) else (bif Nat.beq pc 68 then js_c 8 2 else js_none)) else (bif Nat.beq pc 70 then js_cne 89 else js_none)) else (bif Nat.ble pc 73 then (bif Nat.beq pc 73 then js_al 0 1 else js_none) else (bif Nat.beq pc 74 then js_al 0 1 else js_none))) else (bif Nat.ble pc 78 then (bif Nat.ble pc 75 then (bif Nat.beq pc 75 then js_getf 2 1 else js_none) else (bif Nat.beq pc 78 then js_getf 4 1 else js_none)) else (bif Nat.ble pc 81 then (bif Nat.beq pc 81 then js_il 2 1 else js_none) else (bif Nat.beq pc 82 then js_ald else js_none)))) else (bif Nat.ble pc 90 then (bif Nat.ble pc 86 then (bif Nat.ble pc 83 then (bif Nat.beq pc 83 then js_v1 2 52 else js_none) else (bif Nat.beq pc 86 then js_go 132 else js_none)) else (bif Nat.ble pc 89 then (bif Nat.beq pc 89 then js_il 1 1 else js_none) else (bif Nat.beq pc 90 then js_c 9 2 else js_none))) else (bif Nat.ble pc 95 then (bif Nat.ble pc 92 then (bif Nat.beq pc 92 then js_cne 111 else js_none) else (bif Nat.beq pc 95 then js_al 0 1 else js_none)) else (bif Nat.ble pc 96 then (bif Nat.beq pc 96 then js_al 0 1 else js_none) else (bif Nat.beq pc 97 then js_getf 2 1 else js_none))))) else (bif Nat.ble pc 116 then (bif Nat.ble pc 108 then (bif Nat.ble pc 104 then (bif Nat.ble pc 103 then (bif Nat.ble pc 100 then (bif Nat.beq pc 100 then js_getf 4 2 else js_none) else (bif Nat.beq pc 103 then js_il 2 1 else js_none)) else (bif Nat.beq pc 104 then js_ald else js_none)) else (bif Nat.ble pc 105 then (bif Nat.beq pc 105 then js_v1 2 52 else js_none) else (bif Nat.beq pc 108 then js_go 132 else js_none))) else (bif Nat.ble pc 112 then (bif Nat.ble pc 111 then (bif Nat.beq pc 111 then js_al 0 1 else js_none) else (bif Nat.beq pc 112 then js_al 0 1 else js_none)) else (bif Nat.ble pc 113 then (bif Nat.beq pc 113 then js_getf 2 1 else js_none) else (bif Nat.beq pc 116 then js_c 1 1 else js_none)))) else (bif Nat.ble pc 122 then (bif Nat.ble pc 118 then (bif Nat.ble pc 117 then (bif Nat.beq pc 117 then js_il 3 1 else js_none) else (bif Nat.beq pc 118 then js_ifeq 125 else js_none)) else (bif Nat.ble pc 121 then (bif Nat.beq pc 121 then js_c 1 1 else js_none) else (bif Nat.beq pc 122 then js_go 126 else js_none))) else (bif Nat.ble pc 126 then (bif Nat.ble pc 125 then (bif Nat.beq pc 125 then js_c 0 1 else js_none) else (bif Nat.beq pc 126 then js_v2 4 64 else js_none)) else (bif Nat.ble pc 129 then (bif Nat.beq pc 129 then js_v1 2 52 else js_none) else (bif Nat.beq pc 132 then js_vr else js_none))))))
theorem jk_48_0 : jx_Snd 48 0 (js_al 0 1) := jo_aload_n (i := 0) (w := 0) rfl jd_48_0
theorem jk_48_1 : jx_Snd 48 1 (js_getf 2 1) := jo_getf rfl jf_2_21 jd_48_1
theorem jk_48_4 : jx_Snd 48 4 (js_getf 4 3) := jo_getf rfl jf_2_144 jd_48_4
theorem jk_48_7 : jx_Snd 48 7 (js_il 2 1) := jo_iload_n (i := 2) (w := 2) rfl jd_48_7
theorem jk_48_8 : jx_Snd 48 8 (js_ald) := jo_ald jd_48_8
theorem jk_48_9 : jx_Snd 48 9 (js_ifne 16) := jo_ifne (o := 7) rfl jd_48_9
theorem jk_48_12 : jx_Snd 48 12 (js_c 1 1) := jo_iconst (z := 1) jd_48_12 rfl
theorem jk_48_13 : jx_Snd 48 13 (js_go 17) := jo_goto (o := 4) rfl jd_48_13
theorem jk_48_16 : jx_Snd 48 16 (js_c 0 1) := jo_iconst (z := 0) jd_48_16 rfl
theorem jk_48_17 : jx_Snd 48 17 (js_is 3 1) := jo_istore_n (i := 3) (w := 3) rfl (Nat.le_of_ble_eq_true rfl) jd_48_17
theorem jk_48_18 : jx_Snd 48 18 (js_il 1 1) := jo_iload_n (i := 1) (w := 1) rfl jd_48_18
theorem jk_48_19 : jx_Snd 48 19 (js_c 8 2) := jo_bipush (z := 8) jd_48_19 (by decide +kernel)
theorem jk_48_21 : jx_Snd 48 21 (js_ceq 30) := jo_ceq (o := 9) rfl jd_48_21
theorem jk_48_24 : jx_Snd 48 24 (js_il 1 1) := jo_iload_n (i := 1) (w := 1) rfl jd_48_24
theorem jk_48_25 : jx_Snd 48 25 (js_c 9 2) := jo_bipush (z := 9) jd_48_25 (by decide +kernel)
theorem jk_48_27 : jx_Snd 48 27 (js_cne 34) := jo_cne (o := 7) rfl jd_48_27
theorem jk_48_30 : jx_Snd 48 30 (js_c 1 1) := jo_iconst (z := 1) jd_48_30 rfl
theorem jk_48_31 : jx_Snd 48 31 (js_go 35) := jo_goto (o := 4) rfl jd_48_31
theorem jk_48_34 : jx_Snd 48 34 (js_c 0 1) := jo_iconst (z := 0) jd_48_34 rfl
theorem jk_48_35 : jx_Snd 48 35 (js_is 4 2) := jo_istore (i := 4) (Nat.le_of_ble_eq_true rfl) jd_48_35
theorem jk_48_37 : jx_Snd 48 37 (js_al 0 1) := jo_aload_n (i := 0) (w := 0) rfl jd_48_37
theorem jk_48_38 : jx_Snd 48 38 (js_getf 2 1) := jo_getf rfl jf_2_21 jd_48_38
theorem jk_48_41 : jx_Snd 48 41 (js_getf 4 0) := jo_getf rfl jf_2_134 jd_48_41
theorem jk_48_44 : jx_Snd 48 44 (js_il 2 1) := jo_iload_n (i := 2) (w := 2) rfl jd_48_44
theorem jk_48_45 : jx_Snd 48 45 (js_ald) := jo_ald jd_48_45
theorem jk_48_46 : jx_Snd 48 46 (js_c 2 1) := jo_iconst (z := 2) jd_48_46 rfl
theorem jk_48_47 : jx_Snd 48 47 (js_cne 59) := jo_cne (o := 12) rfl jd_48_47
theorem jk_48_50 : jx_Snd 48 50 (js_il 4 2) := jo_iload (i := 4) jd_48_50
theorem jk_48_52 : jx_Snd 48 52 (js_ifeq 67) := jo_ifeq (o := 15) rfl jd_48_52
theorem jk_48_55 : jx_Snd 48 55 (js_il 3 1) := jo_iload_n (i := 3) (w := 3) rfl jd_48_55
theorem jk_48_56 : jx_Snd 48 56 (js_ifeq 67) := jo_ifeq (o := 11) rfl jd_48_56
theorem jk_48_59 : jx_Snd 48 59 (js_al 0 1) := jo_aload_n (i := 0) (w := 0) rfl jd_48_59
theorem jk_48_60 : jx_Snd 48 60 (js_c 2 1) := jo_iconst (z := 2) jd_48_60 rfl
theorem jk_48_61 : jx_Snd 48 61 (js_v1 2 53) := jo_v1 rfl jok_53 (Or.inl jw_235) jw_236 jw_689 rfl jd_48_61
theorem jk_48_64 : jx_Snd 48 64 (js_go 132) := jo_goto (o := 68) rfl jd_48_64
theorem jk_48_67 : jx_Snd 48 67 (js_il 1 1) := jo_iload_n (i := 1) (w := 1) rfl jd_48_67
theorem jk_48_68 : jx_Snd 48 68 (js_c 8 2) := jo_bipush (z := 8) jd_48_68 (by decide +kernel)
theorem jk_48_70 : jx_Snd 48 70 (js_cne 89) := jo_cne (o := 19) rfl jd_48_70
theorem jk_48_73 : jx_Snd 48 73 (js_al 0 1) := jo_aload_n (i := 0) (w := 0) rfl jd_48_73
theorem jk_48_74 : jx_Snd 48 74 (js_al 0 1) := jo_aload_n (i := 0) (w := 0) rfl jd_48_74
theorem jk_48_75 : jx_Snd 48 75 (js_getf 2 1) := jo_getf rfl jf_2_21 jd_48_75
theorem jk_48_78 : jx_Snd 48 78 (js_getf 4 1) := jo_getf rfl jf_2_137 jd_48_78
theorem jk_48_81 : jx_Snd 48 81 (js_il 2 1) := jo_iload_n (i := 2) (w := 2) rfl jd_48_81
theorem jk_48_82 : jx_Snd 48 82 (js_ald) := jo_ald jd_48_82
theorem jk_48_83 : jx_Snd 48 83 (js_v1 2 52) := jo_v1 rfl jok_52 (Or.inl jw_248) jw_249 jw_692 rfl jd_48_83
theorem jk_48_86 : jx_Snd 48 86 (js_go 132) := jo_goto (o := 46) rfl jd_48_86
theorem jk_48_89 : jx_Snd 48 89 (js_il 1 1) := jo_iload_n (i := 1) (w := 1) rfl jd_48_89
theorem jk_48_90 : jx_Snd 48 90 (js_c 9 2) := jo_bipush (z := 9) jd_48_90 (by decide +kernel)
theorem jk_48_92 : jx_Snd 48 92 (js_cne 111) := jo_cne (o := 19) rfl jd_48_92
theorem jk_48_95 : jx_Snd 48 95 (js_al 0 1) := jo_aload_n (i := 0) (w := 0) rfl jd_48_95
theorem jk_48_96 : jx_Snd 48 96 (js_al 0 1) := jo_aload_n (i := 0) (w := 0) rfl jd_48_96
theorem jk_48_97 : jx_Snd 48 97 (js_getf 2 1) := jo_getf rfl jf_2_21 jd_48_97
theorem jk_48_100 : jx_Snd 48 100 (js_getf 4 2) := jo_getf rfl jf_2_140 jd_48_100
theorem jk_48_103 : jx_Snd 48 103 (js_il 2 1) := jo_iload_n (i := 2) (w := 2) rfl jd_48_103
theorem jk_48_104 : jx_Snd 48 104 (js_ald) := jo_ald jd_48_104
theorem jk_48_105 : jx_Snd 48 105 (js_v1 2 52) := jo_v1 rfl jok_52 (Or.inl jw_248) jw_249 jw_692 rfl jd_48_105
theorem jk_48_108 : jx_Snd 48 108 (js_go 132) := jo_goto (o := 24) rfl jd_48_108
theorem jk_48_111 : jx_Snd 48 111 (js_al 0 1) := jo_aload_n (i := 0) (w := 0) rfl jd_48_111
theorem jk_48_112 : jx_Snd 48 112 (js_al 0 1) := jo_aload_n (i := 0) (w := 0) rfl jd_48_112
theorem jk_48_113 : jx_Snd 48 113 (js_getf 2 1) := jo_getf rfl jf_2_21 jd_48_113
theorem jk_48_116 : jx_Snd 48 116 (js_c 1 1) := jo_iconst (z := 1) jd_48_116 rfl
theorem jk_48_117 : jx_Snd 48 117 (js_il 3 1) := jo_iload_n (i := 3) (w := 3) rfl jd_48_117
theorem jk_48_118 : jx_Snd 48 118 (js_ifeq 125) := jo_ifeq (o := 7) rfl jd_48_118
theorem jk_48_121 : jx_Snd 48 121 (js_c 1 1) := jo_iconst (z := 1) jd_48_121 rfl
theorem jk_48_122 : jx_Snd 48 122 (js_go 126) := jo_goto (o := 4) rfl jd_48_122
theorem jk_48_125 : jx_Snd 48 125 (js_c 0 1) := jo_iconst (z := 0) jd_48_125 rfl
theorem jk_48_126 : jx_Snd 48 126 (js_v2 4 64) := jo_v2 rfl jok_64 (Or.inl jw_224) jw_225 jw_226 rfl jd_48_126
theorem jk_48_129 : jx_Snd 48 129 (js_v1 2 52) := jo_v1 rfl jok_52 (Or.inl jw_248) jw_249 jw_692 rfl jd_48_129
theorem jk_48_132 : jx_Snd 48 132 (js_vr) := jo_vr rfl jd_48_132
theorem jk_48 : jx_So 48 jt_48 := fun pc => jo_le (jo_le (jo_le (jo_le (jo_le (jo_le (jo_le (jo_at (jk_48_0)) (jo_at (jk_48_1))) (jo_at (jk_48_4))) (jo_le (jo_at (jk_48_7)) (jo_at (jk_48_8)))) (jo_le (jo_le (jo_at (jk_48_9)) (jo_at (jk_48_12))) (jo_le (jo_at (jk_48_13)) (jo_at (jk_48_16))))) (jo_le (jo_le (jo_le (jo_le (jo_at (jk_48_17)) (jo_at (jk_48_18))) (jo_at (jk_48_19))) (jo_le (jo_at (jk_48_21)) (jo_at (jk_48_24)))) (jo_le (jo_le (jo_at (jk_48_25)) (jo_at (jk_48_27))) (jo_le (jo_at (jk_48_30)) (jo_at (jk_48_31)))))) (jo_le (jo_le (jo_le (jo_le (jo_le (jo_at (jk_48_34)) (jo_at (jk_48_35))) (jo_at (jk_48_37))) (jo_le (jo_at (jk_48_38)) (jo_at (jk_48_41)))) (jo_le (jo_le (jo_at (jk_48_44)) (jo_at (jk_48_45))) (jo_le (jo_at (jk_48_46)) (jo_at (jk_48_47))))) (jo_le (jo_le (jo_le (jo_at (jk_48_50)) (jo_at (jk_48_52))) (jo_le (jo_at (jk_48_55)) (jo_at (jk_48_56)))) (jo_le (jo_le (jo_at (jk_48_59)) (jo_at (jk_48_60))) (jo_le (jo_at (jk_48_61)) (jo_at (jk_48_64))))))) (jo_le (jo_le (jo_le (jo_le (jo_le (jo_le (jo_at (jk_48_67)) (jo_at (jk_48_68))) (jo_at (jk_48_70))) (jo_le (jo_at (jk_48_73)) (jo_at (jk_48_74)))) (jo_le (jo_le (jo_at (jk_48_75)) (jo_at (jk_48_78))) (jo_le (jo_at (jk_48_81)) (jo_at (jk_48_82))))) (jo_le (jo_le (jo_le (jo_at (jk_48_83)) (jo_at (jk_48_86))) (jo_le (jo_at (jk_48_89)) (jo_at (jk_48_90)))) (jo_le (jo_le (jo_at (jk_48_92)) (jo_at (jk_48_95))) (jo_le (jo_at (jk_48_96)) (jo_at (jk_48_97)))))) (jo_le (jo_le (jo_le (jo_le (jo_le (jo_at (jk_48_100)) (jo_at (jk_48_103))) (jo_at (jk_48_104))) (jo_le (jo_at (jk_48_105)) (jo_at (jk_48_108)))) (jo_le (jo_le (jo_at (jk_48_111)) (jo_at (jk_48_112))) (jo_le (jo_at (jk_48_113)) (jo_at (jk_48_116))))) (jo_le (jo_le (jo_le (jo_at (jk_48_117)) (jo_at (jk_48_118))) (jo_le (jo_at (jk_48_121)) (jo_at (jk_48_122)))) (jo_le (jo_le (jo_at (jk_48_125)) (jo_at (jk_48_126))) (jo_le (jo_at (jk_48_129)) (jo_at (jk_48_132)))))))
theorem ji_48 {l : Launch} {D : va_G} {cA : ClassId} {ρ : Nat → Nat} {Λ : List jx_Lc} {d : Nat} {Q : Option Value → jx_St → Prop} {σ : jx_St} {z0 : Nat} {a1 : Int32} {a2 : Int32} (h : jt_48 0 Λ jx_tb0 (jx_rn Λ jx_tb0 jt_48 (fun k' as σ K => jx_C l D cA ρ Λ d k' as σ K) Q (jx_J l D cA ρ Λ (jx_A ρ Λ) jx_tb0 (d + 1) 48 Q) [] 400) (fun k' as σ K => jx_C l D cA ρ Λ d k' as σ K) Q 0 [(0, .ref z0), (1, .int a1), (2, .int a2)] [] σ) : jx_C l D cA ρ Λ (d + 1) 48 [.ref z0, .int a1, .int a2] σ Q := jx_in jk_48 400 [] rfl (Nat.le_of_ble_eq_true rfl) h
/-! ScriptLedger$Machine.pay(I)Z -/
theorem jd_49_0 : decode prog_4_method_16_code 0 = .ok (.aload_n 0, 1) := by decide +kernel
theorem jd_49_1 : decode prog_4_method_16_code 1 = .ok (.getfield 84, 3) := by decide +kernel
theorem jd_49_4 : decode prog_4_method_16_code 4 = .ok (.iload_n 1, 1) := by decide +kernel
theorem jd_49_5 : decode prog_4_method_16_code 5 = .ok (.iadd, 1) := by decide +kernel
theorem jd_49_6 : decode prog_4_method_16_code 6 = .ok (.aload_n 0, 1) := by decide +kernel
theorem jd_49_7 : decode prog_4_method_16_code 7 = .ok (.getfield 87, 3) := by decide +kernel
theorem jd_49_10 : decode prog_4_method_16_code 10 = .ok (.if_icmp .le 18, 3) := by decide +kernel
theorem jd_49_13 : decode prog_4_method_16_code 13 = .ok (.aload_n 0, 1) := by decide +kernel
theorem jd_49_14 : decode prog_4_method_16_code 14 = .ok (.aload_n 0, 1) := by decide +kernel
theorem jd_49_15 : decode prog_4_method_16_code 15 = .ok (.getfield 87, 3) := by decide +kernel
theorem jd_49_18 : decode prog_4_method_16_code 18 = .ok (.putfield 84, 3) := by decide +kernel
theorem jd_49_21 : decode prog_4_method_16_code 21 = .ok (.aload_n 0, 1) := by decide +kernel
theorem jd_49_22 : decode prog_4_method_16_code 22 = .ok (.iconst 3, 1) := by decide +kernel
theorem jd_49_23 : decode prog_4_method_16_code 23 = .ok (.invokevirtual 74, 3) := by decide +kernel
theorem jd_49_26 : decode prog_4_method_16_code 26 = .ok (.iconst 0, 1) := by decide +kernel
theorem jd_49_27 : decode prog_4_method_16_code 27 = .ok (.ireturn, 1) := by decide +kernel
theorem jd_49_28 : decode prog_4_method_16_code 28 = .ok (.aload_n 0, 1) := by decide +kernel
theorem jd_49_29 : decode prog_4_method_16_code 29 = .ok (.dup, 1) := by decide +kernel
theorem jd_49_30 : decode prog_4_method_16_code 30 = .ok (.getfield 84, 3) := by decide +kernel
theorem jd_49_33 : decode prog_4_method_16_code 33 = .ok (.iload_n 1, 1) := by decide +kernel
theorem jd_49_34 : decode prog_4_method_16_code 34 = .ok (.iadd, 1) := by decide +kernel
theorem jd_49_35 : decode prog_4_method_16_code 35 = .ok (.putfield 84, 3) := by decide +kernel
theorem jd_49_38 : decode prog_4_method_16_code 38 = .ok (.iconst 1, 1) := by decide +kernel
theorem jd_49_39 : decode prog_4_method_16_code 39 = .ok (.ireturn, 1) := by decide +kernel
def jt_49 (pc : Nat) : jx_Sp := bif Nat.ble pc 21 then (bif Nat.ble pc 7 then (bif Nat.ble pc 4 then (bif Nat.ble pc 1 then (bif Nat.ble pc 0 then (bif Nat.beq pc 0 then js_al 0 1 else js_none) else (bif Nat.beq pc 1 then js_getf 2 12 else js_none)) else (bif Nat.beq pc 4 then js_il 1 1 else js_none)) else (bif Nat.ble pc 6 then (bif Nat.ble pc 5 then (bif Nat.beq pc 5 then js_iadd else js_none) else (bif Nat.beq pc 6 then js_al 0 1 else js_none)) else (bif Nat.beq pc 7 then js_getf 2 11 else js_none))) else (bif Nat.ble pc 14 then (bif Nat.ble pc 13 then (bif Nat.ble pc 10 then (bif Nat.beq pc 10 then js_cle 28 else js_none) else (bif Nat.beq pc 13 then js_al 0 1 else js_none)) else (bif Nat.beq pc 14 then js_al 0 1 else js_none)) else (bif Nat.ble pc 18 then (bif Nat.ble pc 15 then (bif Nat.beq pc 15 then js_getf 2 11 else js_none) else (bif Nat.beq pc 18 then js_putf 2 12 false else js_none)) else (bif Nat.beq pc 21 then js_al 0 1 else js_none)))) else (bif Nat.ble pc 29 then (bif Nat.ble pc 26 then (bif Nat.ble pc 23 then (bif Nat.ble pc 22 then (bif Nat.beq pc 22 then js_c 3 1 else js_none) else (bif Nat.beq pc 23 then js_v1 2 53 else js_none)) else (bif Nat.beq pc 26 then js_c 0 1 else js_none)) else (bif Nat.ble pc 28 then (bif Nat.ble pc 27 then (bif Nat.beq pc 27 then js_zr else js_none) else (bif Nat.beq pc 28 then js_al 0 1 else js_none)) else (bif Nat.beq pc 29 then js_dup else js_none))) else (bif Nat.ble pc 34 then (bif Nat.ble pc 33 then (bif Nat.ble pc 30 then (bif Nat.beq pc 30 then js_getf 2 12 else js_none) else (bif Nat.beq pc 33 then js_il 1 1 else js_none)) else (bif Nat.beq pc 34 then js_iadd else js_none)) else (bif Nat.ble pc 38 then (bif Nat.ble pc 35 then (bif Nat.beq pc 35 then js_putf 2 12 false else js_none) else (bif Nat.beq pc 38 then js_c 1 1 else js_none)) else (bif Nat.beq pc 39 then js_zr else js_none))))
theorem jk_49_0 : jx_Snd 49 0 (js_al 0 1) := jo_aload_n (i := 0) (w := 0) rfl jd_49_0
theorem jk_49_1 : jx_Snd 49 1 (js_getf 2 12) := jo_getf rfl jf_2_84 jd_49_1
theorem jk_49_4 : jx_Snd 49 4 (js_il 1 1) := jo_iload_n (i := 1) (w := 1) rfl jd_49_4
theorem jk_49_5 : jx_Snd 49 5 (js_iadd) := jo_iadd jd_49_5
theorem jk_49_6 : jx_Snd 49 6 (js_al 0 1) := jo_aload_n (i := 0) (w := 0) rfl jd_49_6
theorem jk_49_7 : jx_Snd 49 7 (js_getf 2 11) := jo_getf rfl jf_2_87 jd_49_7
theorem jk_49_10 : jx_Snd 49 10 (js_cle 28) := jo_cle (o := 18) rfl jd_49_10
theorem jk_49_13 : jx_Snd 49 13 (js_al 0 1) := jo_aload_n (i := 0) (w := 0) rfl jd_49_13
theorem jk_49_14 : jx_Snd 49 14 (js_al 0 1) := jo_aload_n (i := 0) (w := 0) rfl jd_49_14
theorem jk_49_15 : jx_Snd 49 15 (js_getf 2 11) := jo_getf rfl jf_2_87 jd_49_15
theorem jk_49_18 : jx_Snd 49 18 (js_putf 2 12 false) := jo_putf (z := false) rfl jf_2_84 (fun C T N h => by cases h; rfl) jd_49_18
theorem jk_49_21 : jx_Snd 49 21 (js_al 0 1) := jo_aload_n (i := 0) (w := 0) rfl jd_49_21
theorem jk_49_22 : jx_Snd 49 22 (js_c 3 1) := jo_iconst (z := 3) jd_49_22 rfl
theorem jk_49_23 : jx_Snd 49 23 (js_v1 2 53) := jo_v1 rfl jok_53 (Or.inl jw_235) jw_236 jw_689 rfl jd_49_23
theorem jk_49_26 : jx_Snd 49 26 (js_c 0 1) := jo_iconst (z := 0) jd_49_26 rfl
theorem jk_49_27 : jx_Snd 49 27 (js_zr) := jo_zr rfl jd_49_27
theorem jk_49_28 : jx_Snd 49 28 (js_al 0 1) := jo_aload_n (i := 0) (w := 0) rfl jd_49_28
theorem jk_49_29 : jx_Snd 49 29 (js_dup) := jo_dup jd_49_29
theorem jk_49_30 : jx_Snd 49 30 (js_getf 2 12) := jo_getf rfl jf_2_84 jd_49_30
theorem jk_49_33 : jx_Snd 49 33 (js_il 1 1) := jo_iload_n (i := 1) (w := 1) rfl jd_49_33
theorem jk_49_34 : jx_Snd 49 34 (js_iadd) := jo_iadd jd_49_34
theorem jk_49_35 : jx_Snd 49 35 (js_putf 2 12 false) := jo_putf (z := false) rfl jf_2_84 (fun C T N h => by cases h; rfl) jd_49_35
theorem jk_49_38 : jx_Snd 49 38 (js_c 1 1) := jo_iconst (z := 1) jd_49_38 rfl
theorem jk_49_39 : jx_Snd 49 39 (js_zr) := jo_zr rfl jd_49_39
theorem jk_49 : jx_So 49 jt_49 := fun pc => jo_le (jo_le (jo_le (jo_le (jo_le (jo_at (jk_49_0)) (jo_at (jk_49_1))) (jo_at (jk_49_4))) (jo_le (jo_le (jo_at (jk_49_5)) (jo_at (jk_49_6))) (jo_at (jk_49_7)))) (jo_le (jo_le (jo_le (jo_at (jk_49_10)) (jo_at (jk_49_13))) (jo_at (jk_49_14))) (jo_le (jo_le (jo_at (jk_49_15)) (jo_at (jk_49_18))) (jo_at (jk_49_21))))) (jo_le (jo_le (jo_le (jo_le (jo_at (jk_49_22)) (jo_at (jk_49_23))) (jo_at (jk_49_26))) (jo_le (jo_le (jo_at (jk_49_27)) (jo_at (jk_49_28))) (jo_at (jk_49_29)))) (jo_le (jo_le (jo_le (jo_at (jk_49_30)) (jo_at (jk_49_33))) (jo_at (jk_49_34))) (jo_le (jo_le (jo_at (jk_49_35)) (jo_at (jk_49_38))) (jo_at (jk_49_39)))))
theorem ji_49 {l : Launch} {D : va_G} {cA : ClassId} {ρ : Nat → Nat} {Λ : List jx_Lc} {d : Nat} {Q : Option Value → jx_St → Prop} {σ : jx_St} {z0 : Nat} {a1 : Int32} (h : jt_49 0 Λ jx_tb0 (jx_rn Λ jx_tb0 jt_49 (fun k' as σ K => jx_C l D cA ρ Λ d k' as σ K) Q (jx_J l D cA ρ Λ (jx_A ρ Λ) jx_tb0 (d + 1) 49 Q) [] 400) (fun k' as σ K => jx_C l D cA ρ Λ d k' as σ K) Q 0 [(0, .ref z0), (1, .int a1)] [] σ) : jx_C l D cA ρ Λ (d + 1) 49 [.ref z0, .int a1] σ Q := jx_in jk_49 400 [] rfl (Nat.le_of_ble_eq_true rfl) h
/-! ScriptLedger$Machine.push(III)V -/
theorem jd_50_0 : decode prog_4_method_17_code 0 = .ok (.aload_n 0, 1) := by decide +kernel
theorem jd_50_1 : decode prog_4_method_17_code 1 = .ok (.getfield 81, 3) := by decide +kernel
theorem jd_50_4 : decode prog_4_method_17_code 4 = .ok (.sipush 128, 3) := by decide +kernel
theorem jd_50_7 : decode prog_4_method_17_code 7 = .ok (.if_icmp .lt 9, 3) := by decide +kernel
theorem jd_50_10 : decode prog_4_method_17_code 10 = .ok (.aload_n 0, 1) := by decide +kernel
theorem jd_50_11 : decode prog_4_method_17_code 11 = .ok (.iconst 3, 1) := by decide +kernel
theorem jd_50_12 : decode prog_4_method_17_code 12 = .ok (.invokevirtual 74, 3) := by decide +kernel
theorem jd_50_15 : decode prog_4_method_17_code 15 = .ok (.return_, 1) := by decide +kernel
theorem jd_50_16 : decode prog_4_method_17_code 16 = .ok (.aload_n 0, 1) := by decide +kernel
theorem jd_50_17 : decode prog_4_method_17_code 17 = .ok (.getfield 25, 3) := by decide +kernel
theorem jd_50_20 : decode prog_4_method_17_code 20 = .ok (.aload_n 0, 1) := by decide +kernel
theorem jd_50_21 : decode prog_4_method_17_code 21 = .ok (.getfield 81, 3) := by decide +kernel
theorem jd_50_24 : decode prog_4_method_17_code 24 = .ok (.iload_n 1, 1) := by decide +kernel
theorem jd_50_25 : decode prog_4_method_17_code 25 = .ok (.iastore, 1) := by decide +kernel
theorem jd_50_26 : decode prog_4_method_17_code 26 = .ok (.aload_n 0, 1) := by decide +kernel
theorem jd_50_27 : decode prog_4_method_17_code 27 = .ok (.getfield 29, 3) := by decide +kernel
theorem jd_50_30 : decode prog_4_method_17_code 30 = .ok (.aload_n 0, 1) := by decide +kernel
theorem jd_50_31 : decode prog_4_method_17_code 31 = .ok (.getfield 81, 3) := by decide +kernel
theorem jd_50_34 : decode prog_4_method_17_code 34 = .ok (.iload_n 2, 1) := by decide +kernel
theorem jd_50_35 : decode prog_4_method_17_code 35 = .ok (.iastore, 1) := by decide +kernel
theorem jd_50_36 : decode prog_4_method_17_code 36 = .ok (.aload_n 0, 1) := by decide +kernel
theorem jd_50_37 : decode prog_4_method_17_code 37 = .ok (.getfield 32, 3) := by decide +kernel
theorem jd_50_40 : decode prog_4_method_17_code 40 = .ok (.aload_n 0, 1) := by decide +kernel
theorem jd_50_41 : decode prog_4_method_17_code 41 = .ok (.getfield 81, 3) := by decide +kernel
theorem jd_50_44 : decode prog_4_method_17_code 44 = .ok (.iload_n 3, 1) := by decide +kernel
theorem jd_50_45 : decode prog_4_method_17_code 45 = .ok (.iastore, 1) := by decide +kernel
theorem jd_50_46 : decode prog_4_method_17_code 46 = .ok (.aload_n 0, 1) := by decide +kernel
theorem jd_50_47 : decode prog_4_method_17_code 47 = .ok (.dup, 1) := by decide +kernel
theorem jd_50_48 : decode prog_4_method_17_code 48 = .ok (.getfield 81, 3) := by decide +kernel
theorem jd_50_51 : decode prog_4_method_17_code 51 = .ok (.iconst 1, 1) := by decide +kernel
theorem jd_50_52 : decode prog_4_method_17_code 52 = .ok (.iadd, 1) := by decide +kernel
theorem jd_50_53 : decode prog_4_method_17_code 53 = .ok (.putfield 81, 3) := by decide +kernel
theorem jd_50_56 : decode prog_4_method_17_code 56 = .ok (.return_, 1) := by decide +kernel
def jt_50 (pc : Nat) : jx_Sp := bif Nat.ble pc 30 then (bif Nat.ble pc 16 then (bif Nat.ble pc 10 then (bif Nat.ble pc 4 then (bif Nat.ble pc 1 then (bif Nat.ble pc 0 then (bif Nat.beq pc 0 then js_al 0 1 else js_none) else (bif Nat.beq pc 1 then js_getf 2 5 else js_none)) else (bif Nat.beq pc 4 then js_c 128 3 else js_none)) else (bif Nat.ble pc 7 then (bif Nat.beq pc 7 then js_clt 16 else js_none) else (bif Nat.beq pc 10 then js_al 0 1 else js_none))) else (bif Nat.ble pc 12 then (bif Nat.ble pc 11 then (bif Nat.beq pc 11 then js_c 3 1 else js_none) else (bif Nat.beq pc 12 then js_v1 2 53 else js_none)) else (bif Nat.ble pc 15 then (bif Nat.beq pc 15 then js_vr else js_none) else (bif Nat.beq pc 16 then js_al 0 1 else js_none)))) else (bif Nat.ble pc 24 then (bif Nat.ble pc 20 then (bif Nat.ble pc 17 then (bif Nat.beq pc 17 then js_getf 2 2 else js_none) else (bif Nat.beq pc 20 then js_al 0 1 else js_none)) else (bif Nat.ble pc 21 then (bif Nat.beq pc 21 then js_getf 2 5 else js_none) else (bif Nat.beq pc 24 then js_il 1 1 else js_none))) else (bif Nat.ble pc 26 then (bif Nat.ble pc 25 then (bif Nat.beq pc 25 then js_ast else js_none) else (bif Nat.beq pc 26 then js_al 0 1 else js_none)) else (bif Nat.ble pc 27 then (bif Nat.beq pc 27 then js_getf 2 3 else js_none) else (bif Nat.beq pc 30 then js_al 0 1 else js_none))))) else (bif Nat.ble pc 44 then (bif Nat.ble pc 36 then (bif Nat.ble pc 34 then (bif Nat.ble pc 31 then (bif Nat.beq pc 31 then js_getf 2 5 else js_none) else (bif Nat.beq pc 34 then js_il 2 1 else js_none)) else (bif Nat.ble pc 35 then (bif Nat.beq pc 35 then js_ast else js_none) else (bif Nat.beq pc 36 then js_al 0 1 else js_none))) else (bif Nat.ble pc 40 then (bif Nat.ble pc 37 then (bif Nat.beq pc 37 then js_getf 2 4 else js_none) else (bif Nat.beq pc 40 then js_al 0 1 else js_none)) else (bif Nat.ble pc 41 then (bif Nat.beq pc 41 then js_getf 2 5 else js_none) else (bif Nat.beq pc 44 then js_il 3 1 else js_none)))) else (bif Nat.ble pc 48 then (bif Nat.ble pc 46 then (bif Nat.ble pc 45 then (bif Nat.beq pc 45 then js_ast else js_none) else (bif Nat.beq pc 46 then js_al 0 1 else js_none)) else (bif Nat.ble pc 47 then (bif Nat.beq pc 47 then js_dup else js_none) else (bif Nat.beq pc 48 then js_getf 2 5 else js_none))) else (bif Nat.ble pc 52 then (bif Nat.ble pc 51 then (bif Nat.beq pc 51 then js_c 1 1 else js_none) else (bif Nat.beq pc 52 then js_iadd else js_none)) else (bif Nat.ble pc 53 then (bif Nat.beq pc 53 then js_putf 2 5 false else js_none) else (bif Nat.beq pc 56 then js_vr else js_none)))))
theorem jk_50_0 : jx_Snd 50 0 (js_al 0 1) := jo_aload_n (i := 0) (w := 0) rfl jd_50_0
theorem jk_50_1 : jx_Snd 50 1 (js_getf 2 5) := jo_getf rfl jf_2_81 jd_50_1
theorem jk_50_4 : jx_Snd 50 4 (js_c 128 3) := jo_sipush (z := 128) jd_50_4 (by decide +kernel)
theorem jk_50_7 : jx_Snd 50 7 (js_clt 16) := jo_clt (o := 9) rfl jd_50_7
theorem jk_50_10 : jx_Snd 50 10 (js_al 0 1) := jo_aload_n (i := 0) (w := 0) rfl jd_50_10
theorem jk_50_11 : jx_Snd 50 11 (js_c 3 1) := jo_iconst (z := 3) jd_50_11 rfl
theorem jk_50_12 : jx_Snd 50 12 (js_v1 2 53) := jo_v1 rfl jok_53 (Or.inl jw_235) jw_236 jw_689 rfl jd_50_12
theorem jk_50_15 : jx_Snd 50 15 (js_vr) := jo_vr rfl jd_50_15
theorem jk_50_16 : jx_Snd 50 16 (js_al 0 1) := jo_aload_n (i := 0) (w := 0) rfl jd_50_16
theorem jk_50_17 : jx_Snd 50 17 (js_getf 2 2) := jo_getf rfl jf_2_25 jd_50_17
theorem jk_50_20 : jx_Snd 50 20 (js_al 0 1) := jo_aload_n (i := 0) (w := 0) rfl jd_50_20
theorem jk_50_21 : jx_Snd 50 21 (js_getf 2 5) := jo_getf rfl jf_2_81 jd_50_21
theorem jk_50_24 : jx_Snd 50 24 (js_il 1 1) := jo_iload_n (i := 1) (w := 1) rfl jd_50_24
theorem jk_50_25 : jx_Snd 50 25 (js_ast) := jo_ast jd_50_25
theorem jk_50_26 : jx_Snd 50 26 (js_al 0 1) := jo_aload_n (i := 0) (w := 0) rfl jd_50_26
theorem jk_50_27 : jx_Snd 50 27 (js_getf 2 3) := jo_getf rfl jf_2_29 jd_50_27
theorem jk_50_30 : jx_Snd 50 30 (js_al 0 1) := jo_aload_n (i := 0) (w := 0) rfl jd_50_30
theorem jk_50_31 : jx_Snd 50 31 (js_getf 2 5) := jo_getf rfl jf_2_81 jd_50_31
theorem jk_50_34 : jx_Snd 50 34 (js_il 2 1) := jo_iload_n (i := 2) (w := 2) rfl jd_50_34
theorem jk_50_35 : jx_Snd 50 35 (js_ast) := jo_ast jd_50_35
theorem jk_50_36 : jx_Snd 50 36 (js_al 0 1) := jo_aload_n (i := 0) (w := 0) rfl jd_50_36
theorem jk_50_37 : jx_Snd 50 37 (js_getf 2 4) := jo_getf rfl jf_2_32 jd_50_37
theorem jk_50_40 : jx_Snd 50 40 (js_al 0 1) := jo_aload_n (i := 0) (w := 0) rfl jd_50_40
theorem jk_50_41 : jx_Snd 50 41 (js_getf 2 5) := jo_getf rfl jf_2_81 jd_50_41
theorem jk_50_44 : jx_Snd 50 44 (js_il 3 1) := jo_iload_n (i := 3) (w := 3) rfl jd_50_44
theorem jk_50_45 : jx_Snd 50 45 (js_ast) := jo_ast jd_50_45
theorem jk_50_46 : jx_Snd 50 46 (js_al 0 1) := jo_aload_n (i := 0) (w := 0) rfl jd_50_46
theorem jk_50_47 : jx_Snd 50 47 (js_dup) := jo_dup jd_50_47
theorem jk_50_48 : jx_Snd 50 48 (js_getf 2 5) := jo_getf rfl jf_2_81 jd_50_48
theorem jk_50_51 : jx_Snd 50 51 (js_c 1 1) := jo_iconst (z := 1) jd_50_51 rfl
theorem jk_50_52 : jx_Snd 50 52 (js_iadd) := jo_iadd jd_50_52
theorem jk_50_53 : jx_Snd 50 53 (js_putf 2 5 false) := jo_putf (z := false) rfl jf_2_81 (fun C T N h => by cases h; rfl) jd_50_53
theorem jk_50_56 : jx_Snd 50 56 (js_vr) := jo_vr rfl jd_50_56
theorem jk_50 : jx_So 50 jt_50 := fun pc => jo_le (jo_le (jo_le (jo_le (jo_le (jo_le (jo_at (jk_50_0)) (jo_at (jk_50_1))) (jo_at (jk_50_4))) (jo_le (jo_at (jk_50_7)) (jo_at (jk_50_10)))) (jo_le (jo_le (jo_at (jk_50_11)) (jo_at (jk_50_12))) (jo_le (jo_at (jk_50_15)) (jo_at (jk_50_16))))) (jo_le (jo_le (jo_le (jo_at (jk_50_17)) (jo_at (jk_50_20))) (jo_le (jo_at (jk_50_21)) (jo_at (jk_50_24)))) (jo_le (jo_le (jo_at (jk_50_25)) (jo_at (jk_50_26))) (jo_le (jo_at (jk_50_27)) (jo_at (jk_50_30)))))) (jo_le (jo_le (jo_le (jo_le (jo_at (jk_50_31)) (jo_at (jk_50_34))) (jo_le (jo_at (jk_50_35)) (jo_at (jk_50_36)))) (jo_le (jo_le (jo_at (jk_50_37)) (jo_at (jk_50_40))) (jo_le (jo_at (jk_50_41)) (jo_at (jk_50_44))))) (jo_le (jo_le (jo_le (jo_at (jk_50_45)) (jo_at (jk_50_46))) (jo_le (jo_at (jk_50_47)) (jo_at (jk_50_48)))) (jo_le (jo_le (jo_at (jk_50_51)) (jo_at (jk_50_52))) (jo_le (jo_at (jk_50_53)) (jo_at (jk_50_56))))))
theorem ji_50 {l : Launch} {D : va_G} {cA : ClassId} {ρ : Nat → Nat} {Λ : List jx_Lc} {d : Nat} {Q : Option Value → jx_St → Prop} {σ : jx_St} {z0 : Nat} {a1 : Int32} {a2 : Int32} {a3 : Int32} (h : jt_50 0 Λ jx_tb0 (jx_rn Λ jx_tb0 jt_50 (fun k' as σ K => jx_C l D cA ρ Λ d k' as σ K) Q (jx_J l D cA ρ Λ (jx_A ρ Λ) jx_tb0 (d + 1) 50 Q) [] 400) (fun k' as σ K => jx_C l D cA ρ Λ d k' as σ K) Q 0 [(0, .ref z0), (1, .int a1), (2, .int a2), (3, .int a3)] [] σ) : jx_C l D cA ρ Λ (d + 1) 50 [.ref z0, .int a1, .int a2, .int a3] σ Q := jx_in jk_50 400 [] rfl (Nat.le_of_ble_eq_true rfl) h
/-! ScriptLedger$Machine.goTo(II)V -/
theorem jd_51_0 : decode prog_4_method_18_code 0 = .ok (.aload_n 0, 1) := by decide +kernel
theorem jd_51_1 : decode prog_4_method_18_code 1 = .ok (.iload_n 1, 1) := by decide +kernel
theorem jd_51_2 : decode prog_4_method_18_code 2 = .ok (.putfield 100, 3) := by decide +kernel
theorem jd_51_5 : decode prog_4_method_18_code 5 = .ok (.aload_n 0, 1) := by decide +kernel
theorem jd_51_6 : decode prog_4_method_18_code 6 = .ok (.iload_n 2, 1) := by decide +kernel
theorem jd_51_7 : decode prog_4_method_18_code 7 = .ok (.putfield 106, 3) := by decide +kernel
theorem jd_51_10 : decode prog_4_method_18_code 10 = .ok (.aload_n 0, 1) := by decide +kernel
theorem jd_51_11 : decode prog_4_method_18_code 11 = .ok (.iconst 0, 1) := by decide +kernel
theorem jd_51_12 : decode prog_4_method_18_code 12 = .ok (.putfield 59, 3) := by decide +kernel
theorem jd_51_15 : decode prog_4_method_18_code 15 = .ok (.return_, 1) := by decide +kernel
def jt_51 (pc : Nat) : jx_Sp := bif Nat.ble pc 6 then (bif Nat.ble pc 2 then (bif Nat.ble pc 1 then (bif Nat.ble pc 0 then (bif Nat.beq pc 0 then js_al 0 1 else js_none) else (bif Nat.beq pc 1 then js_il 1 1 else js_none)) else (bif Nat.beq pc 2 then js_putf 2 7 false else js_none)) else (bif Nat.ble pc 5 then (bif Nat.beq pc 5 then js_al 0 1 else js_none) else (bif Nat.beq pc 6 then js_il 2 1 else js_none))) else (bif Nat.ble pc 11 then (bif Nat.ble pc 10 then (bif Nat.ble pc 7 then (bif Nat.beq pc 7 then js_putf 2 8 false else js_none) else (bif Nat.beq pc 10 then js_al 0 1 else js_none)) else (bif Nat.beq pc 11 then js_c 0 1 else js_none)) else (bif Nat.ble pc 12 then (bif Nat.beq pc 12 then js_putf 2 6 false else js_none) else (bif Nat.beq pc 15 then js_vr else js_none)))
theorem jk_51_0 : jx_Snd 51 0 (js_al 0 1) := jo_aload_n (i := 0) (w := 0) rfl jd_51_0
theorem jk_51_1 : jx_Snd 51 1 (js_il 1 1) := jo_iload_n (i := 1) (w := 1) rfl jd_51_1
theorem jk_51_2 : jx_Snd 51 2 (js_putf 2 7 false) := jo_putf (z := false) rfl jf_2_100 (fun C T N h => by cases h; rfl) jd_51_2
theorem jk_51_5 : jx_Snd 51 5 (js_al 0 1) := jo_aload_n (i := 0) (w := 0) rfl jd_51_5
theorem jk_51_6 : jx_Snd 51 6 (js_il 2 1) := jo_iload_n (i := 2) (w := 2) rfl jd_51_6
theorem jk_51_7 : jx_Snd 51 7 (js_putf 2 8 false) := jo_putf (z := false) rfl jf_2_106 (fun C T N h => by cases h; rfl) jd_51_7
theorem jk_51_10 : jx_Snd 51 10 (js_al 0 1) := jo_aload_n (i := 0) (w := 0) rfl jd_51_10
theorem jk_51_11 : jx_Snd 51 11 (js_c 0 1) := jo_iconst (z := 0) jd_51_11 rfl
theorem jk_51_12 : jx_Snd 51 12 (js_putf 2 6 false) := jo_putf (z := false) rfl jf_2_59 (fun C T N h => by cases h; rfl) jd_51_12
theorem jk_51_15 : jx_Snd 51 15 (js_vr) := jo_vr rfl jd_51_15
theorem jk_51 : jx_So 51 jt_51 := fun pc => jo_le (jo_le (jo_le (jo_le (jo_at (jk_51_0)) (jo_at (jk_51_1))) (jo_at (jk_51_2))) (jo_le (jo_at (jk_51_5)) (jo_at (jk_51_6)))) (jo_le (jo_le (jo_le (jo_at (jk_51_7)) (jo_at (jk_51_10))) (jo_at (jk_51_11))) (jo_le (jo_at (jk_51_12)) (jo_at (jk_51_15))))
theorem ji_51 {l : Launch} {D : va_G} {cA : ClassId} {ρ : Nat → Nat} {Λ : List jx_Lc} {d : Nat} {Q : Option Value → jx_St → Prop} {σ : jx_St} {z0 : Nat} {a1 : Int32} {a2 : Int32} (h : jt_51 0 Λ jx_tb0 (jx_rn Λ jx_tb0 jt_51 (fun k' as σ K => jx_C l D cA ρ Λ d k' as σ K) Q (jx_J l D cA ρ Λ (jx_A ρ Λ) jx_tb0 (d + 1) 51 Q) [] 400) (fun k' as σ K => jx_C l D cA ρ Λ d k' as σ K) Q 0 [(0, .ref z0), (1, .int a1), (2, .int a2)] [] σ) : jx_C l D cA ρ Λ (d + 1) 51 [.ref z0, .int a1, .int a2] σ Q := jx_in jk_51 400 [] rfl (Nat.le_of_ble_eq_true rfl) h
/-! ScriptLedger$Machine.found(I)V -/
theorem jd_52_0 : decode prog_4_method_19_code 0 = .ok (.aload_n 0, 1) := by decide +kernel
theorem jd_52_1 : decode prog_4_method_19_code 1 = .ok (.iload_n 1, 1) := by decide +kernel
theorem jd_52_2 : decode prog_4_method_19_code 2 = .ok (.putfield 125, 3) := by decide +kernel
theorem jd_52_5 : decode prog_4_method_19_code 5 = .ok (.aload_n 0, 1) := by decide +kernel
theorem jd_52_6 : decode prog_4_method_19_code 6 = .ok (.iconst 1, 1) := by decide +kernel
theorem jd_52_7 : decode prog_4_method_19_code 7 = .ok (.putfield 59, 3) := by decide +kernel
theorem jd_52_10 : decode prog_4_method_19_code 10 = .ok (.return_, 1) := by decide +kernel
def jt_52 (pc : Nat) : jx_Sp := bif Nat.ble pc 5 then (bif Nat.ble pc 1 then (bif Nat.ble pc 0 then (bif Nat.beq pc 0 then js_al 0 1 else js_none) else (bif Nat.beq pc 1 then js_il 1 1 else js_none)) else (bif Nat.ble pc 2 then (bif Nat.beq pc 2 then js_putf 2 9 false else js_none) else (bif Nat.beq pc 5 then js_al 0 1 else js_none))) else (bif Nat.ble pc 7 then (bif Nat.ble pc 6 then (bif Nat.beq pc 6 then js_c 1 1 else js_none) else (bif Nat.beq pc 7 then js_putf 2 6 false else js_none)) else (bif Nat.beq pc 10 then js_vr else js_none))
theorem jk_52_0 : jx_Snd 52 0 (js_al 0 1) := jo_aload_n (i := 0) (w := 0) rfl jd_52_0
theorem jk_52_1 : jx_Snd 52 1 (js_il 1 1) := jo_iload_n (i := 1) (w := 1) rfl jd_52_1
theorem jk_52_2 : jx_Snd 52 2 (js_putf 2 9 false) := jo_putf (z := false) rfl jf_2_125 (fun C T N h => by cases h; rfl) jd_52_2
theorem jk_52_5 : jx_Snd 52 5 (js_al 0 1) := jo_aload_n (i := 0) (w := 0) rfl jd_52_5
theorem jk_52_6 : jx_Snd 52 6 (js_c 1 1) := jo_iconst (z := 1) jd_52_6 rfl
theorem jk_52_7 : jx_Snd 52 7 (js_putf 2 6 false) := jo_putf (z := false) rfl jf_2_59 (fun C T N h => by cases h; rfl) jd_52_7
theorem jk_52_10 : jx_Snd 52 10 (js_vr) := jo_vr rfl jd_52_10
theorem jk_52 : jx_So 52 jt_52 := fun pc => jo_le (jo_le (jo_le (jo_at (jk_52_0)) (jo_at (jk_52_1))) (jo_le (jo_at (jk_52_2)) (jo_at (jk_52_5)))) (jo_le (jo_le (jo_at (jk_52_6)) (jo_at (jk_52_7))) (jo_at (jk_52_10)))
theorem ji_52 {l : Launch} {D : va_G} {cA : ClassId} {ρ : Nat → Nat} {Λ : List jx_Lc} {d : Nat} {Q : Option Value → jx_St → Prop} {σ : jx_St} {z0 : Nat} {a1 : Int32} (h : jt_52 0 Λ jx_tb0 (jx_rn Λ jx_tb0 jt_52 (fun k' as σ K => jx_C l D cA ρ Λ d k' as σ K) Q (jx_J l D cA ρ Λ (jx_A ρ Λ) jx_tb0 (d + 1) 52 Q) [] 400) (fun k' as σ K => jx_C l D cA ρ Λ d k' as σ K) Q 0 [(0, .ref z0), (1, .int a1)] [] σ) : jx_C l D cA ρ Λ (d + 1) 52 [.ref z0, .int a1] σ Q := jx_in jk_52 400 [] rfl (Nat.le_of_ble_eq_true rfl) h
/-! ScriptLedger$Machine.stop(I)V -/
theorem jd_53_0 : decode prog_4_method_20_code 0 = .ok (.aload_n 0, 1) := by decide +kernel
theorem jd_53_1 : decode prog_4_method_20_code 1 = .ok (.iload_n 1, 1) := by decide +kernel
theorem jd_53_2 : decode prog_4_method_20_code 2 = .ok (.putfield 35, 3) := by decide +kernel
theorem jd_53_5 : decode prog_4_method_20_code 5 = .ok (.aload_n 0, 1) := by decide +kernel
theorem jd_53_6 : decode prog_4_method_20_code 6 = .ok (.iconst (-1), 1) := by decide +kernel
theorem jd_53_7 : decode prog_4_method_20_code 7 = .ok (.putfield 169, 3) := by decide +kernel
theorem jd_53_10 : decode prog_4_method_20_code 10 = .ok (.aload_n 0, 1) := by decide +kernel
theorem jd_53_11 : decode prog_4_method_20_code 11 = .ok (.iconst 0, 1) := by decide +kernel
theorem jd_53_12 : decode prog_4_method_20_code 12 = .ok (.putfield 172, 3) := by decide +kernel
theorem jd_53_15 : decode prog_4_method_20_code 15 = .ok (.aload_n 0, 1) := by decide +kernel
theorem jd_53_16 : decode prog_4_method_20_code 16 = .ok (.iconst 4, 1) := by decide +kernel
theorem jd_53_17 : decode prog_4_method_20_code 17 = .ok (.putfield 59, 3) := by decide +kernel
theorem jd_53_20 : decode prog_4_method_20_code 20 = .ok (.return_, 1) := by decide +kernel
def jt_53 (pc : Nat) : jx_Sp := bif Nat.ble pc 10 then (bif Nat.ble pc 5 then (bif Nat.ble pc 1 then (bif Nat.ble pc 0 then (bif Nat.beq pc 0 then js_al 0 1 else js_none) else (bif Nat.beq pc 1 then js_il 1 1 else js_none)) else (bif Nat.ble pc 2 then (bif Nat.beq pc 2 then js_putf 2 13 false else js_none) else (bif Nat.beq pc 5 then js_al 0 1 else js_none))) else (bif Nat.ble pc 7 then (bif Nat.ble pc 6 then (bif Nat.beq pc 6 then js_c (-1) 1 else js_none) else (bif Nat.beq pc 7 then js_putf 2 14 false else js_none)) else (bif Nat.beq pc 10 then js_al 0 1 else js_none))) else (bif Nat.ble pc 15 then (bif Nat.ble pc 12 then (bif Nat.ble pc 11 then (bif Nat.beq pc 11 then js_c 0 1 else js_none) else (bif Nat.beq pc 12 then js_putf 2 15 false else js_none)) else (bif Nat.beq pc 15 then js_al 0 1 else js_none)) else (bif Nat.ble pc 17 then (bif Nat.ble pc 16 then (bif Nat.beq pc 16 then js_c 4 1 else js_none) else (bif Nat.beq pc 17 then js_putf 2 6 false else js_none)) else (bif Nat.beq pc 20 then js_vr else js_none)))
theorem jk_53_0 : jx_Snd 53 0 (js_al 0 1) := jo_aload_n (i := 0) (w := 0) rfl jd_53_0
theorem jk_53_1 : jx_Snd 53 1 (js_il 1 1) := jo_iload_n (i := 1) (w := 1) rfl jd_53_1
theorem jk_53_2 : jx_Snd 53 2 (js_putf 2 13 false) := jo_putf (z := false) rfl jf_2_35 (fun C T N h => by cases h; rfl) jd_53_2
theorem jk_53_5 : jx_Snd 53 5 (js_al 0 1) := jo_aload_n (i := 0) (w := 0) rfl jd_53_5
theorem jk_53_6 : jx_Snd 53 6 (js_c (-1) 1) := jo_iconst (z := (-1)) jd_53_6 rfl
theorem jk_53_7 : jx_Snd 53 7 (js_putf 2 14 false) := jo_putf (z := false) rfl jf_2_169 (fun C T N h => by cases h; rfl) jd_53_7
theorem jk_53_10 : jx_Snd 53 10 (js_al 0 1) := jo_aload_n (i := 0) (w := 0) rfl jd_53_10
theorem jk_53_11 : jx_Snd 53 11 (js_c 0 1) := jo_iconst (z := 0) jd_53_11 rfl
theorem jk_53_12 : jx_Snd 53 12 (js_putf 2 15 false) := jo_putf (z := false) rfl jf_2_172 (fun C T N h => by cases h; rfl) jd_53_12
theorem jk_53_15 : jx_Snd 53 15 (js_al 0 1) := jo_aload_n (i := 0) (w := 0) rfl jd_53_15
theorem jk_53_16 : jx_Snd 53 16 (js_c 4 1) := jo_iconst (z := 4) jd_53_16 rfl
theorem jk_53_17 : jx_Snd 53 17 (js_putf 2 6 false) := jo_putf (z := false) rfl jf_2_59 (fun C T N h => by cases h; rfl) jd_53_17
theorem jk_53_20 : jx_Snd 53 20 (js_vr) := jo_vr rfl jd_53_20
theorem jk_53 : jx_So 53 jt_53 := fun pc => jo_le (jo_le (jo_le (jo_le (jo_at (jk_53_0)) (jo_at (jk_53_1))) (jo_le (jo_at (jk_53_2)) (jo_at (jk_53_5)))) (jo_le (jo_le (jo_at (jk_53_6)) (jo_at (jk_53_7))) (jo_at (jk_53_10)))) (jo_le (jo_le (jo_le (jo_at (jk_53_11)) (jo_at (jk_53_12))) (jo_at (jk_53_15))) (jo_le (jo_le (jo_at (jk_53_16)) (jo_at (jk_53_17))) (jo_at (jk_53_20))))
theorem ji_53 {l : Launch} {D : va_G} {cA : ClassId} {ρ : Nat → Nat} {Λ : List jx_Lc} {d : Nat} {Q : Option Value → jx_St → Prop} {σ : jx_St} {z0 : Nat} {a1 : Int32} (h : jt_53 0 Λ jx_tb0 (jx_rn Λ jx_tb0 jt_53 (fun k' as σ K => jx_C l D cA ρ Λ d k' as σ K) Q (jx_J l D cA ρ Λ (jx_A ρ Λ) jx_tb0 (d + 1) 53 Q) [] 400) (fun k' as σ K => jx_C l D cA ρ Λ d k' as σ K) Q 0 [(0, .ref z0), (1, .int a1)] [] σ) : jx_C l D cA ρ Λ (d + 1) 53 [.ref z0, .int a1] σ Q := jx_in jk_53 400 [] rfl (Nat.le_of_ble_eq_true rfl) h
/-! ScriptLedger$Machine.finish()V -/
theorem jd_54_0 : decode prog_4_method_21_code 0 = .ok (.aload_n 0, 1) := by decide +kernel
theorem jd_54_1 : decode prog_4_method_21_code 1 = .ok (.getfield 21, 3) := by decide +kernel
theorem jd_54_4 : decode prog_4_method_21_code 4 = .ok (.getfield 134, 3) := by decide +kernel
theorem jd_54_7 : decode prog_4_method_21_code 7 = .ok (.aload_n 0, 1) := by decide +kernel
theorem jd_54_8 : decode prog_4_method_21_code 8 = .ok (.getfield 125, 3) := by decide +kernel
theorem jd_54_11 : decode prog_4_method_21_code 11 = .ok (.iaload, 1) := by decide +kernel
theorem jd_54_12 : decode prog_4_method_21_code 12 = .ok (.istore_n 1, 1) := by decide +kernel
theorem jd_54_13 : decode prog_4_method_21_code 13 = .ok (.iload_n 1, 1) := by decide +kernel
theorem jd_54_14 : decode prog_4_method_21_code 14 = .ok (.iconst 1, 1) := by decide +kernel
theorem jd_54_15 : decode prog_4_method_21_code 15 = .ok (.if_icmp .ne 23, 3) := by decide +kernel
theorem jd_54_18 : decode prog_4_method_21_code 18 = .ok (.aload_n 0, 1) := by decide +kernel
theorem jd_54_19 : decode prog_4_method_21_code 19 = .ok (.getfield 21, 3) := by decide +kernel
theorem jd_54_22 : decode prog_4_method_21_code 22 = .ok (.getfield 137, 3) := by decide +kernel
theorem jd_54_25 : decode prog_4_method_21_code 25 = .ok (.aload_n 0, 1) := by decide +kernel
theorem jd_54_26 : decode prog_4_method_21_code 26 = .ok (.getfield 125, 3) := by decide +kernel
theorem jd_54_29 : decode prog_4_method_21_code 29 = .ok (.iaload, 1) := by decide +kernel
theorem jd_54_30 : decode prog_4_method_21_code 30 = .ok (.iconst 1, 1) := by decide +kernel
theorem jd_54_31 : decode prog_4_method_21_code 31 = .ok (.if_icmp .ne 7, 3) := by decide +kernel
theorem jd_54_34 : decode prog_4_method_21_code 34 = .ok (.iconst 1, 1) := by decide +kernel
theorem jd_54_35 : decode prog_4_method_21_code 35 = .ok (.goto 4, 3) := by decide +kernel
theorem jd_54_38 : decode prog_4_method_21_code 38 = .ok (.iconst 0, 1) := by decide +kernel
theorem jd_54_39 : decode prog_4_method_21_code 39 = .ok (.istore_n 2, 1) := by decide +kernel
theorem jd_54_40 : decode prog_4_method_21_code 40 = .ok (.aload_n 0, 1) := by decide +kernel
theorem jd_54_41 : decode prog_4_method_21_code 41 = .ok (.iload_n 2, 1) := by decide +kernel
theorem jd_54_42 : decode prog_4_method_21_code 42 = .ok (.ifCond .eq 7, 3) := by decide +kernel
theorem jd_54_45 : decode prog_4_method_21_code 45 = .ok (.iconst 0, 1) := by decide +kernel
theorem jd_54_46 : decode prog_4_method_21_code 46 = .ok (.goto 4, 3) := by decide +kernel
theorem jd_54_49 : decode prog_4_method_21_code 49 = .ok (.iconst 1, 1) := by decide +kernel
theorem jd_54_50 : decode prog_4_method_21_code 50 = .ok (.putfield 35, 3) := by decide +kernel
theorem jd_54_53 : decode prog_4_method_21_code 53 = .ok (.aload_n 0, 1) := by decide +kernel
theorem jd_54_54 : decode prog_4_method_21_code 54 = .ok (.iload_n 1, 1) := by decide +kernel
theorem jd_54_55 : decode prog_4_method_21_code 55 = .ok (.iconst 3, 1) := by decide +kernel
theorem jd_54_56 : decode prog_4_method_21_code 56 = .ok (.invokestatic 175, 3) := by decide +kernel
theorem jd_54_59 : decode prog_4_method_21_code 59 = .ok (.putfield 169, 3) := by decide +kernel
theorem jd_54_62 : decode prog_4_method_21_code 62 = .ok (.aload_n 0, 1) := by decide +kernel
theorem jd_54_63 : decode prog_4_method_21_code 63 = .ok (.iconst 0, 1) := by decide +kernel
theorem jd_54_64 : decode prog_4_method_21_code 64 = .ok (.putfield 172, 3) := by decide +kernel
theorem jd_54_67 : decode prog_4_method_21_code 67 = .ok (.iload_n 1, 1) := by decide +kernel
theorem jd_54_68 : decode prog_4_method_21_code 68 = .ok (.ifCond .eq 8, 3) := by decide +kernel
theorem jd_54_71 : decode prog_4_method_21_code 71 = .ok (.iload_n 1, 1) := by decide +kernel
theorem jd_54_72 : decode prog_4_method_21_code 72 = .ok (.iconst 1, 1) := by decide +kernel
theorem jd_54_73 : decode prog_4_method_21_code 73 = .ok (.if_icmp .ne 22, 3) := by decide +kernel
theorem jd_54_76 : decode prog_4_method_21_code 76 = .ok (.aload_n 0, 1) := by decide +kernel
theorem jd_54_77 : decode prog_4_method_21_code 77 = .ok (.aload_n 0, 1) := by decide +kernel
theorem jd_54_78 : decode prog_4_method_21_code 78 = .ok (.getfield 21, 3) := by decide +kernel
theorem jd_54_81 : decode prog_4_method_21_code 81 = .ok (.getfield 137, 3) := by decide +kernel
theorem jd_54_84 : decode prog_4_method_21_code 84 = .ok (.aload_n 0, 1) := by decide +kernel
theorem jd_54_85 : decode prog_4_method_21_code 85 = .ok (.getfield 125, 3) := by decide +kernel
theorem jd_54_88 : decode prog_4_method_21_code 88 = .ok (.iaload, 1) := by decide +kernel
theorem jd_54_89 : decode prog_4_method_21_code 89 = .ok (.putfield 172, 3) := by decide +kernel
theorem jd_54_92 : decode prog_4_method_21_code 92 = .ok (.goto 24, 3) := by decide +kernel
theorem jd_54_95 : decode prog_4_method_21_code 95 = .ok (.iload_n 1, 1) := by decide +kernel
theorem jd_54_96 : decode prog_4_method_21_code 96 = .ok (.iconst 2, 1) := by decide +kernel
theorem jd_54_97 : decode prog_4_method_21_code 97 = .ok (.if_icmp .ne 19, 3) := by decide +kernel
theorem jd_54_100 : decode prog_4_method_21_code 100 = .ok (.aload_n 0, 1) := by decide +kernel
theorem jd_54_101 : decode prog_4_method_21_code 101 = .ok (.aload_n 0, 1) := by decide +kernel
theorem jd_54_102 : decode prog_4_method_21_code 102 = .ok (.getfield 21, 3) := by decide +kernel
theorem jd_54_105 : decode prog_4_method_21_code 105 = .ok (.getfield 144, 3) := by decide +kernel
theorem jd_54_108 : decode prog_4_method_21_code 108 = .ok (.aload_n 0, 1) := by decide +kernel
theorem jd_54_109 : decode prog_4_method_21_code 109 = .ok (.getfield 125, 3) := by decide +kernel
theorem jd_54_112 : decode prog_4_method_21_code 112 = .ok (.iaload, 1) := by decide +kernel
theorem jd_54_113 : decode prog_4_method_21_code 113 = .ok (.putfield 172, 3) := by decide +kernel
theorem jd_54_116 : decode prog_4_method_21_code 116 = .ok (.aload_n 0, 1) := by decide +kernel
theorem jd_54_117 : decode prog_4_method_21_code 117 = .ok (.iconst 4, 1) := by decide +kernel
theorem jd_54_118 : decode prog_4_method_21_code 118 = .ok (.putfield 59, 3) := by decide +kernel
theorem jd_54_121 : decode prog_4_method_21_code 121 = .ok (.return_, 1) := by decide +kernel
def jt_54 (pc : Nat) : jx_Sp := bif Nat.ble pc 56 then (bif Nat.ble pc 30 then (bif Nat.ble pc 14 then (bif Nat.ble pc 8 then (bif Nat.ble pc 4 then (bif Nat.ble pc 1 then (bif Nat.ble pc 0 then (bif Nat.beq pc 0 then js_al 0 1 else js_none) else (bif Nat.beq pc 1 then js_getf 2 1 else js_none)) else (bif Nat.beq pc 4 then js_getf 4 0 else js_none)) else (bif Nat.ble pc 7 then (bif Nat.beq pc 7 then js_al 0 1 else js_none) else (bif Nat.beq pc 8 then js_getf 2 9 else js_none))) else (bif Nat.ble pc 12 then (bif Nat.ble pc 11 then (bif Nat.beq pc 11 then js_ald else js_none) else (bif Nat.beq pc 12 then js_is 1 1 else js_none)) else (bif Nat.ble pc 13 then (bif Nat.beq pc 13 then js_il 1 1 else js_none) else (bif Nat.beq pc 14 then js_c 1 1 else js_none)))) else (bif Nat.ble pc 22 then (bif Nat.ble pc 18 then (bif Nat.ble pc 15 then (bif Nat.beq pc 15 then js_cne 38 else js_none) else (bif Nat.beq pc 18 then js_al 0 1 else js_none)) else (bif Nat.ble pc 19 then (bif Nat.beq pc 19 then js_getf 2 1 else js_none) else (bif Nat.beq pc 22 then js_getf 4 1 else js_none))) else (bif Nat.ble pc 26 then (bif Nat.ble pc 25 then (bif Nat.beq pc 25 then js_al 0 1 else js_none) else (bif Nat.beq pc 26 then js_getf 2 9 else js_none)) else (bif Nat.ble pc 29 then (bif Nat.beq pc 29 then js_ald else js_none) else (bif Nat.beq pc 30 then js_c 1 1 else js_none))))) else (bif Nat.ble pc 42 then (bif Nat.ble pc 38 then (bif Nat.ble pc 34 then (bif Nat.ble pc 31 then (bif Nat.beq pc 31 then js_cne 38 else js_none) else (bif Nat.beq pc 34 then js_c 1 1 else js_none)) else (bif Nat.ble pc 35 then (bif Nat.beq pc 35 then js_go 39 else js_none) else (bif Nat.beq pc 38 then js_c 0 1 else js_none))) else (bif Nat.ble pc 40 then (bif Nat.ble pc 39 then (bif Nat.beq pc 39 then js_is 2 1 else js_none) else (bif Nat.beq pc 40 then js_al 0 1 else js_none)) else (bif Nat.ble pc 41 then (bif Nat.beq pc 41 then js_il 2 1 else js_none) else (bif Nat.beq pc 42 then js_ifeq 49 else js_none)))) else (bif Nat.ble pc 50 then (bif Nat.ble pc 46 then (bif Nat.ble pc 45 then (bif Nat.beq pc 45 then js_c 0 1 else js_none) else (bif Nat.beq pc 46 then js_go 50 else js_none)) else (bif Nat.ble pc 49 then (bif Nat.beq pc 49 then js_c 1 1 else js_none) else (bif Nat.beq pc 50 then js_putf 2 13 false else js_none))) else (bif Nat.ble pc 54 then (bif Nat.ble pc 53 then (bif Nat.beq pc 53 then js_al 0 1 else js_none) else (bif Nat.beq pc 54 then js_il 1 1 else js_none)) else (bif Nat.ble pc 55 then (bif Nat.beq pc 55 then js_c 3 1 else js_none) else (bif Nat.beq pc 56 then js_min else js_none)))))) else (bif Nat.ble pc 89 then (bif Nat.ble pc 73 then (bif Nat.ble pc 67 then (bif Nat.ble pc 63 then (bif Nat.ble pc 62 then (bif Nat.ble pc 59 then (bif Nat.beq pc 59 then js_putf 2 14 false else js_none) else (bif Nat.beq pc 62 then js_al 0 1 else js_none)) else (bif Nat.beq pc 63 then js_c 0 1 else js_none)) else (bif Nat.ble pc 64 then (bif Nat.beq pc 64 then js_putf 2 15 false else js_none) else (bif Nat.beq pc 67 then js_il 1 1 else js_none))) else (bif Nat.ble pc 71 then (bif Nat.ble pc 68 then (bif Nat.beq pc 68 then js_ifeq 76 else js_none) else (bif Nat.beq pc 71 then js_il 1 1 else js_none)) else (bif Nat.ble pc 72 then (bif Nat.beq pc 72 then js_c 1 1 else js_none) else (bif Nat.beq pc 73 then js_cne 95 else js_none)))) else (bif Nat.ble pc 81 then (bif Nat.ble pc 77 then (bif Nat.ble pc 76 then (bif Nat.beq pc 76 then js_al 0 1 else js_none) else (bif Nat.beq pc 77 then js_al 0 1 else js_none)) else (bif Nat.ble pc 78 then (bif Nat.beq pc 78 then js_getf 2 1 else js_none) else (bif Nat.beq pc 81 then js_getf 4 1 else js_none))) else (bif Nat.ble pc 85 then (bif Nat.ble pc 84 then (bif Nat.beq pc 84 then js_al 0 1 else js_none) else (bif Nat.beq pc 85 then js_getf 2 9 else js_none)) else (bif Nat.ble pc 88 then (bif Nat.beq pc 88 then js_ald else js_none) else (bif Nat.beq pc 89 then js_putf 2 15 false else js_none))))) else (bif Nat.ble pc 105 then (bif Nat.ble pc 97 then (bif Nat.ble pc 95 then (bif Nat.ble pc 92 then (bif Nat.beq pc 92 then js_go 116 else js_none) else (bif Nat.beq pc 95 then js_il 1 1 else js_none)) else (bif Nat.ble pc 96 then (bif Nat.beq pc 96 then js_c 2 1 else js_none) else (bif Nat.beq pc 97 then js_cne 116 else js_none))) else (bif Nat.ble pc 101 then (bif Nat.ble pc 100 then (bif Nat.beq pc 100 then js_al 0 1 else js_none) else (bif Nat.beq pc 101 then js_al 0 1 else js_none)) else (bif Nat.ble pc 102 then (bif Nat.beq pc 102 then js_getf 2 1 else js_none) else (bif Nat.beq pc 105 then js_getf 4 3 else js_none)))) else (bif Nat.ble pc 113 then (bif Nat.ble pc 109 then (bif Nat.ble pc 108 then (bif Nat.beq pc 108 then js_al 0 1 else js_none) else (bif Nat.beq pc 109 then js_getf 2 9 else js_none)) else (bif Nat.ble pc 112 then (bif Nat.beq pc 112 then js_ald else js_none) else (bif Nat.beq pc 113 then js_putf 2 15 false else js_none))) else (bif Nat.ble pc 117 then (bif Nat.ble pc 116 then (bif Nat.beq pc 116 then js_al 0 1 else js_none) else (bif Nat.beq pc 117 then js_c 4 1 else js_none)) else (bif Nat.ble pc 118 then (bif Nat.beq pc 118 then js_putf 2 6 false else js_none) else (bif Nat.beq pc 121 then js_vr else js_none))))))
theorem jk_54_0 : jx_Snd 54 0 (js_al 0 1) := jo_aload_n (i := 0) (w := 0) rfl jd_54_0
theorem jk_54_1 : jx_Snd 54 1 (js_getf 2 1) := jo_getf rfl jf_2_21 jd_54_1
theorem jk_54_4 : jx_Snd 54 4 (js_getf 4 0) := jo_getf rfl jf_2_134 jd_54_4
theorem jk_54_7 : jx_Snd 54 7 (js_al 0 1) := jo_aload_n (i := 0) (w := 0) rfl jd_54_7
theorem jk_54_8 : jx_Snd 54 8 (js_getf 2 9) := jo_getf rfl jf_2_125 jd_54_8
theorem jk_54_11 : jx_Snd 54 11 (js_ald) := jo_ald jd_54_11
theorem jk_54_12 : jx_Snd 54 12 (js_is 1 1) := jo_istore_n (i := 1) (w := 1) rfl (Nat.le_of_ble_eq_true rfl) jd_54_12
theorem jk_54_13 : jx_Snd 54 13 (js_il 1 1) := jo_iload_n (i := 1) (w := 1) rfl jd_54_13
theorem jk_54_14 : jx_Snd 54 14 (js_c 1 1) := jo_iconst (z := 1) jd_54_14 rfl
theorem jk_54_15 : jx_Snd 54 15 (js_cne 38) := jo_cne (o := 23) rfl jd_54_15
theorem jk_54_18 : jx_Snd 54 18 (js_al 0 1) := jo_aload_n (i := 0) (w := 0) rfl jd_54_18
theorem jk_54_19 : jx_Snd 54 19 (js_getf 2 1) := jo_getf rfl jf_2_21 jd_54_19
theorem jk_54_22 : jx_Snd 54 22 (js_getf 4 1) := jo_getf rfl jf_2_137 jd_54_22
theorem jk_54_25 : jx_Snd 54 25 (js_al 0 1) := jo_aload_n (i := 0) (w := 0) rfl jd_54_25
theorem jk_54_26 : jx_Snd 54 26 (js_getf 2 9) := jo_getf rfl jf_2_125 jd_54_26
theorem jk_54_29 : jx_Snd 54 29 (js_ald) := jo_ald jd_54_29
theorem jk_54_30 : jx_Snd 54 30 (js_c 1 1) := jo_iconst (z := 1) jd_54_30 rfl
theorem jk_54_31 : jx_Snd 54 31 (js_cne 38) := jo_cne (o := 7) rfl jd_54_31
theorem jk_54_34 : jx_Snd 54 34 (js_c 1 1) := jo_iconst (z := 1) jd_54_34 rfl
theorem jk_54_35 : jx_Snd 54 35 (js_go 39) := jo_goto (o := 4) rfl jd_54_35
theorem jk_54_38 : jx_Snd 54 38 (js_c 0 1) := jo_iconst (z := 0) jd_54_38 rfl
theorem jk_54_39 : jx_Snd 54 39 (js_is 2 1) := jo_istore_n (i := 2) (w := 2) rfl (Nat.le_of_ble_eq_true rfl) jd_54_39
theorem jk_54_40 : jx_Snd 54 40 (js_al 0 1) := jo_aload_n (i := 0) (w := 0) rfl jd_54_40
theorem jk_54_41 : jx_Snd 54 41 (js_il 2 1) := jo_iload_n (i := 2) (w := 2) rfl jd_54_41
theorem jk_54_42 : jx_Snd 54 42 (js_ifeq 49) := jo_ifeq (o := 7) rfl jd_54_42
theorem jk_54_45 : jx_Snd 54 45 (js_c 0 1) := jo_iconst (z := 0) jd_54_45 rfl
theorem jk_54_46 : jx_Snd 54 46 (js_go 50) := jo_goto (o := 4) rfl jd_54_46
theorem jk_54_49 : jx_Snd 54 49 (js_c 1 1) := jo_iconst (z := 1) jd_54_49 rfl
theorem jk_54_50 : jx_Snd 54 50 (js_putf 2 13 false) := jo_putf (z := false) rfl jf_2_35 (fun C T N h => by cases h; rfl) jd_54_50
theorem jk_54_53 : jx_Snd 54 53 (js_al 0 1) := jo_aload_n (i := 0) (w := 0) rfl jd_54_53
theorem jk_54_54 : jx_Snd 54 54 (js_il 1 1) := jo_iload_n (i := 1) (w := 1) rfl jd_54_54
theorem jk_54_55 : jx_Snd 54 55 (js_c 3 1) := jo_iconst (z := 3) jd_54_55 rfl
theorem jk_54_56 : jx_Snd 54 56 (js_min) := jo_min rfl jw_258 jw_259 jw_8 jw_260 jd_54_56
theorem jk_54_59 : jx_Snd 54 59 (js_putf 2 14 false) := jo_putf (z := false) rfl jf_2_169 (fun C T N h => by cases h; rfl) jd_54_59
theorem jk_54_62 : jx_Snd 54 62 (js_al 0 1) := jo_aload_n (i := 0) (w := 0) rfl jd_54_62
theorem jk_54_63 : jx_Snd 54 63 (js_c 0 1) := jo_iconst (z := 0) jd_54_63 rfl
theorem jk_54_64 : jx_Snd 54 64 (js_putf 2 15 false) := jo_putf (z := false) rfl jf_2_172 (fun C T N h => by cases h; rfl) jd_54_64
theorem jk_54_67 : jx_Snd 54 67 (js_il 1 1) := jo_iload_n (i := 1) (w := 1) rfl jd_54_67
theorem jk_54_68 : jx_Snd 54 68 (js_ifeq 76) := jo_ifeq (o := 8) rfl jd_54_68
theorem jk_54_71 : jx_Snd 54 71 (js_il 1 1) := jo_iload_n (i := 1) (w := 1) rfl jd_54_71
theorem jk_54_72 : jx_Snd 54 72 (js_c 1 1) := jo_iconst (z := 1) jd_54_72 rfl
theorem jk_54_73 : jx_Snd 54 73 (js_cne 95) := jo_cne (o := 22) rfl jd_54_73
theorem jk_54_76 : jx_Snd 54 76 (js_al 0 1) := jo_aload_n (i := 0) (w := 0) rfl jd_54_76
theorem jk_54_77 : jx_Snd 54 77 (js_al 0 1) := jo_aload_n (i := 0) (w := 0) rfl jd_54_77
theorem jk_54_78 : jx_Snd 54 78 (js_getf 2 1) := jo_getf rfl jf_2_21 jd_54_78
theorem jk_54_81 : jx_Snd 54 81 (js_getf 4 1) := jo_getf rfl jf_2_137 jd_54_81
theorem jk_54_84 : jx_Snd 54 84 (js_al 0 1) := jo_aload_n (i := 0) (w := 0) rfl jd_54_84
theorem jk_54_85 : jx_Snd 54 85 (js_getf 2 9) := jo_getf rfl jf_2_125 jd_54_85
theorem jk_54_88 : jx_Snd 54 88 (js_ald) := jo_ald jd_54_88
theorem jk_54_89 : jx_Snd 54 89 (js_putf 2 15 false) := jo_putf (z := false) rfl jf_2_172 (fun C T N h => by cases h; rfl) jd_54_89
theorem jk_54_92 : jx_Snd 54 92 (js_go 116) := jo_goto (o := 24) rfl jd_54_92
theorem jk_54_95 : jx_Snd 54 95 (js_il 1 1) := jo_iload_n (i := 1) (w := 1) rfl jd_54_95
theorem jk_54_96 : jx_Snd 54 96 (js_c 2 1) := jo_iconst (z := 2) jd_54_96 rfl
theorem jk_54_97 : jx_Snd 54 97 (js_cne 116) := jo_cne (o := 19) rfl jd_54_97
theorem jk_54_100 : jx_Snd 54 100 (js_al 0 1) := jo_aload_n (i := 0) (w := 0) rfl jd_54_100
theorem jk_54_101 : jx_Snd 54 101 (js_al 0 1) := jo_aload_n (i := 0) (w := 0) rfl jd_54_101
theorem jk_54_102 : jx_Snd 54 102 (js_getf 2 1) := jo_getf rfl jf_2_21 jd_54_102
theorem jk_54_105 : jx_Snd 54 105 (js_getf 4 3) := jo_getf rfl jf_2_144 jd_54_105
theorem jk_54_108 : jx_Snd 54 108 (js_al 0 1) := jo_aload_n (i := 0) (w := 0) rfl jd_54_108
theorem jk_54_109 : jx_Snd 54 109 (js_getf 2 9) := jo_getf rfl jf_2_125 jd_54_109
theorem jk_54_112 : jx_Snd 54 112 (js_ald) := jo_ald jd_54_112
theorem jk_54_113 : jx_Snd 54 113 (js_putf 2 15 false) := jo_putf (z := false) rfl jf_2_172 (fun C T N h => by cases h; rfl) jd_54_113
theorem jk_54_116 : jx_Snd 54 116 (js_al 0 1) := jo_aload_n (i := 0) (w := 0) rfl jd_54_116
theorem jk_54_117 : jx_Snd 54 117 (js_c 4 1) := jo_iconst (z := 4) jd_54_117 rfl
theorem jk_54_118 : jx_Snd 54 118 (js_putf 2 6 false) := jo_putf (z := false) rfl jf_2_59 (fun C T N h => by cases h; rfl) jd_54_118
theorem jk_54_121 : jx_Snd 54 121 (js_vr) := jo_vr rfl jd_54_121
theorem jk_54 : jx_So 54 jt_54 := fun pc => jo_le (jo_le (jo_le (jo_le (jo_le (jo_le (jo_le (jo_at (jk_54_0)) (jo_at (jk_54_1))) (jo_at (jk_54_4))) (jo_le (jo_at (jk_54_7)) (jo_at (jk_54_8)))) (jo_le (jo_le (jo_at (jk_54_11)) (jo_at (jk_54_12))) (jo_le (jo_at (jk_54_13)) (jo_at (jk_54_14))))) (jo_le (jo_le (jo_le (jo_at (jk_54_15)) (jo_at (jk_54_18))) (jo_le (jo_at (jk_54_19)) (jo_at (jk_54_22)))) (jo_le (jo_le (jo_at (jk_54_25)) (jo_at (jk_54_26))) (jo_le (jo_at (jk_54_29)) (jo_at (jk_54_30)))))) (jo_le (jo_le (jo_le (jo_le (jo_at (jk_54_31)) (jo_at (jk_54_34))) (jo_le (jo_at (jk_54_35)) (jo_at (jk_54_38)))) (jo_le (jo_le (jo_at (jk_54_39)) (jo_at (jk_54_40))) (jo_le (jo_at (jk_54_41)) (jo_at (jk_54_42))))) (jo_le (jo_le (jo_le (jo_at (jk_54_45)) (jo_at (jk_54_46))) (jo_le (jo_at (jk_54_49)) (jo_at (jk_54_50)))) (jo_le (jo_le (jo_at (jk_54_53)) (jo_at (jk_54_54))) (jo_le (jo_at (jk_54_55)) (jo_at (jk_54_56))))))) (jo_le (jo_le (jo_le (jo_le (jo_le (jo_le (jo_at (jk_54_59)) (jo_at (jk_54_62))) (jo_at (jk_54_63))) (jo_le (jo_at (jk_54_64)) (jo_at (jk_54_67)))) (jo_le (jo_le (jo_at (jk_54_68)) (jo_at (jk_54_71))) (jo_le (jo_at (jk_54_72)) (jo_at (jk_54_73))))) (jo_le (jo_le (jo_le (jo_at (jk_54_76)) (jo_at (jk_54_77))) (jo_le (jo_at (jk_54_78)) (jo_at (jk_54_81)))) (jo_le (jo_le (jo_at (jk_54_84)) (jo_at (jk_54_85))) (jo_le (jo_at (jk_54_88)) (jo_at (jk_54_89)))))) (jo_le (jo_le (jo_le (jo_le (jo_at (jk_54_92)) (jo_at (jk_54_95))) (jo_le (jo_at (jk_54_96)) (jo_at (jk_54_97)))) (jo_le (jo_le (jo_at (jk_54_100)) (jo_at (jk_54_101))) (jo_le (jo_at (jk_54_102)) (jo_at (jk_54_105))))) (jo_le (jo_le (jo_le (jo_at (jk_54_108)) (jo_at (jk_54_109))) (jo_le (jo_at (jk_54_112)) (jo_at (jk_54_113)))) (jo_le (jo_le (jo_at (jk_54_116)) (jo_at (jk_54_117))) (jo_le (jo_at (jk_54_118)) (jo_at (jk_54_121)))))))
theorem ji_54 {l : Launch} {D : va_G} {cA : ClassId} {ρ : Nat → Nat} {Λ : List jx_Lc} {d : Nat} {Q : Option Value → jx_St → Prop} {σ : jx_St} {z0 : Nat} (h : jt_54 0 Λ jx_tb0 (jx_rn Λ jx_tb0 jt_54 (fun k' as σ K => jx_C l D cA ρ Λ d k' as σ K) Q (jx_J l D cA ρ Λ (jx_A ρ Λ) jx_tb0 (d + 1) 54 Q) [] 400) (fun k' as σ K => jx_C l D cA ρ Λ d k' as σ K) Q 0 [(0, .ref z0)] [] σ) : jx_C l D cA ρ Λ (d + 1) 54 [.ref z0] σ Q := jx_in jk_54 400 [] rfl (Nat.le_of_ble_eq_true rfl) h
/-! ScriptLedger$Scripts.<init>()V -/
theorem jd_55_0 : decode prog_6_method_1_code 0 = .ok (.aload_n 0, 1) := by decide +kernel
theorem jd_55_1 : decode prog_6_method_1_code 1 = .ok (.invokespecial 3, 3) := by decide +kernel
theorem jd_55_4 : decode prog_6_method_1_code 4 = .ok (.aload_n 0, 1) := by decide +kernel
theorem jd_55_5 : decode prog_6_method_1_code 5 = .ok (.sipush 288, 3) := by decide +kernel
theorem jd_55_8 : decode prog_6_method_1_code 8 = .ok (.newarray .int, 2) := by decide +kernel
theorem jd_55_10 : decode prog_6_method_1_code 10 = .ok (.putfield 9, 3) := by decide +kernel
theorem jd_55_13 : decode prog_6_method_1_code 13 = .ok (.aload_n 0, 1) := by decide +kernel
theorem jd_55_14 : decode prog_6_method_1_code 14 = .ok (.sipush 288, 3) := by decide +kernel
theorem jd_55_17 : decode prog_6_method_1_code 17 = .ok (.newarray .int, 2) := by decide +kernel
theorem jd_55_19 : decode prog_6_method_1_code 19 = .ok (.putfield 15, 3) := by decide +kernel
theorem jd_55_22 : decode prog_6_method_1_code 22 = .ok (.return_, 1) := by decide +kernel
def jnt_55 (pc : Nat) : jn_Sp := bif Nat.ble pc 10 then (bif Nat.ble pc 4 then (bif Nat.ble pc 1 then (bif Nat.ble pc 0 then (bif Nat.beq pc 0 then jn_of (js_al 0 1) else jn_none) else (bif Nat.beq pc 1 then jn_obj else jn_none)) else (bif Nat.beq pc 4 then jn_of (js_al 0 1) else jn_none)) else (bif Nat.ble pc 8 then (bif Nat.ble pc 5 then (bif Nat.beq pc 5 then jn_of (js_c 288 3) else jn_none) else (bif Nat.beq pc 8 then jn_newa else jn_none)) else (bif Nat.beq pc 10 then jn_putr 3 0 else jn_none))) else (bif Nat.ble pc 17 then (bif Nat.ble pc 14 then (bif Nat.ble pc 13 then (bif Nat.beq pc 13 then jn_of (js_al 0 1) else jn_none) else (bif Nat.beq pc 14 then jn_of (js_c 288 3) else jn_none)) else (bif Nat.beq pc 17 then jn_newa else jn_none)) else (bif Nat.ble pc 19 then (bif Nat.beq pc 19 then jn_putr 3 1 else jn_none) else (bif Nat.beq pc 22 then jn_vr else jn_none)))
theorem jnk_55_0 : jn_Snd 55 0 (jn_of (js_al 0 1)) := jn_lift (jo_aload_n (i := 0) (w := 0) rfl jd_55_0)
theorem jnk_55_1 : jn_Snd 55 1 (jn_obj) := jno_obj rfl jw_38 jw_17 jw_18 jd_55_1
theorem jnk_55_4 : jn_Snd 55 4 (jn_of (js_al 0 1)) := jn_lift (jo_aload_n (i := 0) (w := 0) rfl jd_55_4)
theorem jnk_55_5 : jn_Snd 55 5 (jn_of (js_c 288 3)) := jn_lift (jo_sipush (z := 288) jd_55_5 (by decide +kernel))
theorem jnk_55_8 : jn_Snd 55 8 (jn_newa) := jno_newa (at_ := .int) rfl jw_28 jd_55_8
theorem jnk_55_10 : jn_Snd 55 10 (jn_putr 3 0) := jno_putr rfl rfl jf_3_9 (fun C T N h => by cases h; exact ⟨rfl, rfl⟩) ⟨_, _, _, rfl, jw_39⟩ (fun a => ⟨rfl, rfl⟩) jd_55_10
theorem jnk_55_13 : jn_Snd 55 13 (jn_of (js_al 0 1)) := jn_lift (jo_aload_n (i := 0) (w := 0) rfl jd_55_13)
theorem jnk_55_14 : jn_Snd 55 14 (jn_of (js_c 288 3)) := jn_lift (jo_sipush (z := 288) jd_55_14 (by decide +kernel))
theorem jnk_55_17 : jn_Snd 55 17 (jn_newa) := jno_newa (at_ := .int) rfl jw_28 jd_55_17
theorem jnk_55_19 : jn_Snd 55 19 (jn_putr 3 1) := jno_putr rfl rfl jf_3_15 (fun C T N h => by cases h; exact ⟨rfl, rfl⟩) ⟨_, _, _, rfl, jw_41⟩ (fun a => ⟨rfl, rfl⟩) jd_55_19
theorem jnk_55_22 : jn_Snd 55 22 (jn_vr) := jno_vr jd_55_22
theorem jnk_55 : jn_So 55 jnt_55 := fun pc => jno_le (jno_le (jno_le (jno_le (jno_at (jnk_55_0)) (jno_at (jnk_55_1))) (jno_at (jnk_55_4))) (jno_le (jno_le (jno_at (jnk_55_5)) (jno_at (jnk_55_8))) (jno_at (jnk_55_10)))) (jno_le (jno_le (jno_le (jno_at (jnk_55_13)) (jno_at (jnk_55_14))) (jno_at (jnk_55_17))) (jno_le (jno_at (jnk_55_19)) (jno_at (jnk_55_22))))
/-! ScriptLedger$Scripts.has(I)Z -/
theorem jd_56_0 : decode prog_6_method_2_code 0 = .ok (.iload_n 1, 1) := by decide +kernel
theorem jd_56_1 : decode prog_6_method_2_code 1 = .ok (.ifCond .lt 15, 3) := by decide +kernel
theorem jd_56_4 : decode prog_6_method_2_code 4 = .ok (.iload_n 1, 1) := by decide +kernel
theorem jd_56_5 : decode prog_6_method_2_code 5 = .ok (.aload_n 0, 1) := by decide +kernel
theorem jd_56_6 : decode prog_6_method_2_code 6 = .ok (.getfield 18, 3) := by decide +kernel
theorem jd_56_9 : decode prog_6_method_2_code 9 = .ok (.if_icmp .ge 7, 3) := by decide +kernel
theorem jd_56_12 : decode prog_6_method_2_code 12 = .ok (.iconst 1, 1) := by decide +kernel
theorem jd_56_13 : decode prog_6_method_2_code 13 = .ok (.goto 4, 3) := by decide +kernel
theorem jd_56_16 : decode prog_6_method_2_code 16 = .ok (.iconst 0, 1) := by decide +kernel
theorem jd_56_17 : decode prog_6_method_2_code 17 = .ok (.ireturn, 1) := by decide +kernel
def jt_56 (pc : Nat) : jx_Sp := bif Nat.ble pc 6 then (bif Nat.ble pc 4 then (bif Nat.ble pc 1 then (bif Nat.ble pc 0 then (bif Nat.beq pc 0 then js_il 1 1 else js_none) else (bif Nat.beq pc 1 then js_iflt 16 else js_none)) else (bif Nat.beq pc 4 then js_il 1 1 else js_none)) else (bif Nat.ble pc 5 then (bif Nat.beq pc 5 then js_al 0 1 else js_none) else (bif Nat.beq pc 6 then js_getf 3 2 else js_none))) else (bif Nat.ble pc 13 then (bif Nat.ble pc 12 then (bif Nat.ble pc 9 then (bif Nat.beq pc 9 then js_cge 16 else js_none) else (bif Nat.beq pc 12 then js_c 1 1 else js_none)) else (bif Nat.beq pc 13 then js_go 17 else js_none)) else (bif Nat.ble pc 16 then (bif Nat.beq pc 16 then js_c 0 1 else js_none) else (bif Nat.beq pc 17 then js_zr else js_none)))
theorem jk_56_0 : jx_Snd 56 0 (js_il 1 1) := jo_iload_n (i := 1) (w := 1) rfl jd_56_0
theorem jk_56_1 : jx_Snd 56 1 (js_iflt 16) := jo_iflt (o := 15) rfl jd_56_1
theorem jk_56_4 : jx_Snd 56 4 (js_il 1 1) := jo_iload_n (i := 1) (w := 1) rfl jd_56_4
theorem jk_56_5 : jx_Snd 56 5 (js_al 0 1) := jo_aload_n (i := 0) (w := 0) rfl jd_56_5
theorem jk_56_6 : jx_Snd 56 6 (js_getf 3 2) := jo_getf rfl jf_3_18 jd_56_6
theorem jk_56_9 : jx_Snd 56 9 (js_cge 16) := jo_cge (o := 7) rfl jd_56_9
theorem jk_56_12 : jx_Snd 56 12 (js_c 1 1) := jo_iconst (z := 1) jd_56_12 rfl
theorem jk_56_13 : jx_Snd 56 13 (js_go 17) := jo_goto (o := 4) rfl jd_56_13
theorem jk_56_16 : jx_Snd 56 16 (js_c 0 1) := jo_iconst (z := 0) jd_56_16 rfl
theorem jk_56_17 : jx_Snd 56 17 (js_zr) := jo_zr rfl jd_56_17
theorem jk_56 : jx_So 56 jt_56 := fun pc => jo_le (jo_le (jo_le (jo_le (jo_at (jk_56_0)) (jo_at (jk_56_1))) (jo_at (jk_56_4))) (jo_le (jo_at (jk_56_5)) (jo_at (jk_56_6)))) (jo_le (jo_le (jo_le (jo_at (jk_56_9)) (jo_at (jk_56_12))) (jo_at (jk_56_13))) (jo_le (jo_at (jk_56_16)) (jo_at (jk_56_17))))
theorem ji_56 {l : Launch} {D : va_G} {cA : ClassId} {ρ : Nat → Nat} {Λ : List jx_Lc} {d : Nat} {Q : Option Value → jx_St → Prop} {σ : jx_St} {z0 : Nat} {a1 : Int32} (h : jt_56 0 Λ jx_tb0 (jx_rn Λ jx_tb0 jt_56 (fun k' as σ K => jx_C l D cA ρ Λ d k' as σ K) Q (jx_J l D cA ρ Λ (jx_A ρ Λ) jx_tb0 (d + 1) 56 Q) [] 400) (fun k' as σ K => jx_C l D cA ρ Λ d k' as σ K) Q 0 [(0, .ref z0), (1, .int a1)] [] σ) : jx_C l D cA ρ Λ (d + 1) 56 [.ref z0, .int a1] σ Q := jx_in jk_56 400 [] rfl (Nat.le_of_ble_eq_true rfl) h
/-! ScriptLedger$Scripts.startOf(I)I -/
theorem jd_57_0 : decode prog_6_method_3_code 0 = .ok (.iload_n 1, 1) := by decide +kernel
theorem jd_57_1 : decode prog_6_method_3_code 1 = .ok (.bipush 48, 2) := by decide +kernel
theorem jd_57_3 : decode prog_6_method_3_code 3 = .ok (.imul, 1) := by decide +kernel
theorem jd_57_4 : decode prog_6_method_3_code 4 = .ok (.ireturn, 1) := by decide +kernel
def jt_57 (pc : Nat) : jx_Sp := bif Nat.ble pc 1 then (bif Nat.ble pc 0 then (bif Nat.beq pc 0 then js_il 1 1 else js_none) else (bif Nat.beq pc 1 then js_c 48 2 else js_none)) else (bif Nat.ble pc 3 then (bif Nat.beq pc 3 then js_imul else js_none) else (bif Nat.beq pc 4 then js_ir else js_none))
theorem jk_57_0 : jx_Snd 57 0 (js_il 1 1) := jo_iload_n (i := 1) (w := 1) rfl jd_57_0
theorem jk_57_1 : jx_Snd 57 1 (js_c 48 2) := jo_bipush (z := 48) jd_57_1 (by decide +kernel)
theorem jk_57_3 : jx_Snd 57 3 (js_imul) := jo_imul jd_57_3
theorem jk_57_4 : jx_Snd 57 4 (js_ir) := jo_ir rfl jd_57_4
theorem jk_57 : jx_So 57 jt_57 := fun pc => jo_le (jo_le (jo_at (jk_57_0)) (jo_at (jk_57_1))) (jo_le (jo_at (jk_57_3)) (jo_at (jk_57_4)))
theorem ji_57 {l : Launch} {D : va_G} {cA : ClassId} {ρ : Nat → Nat} {Λ : List jx_Lc} {d : Nat} {Q : Option Value → jx_St → Prop} {σ : jx_St} {z0 : Nat} {a1 : Int32} (h : jt_57 0 Λ jx_tb0 (jx_rn Λ jx_tb0 jt_57 (fun k' as σ K => jx_C l D cA ρ Λ d k' as σ K) Q (jx_J l D cA ρ Λ (jx_A ρ Λ) jx_tb0 (d + 1) 57 Q) [] 400) (fun k' as σ K => jx_C l D cA ρ Λ d k' as σ K) Q 0 [(0, .ref z0), (1, .int a1)] [] σ) : jx_C l D cA ρ Λ (d + 1) 57 [.ref z0, .int a1] σ Q := jx_in jk_57 400 [] rfl (Nat.le_of_ble_eq_true rfl) h
