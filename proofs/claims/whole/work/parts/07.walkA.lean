def f_X0_lawOf (b0 : Nat) (w : Wd) (p1 : Int32) : Option (Nat) := (if ¬ p1 = 0 then some (b0 + 15) else some (b0 + 10))
set_option maxRecDepth 20000 in
theorem b_X0_lawOf_E {G : Gv} {V : Vt} {b0 : Nat} {w : Wd} {res : Nat} (hb0 : isBk b0 = true)  (C : CX cX0_lawOf RX0 G SX 2 1 (some (FieldType.object "UnderstudyHouse$Law")) (some (.ref (G.2 res))) w V) {p1 : Int32} (h : f_X0_lawOf b0 w p1 = some res) : V w 0 [(0, .ref (G.2 b0)), (1, .int p1)] [] := by
  unfold f_X0_lawOf at h
  refine r_iload_n (pc := 0) C dX0_lawOf_0 rfl 1 rfl ?_
  refine r_if_ne (pc := 1) C 11 dX0_lawOf_1 (by decide) h (fun h => ?_) (fun h => ?_)
  · refine r_aload_n (pc := 11) C dX0_lawOf_11 rfl 0 rfl ?_
    refine gr_X0_27 (pc := 12) (b0 + 15) C dX0_lawOf_12 (cBk_0 hb0) rfl ?_
    exact r_aretP (pc := 15) C dX0_lawOf_15 h
  · refine r_aload_n (pc := 4) C dX0_lawOf_4 rfl 0 rfl ?_
    refine gr_X0_23 (pc := 5) (b0 + 10) C dX0_lawOf_5 (cBk_0 hb0) rfl ?_
    refine r_goto (pc := 8) C 15 dX0_lawOf_8 (by decide) ?_
    exact r_aretP (pc := 15) C dX0_lawOf_15 h
theorem c_X0_lawOf {G : Gv} {b0 : Nat} {p1 : Int32} {w : Wd} {res : Nat} (hb0 : isBk b0 = true) (h : f_X0_lawOf b0 w p1 = some res) (l : Launch) : MC l yX0_lawOf cX0_lawOf 2 (some (FieldType.object "UnderstudyHouse$Law")) 1 G SX w [.ref (G.2 b0), .int p1] (some (.ref (G.2 res))) w := mc_of (by decide +kernel) rfl (Nat.le_of_ble_eq_true rfl) rfl (fun V C => b_X0_lawOf_E hb0 C h) l
def f_X0_draw (b0 : Nat) (w : Wd) : Option (Int32 × Wd) := wl (updW w b0 5 (((w b0 5) * (1103515245:Int32)) + (12345:Int32))) (fun w1 => some ((ushr (w1 b0 5) (8:Int32)), w1))
set_option maxRecDepth 20000 in
theorem b_X0_draw_E {G : Gv} {V : Vt} {b0 : Nat} {res : Int32 × Wd} (hb0 : isBk b0 = true)  (C : CX cX0_draw RX0 G SX 1 1 (some FieldType.int) (some (.int res.1)) res.2 V) {w : Wd} (h : f_X0_draw b0 w = some res) : V w 0 [(0, .ref (G.2 b0))] [] := by
  unfold f_X0_draw at h
  refine r_aload_n (pc := 0) C dX0_draw_0 rfl 0 rfl ?_
  refine r_aload_n (pc := 1) C dX0_draw_1 rfl 0 rfl ?_
  refine gi_X0_40 (pc := 2) C dX0_draw_2 (cBk_0 hb0) rfl ?_
  refine r_ldc (pc := 5) C dX0_draw_5 qk_X0_44 ?_
  refine r_imul (pc := 7) C dX0_draw_7 ?_
  refine r_sipush (v := (12345:Int32)) (pc := 8) C dX0_draw_8 (by decide) ?_
  refine r_iadd (pc := 11) C dX0_draw_11 ?_
  refine pi_X0_40 (pc := 12) C dX0_draw_12 (cBk_0 hb0) rfl h (fun w1 h => ?_)
  refine r_aload_n (pc := 15) C dX0_draw_15 rfl 0 rfl ?_
  refine gi_X0_40 (pc := 16) C dX0_draw_16 (cBk_0 hb0) rfl ?_
  refine r_bipush (v := (8:Int32)) (pc := 19) C dX0_draw_19 (by decide) ?_
  refine r_iushr (pc := 21) C dX0_draw_21 ?_
  exact r_iretE (pc := 22) C dX0_draw_22 h
theorem c_X0_draw {G : Gv} {b0 : Nat} {w : Wd} {res : Int32 × Wd} (hb0 : isBk b0 = true) (h : f_X0_draw b0 w = some res) (l : Launch) : MC l yX0_draw cX0_draw 1 (some FieldType.int) 1 G SX w [.ref (G.2 b0)] (some (.int res.1)) res.2 := mc_of (by decide +kernel) rfl (Nat.le_of_ble_eq_true rfl) rfl (fun V C => b_X0_draw_E hb0 C h) l
def f_X6_copyFrom (b0 : Nat) (b1 : Nat) (w : Wd) : Option (Wd) := wl (updW w b0 0 (w b1 0)) (fun w1 => cpy w1 (b1 + 1) 5 (0:Int32) (b0 + 1) 5 (0:Int32) (5:Int32) (fun w2 => cpy w2 (b1 + 2) 5 (0:Int32) (b0 + 2) 5 (0:Int32) (5:Int32) (fun w3 => cpy w3 (b1 + 3) 5 (0:Int32) (b0 + 3) 5 (0:Int32) (5:Int32) (fun w4 => cpy w4 (b1 + 4) 5 (0:Int32) (b0 + 4) 5 (0:Int32) (5:Int32) (fun w5 => wl (updW w5 b0 5 (w5 b1 5)) (fun w6 => cpy w6 (b1 + 5) 6 (0:Int32) (b0 + 5) 6 (0:Int32) (6:Int32) (fun w7 => cpy w7 (b1 + 6) 6 (0:Int32) (b0 + 6) 6 (0:Int32) (6:Int32) (fun w8 => cpy w8 (b1 + 7) 6 (0:Int32) (b0 + 7) 6 (0:Int32) (6:Int32) (fun w9 => cpy w9 (b1 + 8) 6 (0:Int32) (b0 + 8) 6 (0:Int32) (6:Int32) (fun w10 => wl (updW w10 b0 10 (w10 b1 10)) (fun w11 => wl (updW w11 b0 11 (w11 b1 11)) (fun w12 => wl (updW w12 b0 12 (w12 b1 12)) (fun w13 => some w13)))))))))))))
set_option maxRecDepth 20000 in
theorem b_X6_copyFrom_E {G : Gv} {V : Vt} {b0 : Nat} {b1 : Nat} {res : Wd} (hb0 : isTr b0 = true) (hb1 : isTr b1 = true)  (C : CX cX6_copyFrom RX6 G SX 2 2 none none res V) {w : Wd} (h : f_X6_copyFrom b0 b1 w = some res) : V w 0 [(0, .ref (G.2 b0)), (1, .ref (G.2 b1))] [] := by
  unfold f_X6_copyFrom at h
  refine r_aload_n (pc := 0) C dX6_copyFrom_0 rfl 0 rfl ?_
  refine r_aload_n (pc := 1) C dX6_copyFrom_1 rfl 1 rfl ?_
  refine gi_X6_36 (pc := 2) C dX6_copyFrom_2 (cTr_0 hb1) rfl ?_
  refine pi_X6_36 (pc := 5) C dX6_copyFrom_5 (cTr_0 hb0) rfl h (fun w1 h => ?_)
  refine r_aload_n (pc := 8) C dX6_copyFrom_8 rfl 1 rfl ?_
  refine gr_X6_9 (pc := 9) (b1 + 1) C dX6_copyFrom_9 (cTr_0 hb1) rfl ?_
  refine r_iconst (v := (0:Int32)) (pc := 12) C dX6_copyFrom_12 (by decide) ?_
  refine r_aload_n (pc := 13) C dX6_copyFrom_13 rfl 0 rfl ?_
  refine gr_X6_9 (pc := 14) (b0 + 1) C dX6_copyFrom_14 (cTr_0 hb0) rfl ?_
  refine r_iconst (v := (0:Int32)) (pc := 17) C dX6_copyFrom_17 (by decide) ?_
  refine r_iconst (v := (5:Int32)) (pc := 18) C dX6_copyFrom_18 (by decide) ?_
  refine r_cpy (pc := 19) C dX6_copyFrom_19 h (cTr_1 hb1) (cTr_1 hb0) ql_X6_40 qv_arraycopy qt_arraycopy qn_J10 (Nat.le_of_ble_eq_true rfl) (fun w2 h => ?_)
  refine r_aload_n (pc := 22) C dX6_copyFrom_22 rfl 1 rfl ?_
  refine gr_X6_15 (pc := 23) (b1 + 2) C dX6_copyFrom_23 (cTr_0 hb1) rfl ?_
  refine r_iconst (v := (0:Int32)) (pc := 26) C dX6_copyFrom_26 (by decide) ?_
  refine r_aload_n (pc := 27) C dX6_copyFrom_27 rfl 0 rfl ?_
  refine gr_X6_15 (pc := 28) (b0 + 2) C dX6_copyFrom_28 (cTr_0 hb0) rfl ?_
  refine r_iconst (v := (0:Int32)) (pc := 31) C dX6_copyFrom_31 (by decide) ?_
  refine r_iconst (v := (5:Int32)) (pc := 32) C dX6_copyFrom_32 (by decide) ?_
  refine r_cpy (pc := 33) C dX6_copyFrom_33 h (cTr_2 hb1) (cTr_2 hb0) ql_X6_40 qv_arraycopy qt_arraycopy qn_J10 (Nat.le_of_ble_eq_true rfl) (fun w3 h => ?_)
  refine r_aload_n (pc := 36) C dX6_copyFrom_36 rfl 1 rfl ?_
  refine gr_X6_18 (pc := 37) (b1 + 3) C dX6_copyFrom_37 (cTr_0 hb1) rfl ?_
  refine r_iconst (v := (0:Int32)) (pc := 40) C dX6_copyFrom_40 (by decide) ?_
  refine r_aload_n (pc := 41) C dX6_copyFrom_41 rfl 0 rfl ?_
  refine gr_X6_18 (pc := 42) (b0 + 3) C dX6_copyFrom_42 (cTr_0 hb0) rfl ?_
  refine r_iconst (v := (0:Int32)) (pc := 45) C dX6_copyFrom_45 (by decide) ?_
  refine r_iconst (v := (5:Int32)) (pc := 46) C dX6_copyFrom_46 (by decide) ?_
  refine r_cpy (pc := 47) C dX6_copyFrom_47 h (cTr_3 hb1) (cTr_3 hb0) ql_X6_40 qv_arraycopy qt_arraycopy qn_J10 (Nat.le_of_ble_eq_true rfl) (fun w4 h => ?_)
  refine r_aload_n (pc := 50) C dX6_copyFrom_50 rfl 1 rfl ?_
  refine gr_X6_21 (pc := 51) (b1 + 4) C dX6_copyFrom_51 (cTr_0 hb1) rfl ?_
  refine r_iconst (v := (0:Int32)) (pc := 54) C dX6_copyFrom_54 (by decide) ?_
  refine r_aload_n (pc := 55) C dX6_copyFrom_55 rfl 0 rfl ?_
  refine gr_X6_21 (pc := 56) (b0 + 4) C dX6_copyFrom_56 (cTr_0 hb0) rfl ?_
  refine r_iconst (v := (0:Int32)) (pc := 59) C dX6_copyFrom_59 (by decide) ?_
  refine r_iconst (v := (5:Int32)) (pc := 60) C dX6_copyFrom_60 (by decide) ?_
  refine r_cpy (pc := 61) C dX6_copyFrom_61 h (cTr_4 hb1) (cTr_4 hb0) ql_X6_40 qv_arraycopy qt_arraycopy qn_J10 (Nat.le_of_ble_eq_true rfl) (fun w5 h => ?_)
  refine r_aload_n (pc := 64) C dX6_copyFrom_64 rfl 0 rfl ?_
  refine r_aload_n (pc := 65) C dX6_copyFrom_65 rfl 1 rfl ?_
  refine gi_X6_46 (pc := 66) C dX6_copyFrom_66 (cTr_0 hb1) rfl ?_
  refine pi_X6_46 (pc := 69) C dX6_copyFrom_69 (cTr_0 hb0) rfl h (fun w6 h => ?_)
  refine r_aload_n (pc := 72) C dX6_copyFrom_72 rfl 1 rfl ?_
  refine gr_X6_24 (pc := 73) (b1 + 5) C dX6_copyFrom_73 (cTr_0 hb1) rfl ?_
  refine r_iconst (v := (0:Int32)) (pc := 76) C dX6_copyFrom_76 (by decide) ?_
  refine r_aload_n (pc := 77) C dX6_copyFrom_77 rfl 0 rfl ?_
  refine gr_X6_24 (pc := 78) (b0 + 5) C dX6_copyFrom_78 (cTr_0 hb0) rfl ?_
  refine r_iconst (v := (0:Int32)) (pc := 81) C dX6_copyFrom_81 (by decide) ?_
  refine r_bipush (v := (6:Int32)) (pc := 82) C dX6_copyFrom_82 (by decide) ?_
  refine r_cpy (pc := 84) C dX6_copyFrom_84 h (cTr_5 hb1) (cTr_5 hb0) ql_X6_40 qv_arraycopy qt_arraycopy qn_J10 (Nat.le_of_ble_eq_true rfl) (fun w7 h => ?_)
  refine r_aload_n (pc := 87) C dX6_copyFrom_87 rfl 1 rfl ?_
  refine gr_X6_27 (pc := 88) (b1 + 6) C dX6_copyFrom_88 (cTr_0 hb1) rfl ?_
  refine r_iconst (v := (0:Int32)) (pc := 91) C dX6_copyFrom_91 (by decide) ?_
  refine r_aload_n (pc := 92) C dX6_copyFrom_92 rfl 0 rfl ?_
  refine gr_X6_27 (pc := 93) (b0 + 6) C dX6_copyFrom_93 (cTr_0 hb0) rfl ?_
  refine r_iconst (v := (0:Int32)) (pc := 96) C dX6_copyFrom_96 (by decide) ?_
  refine r_bipush (v := (6:Int32)) (pc := 97) C dX6_copyFrom_97 (by decide) ?_
  refine r_cpy (pc := 99) C dX6_copyFrom_99 h (cTr_6 hb1) (cTr_6 hb0) ql_X6_40 qv_arraycopy qt_arraycopy qn_J10 (Nat.le_of_ble_eq_true rfl) (fun w8 h => ?_)
  refine r_aload_n (pc := 102) C dX6_copyFrom_102 rfl 1 rfl ?_
  refine gr_X6_30 (pc := 103) (b1 + 7) C dX6_copyFrom_103 (cTr_0 hb1) rfl ?_
  refine r_iconst (v := (0:Int32)) (pc := 106) C dX6_copyFrom_106 (by decide) ?_
  refine r_aload_n (pc := 107) C dX6_copyFrom_107 rfl 0 rfl ?_
  refine gr_X6_30 (pc := 108) (b0 + 7) C dX6_copyFrom_108 (cTr_0 hb0) rfl ?_
  refine r_iconst (v := (0:Int32)) (pc := 111) C dX6_copyFrom_111 (by decide) ?_
  refine r_bipush (v := (6:Int32)) (pc := 112) C dX6_copyFrom_112 (by decide) ?_
  refine r_cpy (pc := 114) C dX6_copyFrom_114 h (cTr_7 hb1) (cTr_7 hb0) ql_X6_40 qv_arraycopy qt_arraycopy qn_J10 (Nat.le_of_ble_eq_true rfl) (fun w9 h => ?_)
  refine r_aload_n (pc := 117) C dX6_copyFrom_117 rfl 1 rfl ?_
  refine gr_X6_33 (pc := 118) (b1 + 8) C dX6_copyFrom_118 (cTr_0 hb1) rfl ?_
  refine r_iconst (v := (0:Int32)) (pc := 121) C dX6_copyFrom_121 (by decide) ?_
  refine r_aload_n (pc := 122) C dX6_copyFrom_122 rfl 0 rfl ?_
  refine gr_X6_33 (pc := 123) (b0 + 8) C dX6_copyFrom_123 (cTr_0 hb0) rfl ?_
  refine r_iconst (v := (0:Int32)) (pc := 126) C dX6_copyFrom_126 (by decide) ?_
  refine r_bipush (v := (6:Int32)) (pc := 127) C dX6_copyFrom_127 (by decide) ?_
  refine r_cpy (pc := 129) C dX6_copyFrom_129 h (cTr_8 hb1) (cTr_8 hb0) ql_X6_40 qv_arraycopy qt_arraycopy qn_J10 (Nat.le_of_ble_eq_true rfl) (fun w10 h => ?_)
  refine r_aload_n (pc := 132) C dX6_copyFrom_132 rfl 0 rfl ?_
  refine r_aload_n (pc := 133) C dX6_copyFrom_133 rfl 1 rfl ?_
  refine gi_X6_49 (pc := 134) C dX6_copyFrom_134 (cTr_0 hb1) rfl ?_
  refine pi_X6_49 (pc := 137) C dX6_copyFrom_137 (cTr_0 hb0) rfl h (fun w11 h => ?_)
  refine r_aload_n (pc := 140) C dX6_copyFrom_140 rfl 0 rfl ?_
  refine r_aload_n (pc := 141) C dX6_copyFrom_141 rfl 1 rfl ?_
  refine gi_X6_52 (pc := 142) C dX6_copyFrom_142 (cTr_0 hb1) rfl ?_
  refine pi_X6_52 (pc := 145) C dX6_copyFrom_145 (cTr_0 hb0) rfl h (fun w12 h => ?_)
  refine r_aload_n (pc := 148) C dX6_copyFrom_148 rfl 0 rfl ?_
  refine r_aload_n (pc := 149) C dX6_copyFrom_149 rfl 1 rfl ?_
  refine gi_X6_55 (pc := 150) C dX6_copyFrom_150 (cTr_0 hb1) rfl ?_
  refine pi_X6_55 (pc := 153) C dX6_copyFrom_153 (cTr_0 hb0) rfl h (fun w13 h => ?_)
  exact r_vretE (pc := 156) C dX6_copyFrom_156 h
theorem c_X6_copyFrom {G : Gv} {b0 : Nat} {b1 : Nat} {w : Wd} {res : Wd} (hb0 : isTr b0 = true) (hb1 : isTr b1 = true) (h : f_X6_copyFrom b0 b1 w = some res) (l : Launch) : MC l yX6_copyFrom cX6_copyFrom 2 none 2 G SX w [.ref (G.2 b0), .ref (G.2 b1)] none res := mc_of (by decide +kernel) rfl (Nat.le_of_ble_eq_true rfl) rfl (fun V C => b_X6_copyFrom_E hb0 hb1 C h) l
def f_X4_copyFrom (b0 : Nat) (b1 : Nat) (w : Wd) : Option (Wd) := wl (updW w b0 1 (mmin (w b1 1) (nI (rlen b0)))) (fun w1 => cpy w1 (b1 + 1) (rlen b1) (0:Int32) (b0 + 1) (rlen b0) (0:Int32) (w1 b0 1) (fun w2 => some w2))
set_option maxRecDepth 20000 in
theorem b_X4_copyFrom_E {G : Gv} {V : Vt} {b0 : Nat} {b1 : Nat} {res : Wd} (hb0 : isRo b0 = true) (hb1 : isRo b1 = true)  (C : CX cX4_copyFrom RX4 G SX 2 2 none none res V) {w : Wd} (h : f_X4_copyFrom b0 b1 w = some res) : V w 0 [(0, .ref (G.2 b0)), (1, .ref (G.2 b1))] [] := by
  unfold f_X4_copyFrom at h
  refine r_aload_n (pc := 0) C dX4_copyFrom_0 rfl 0 rfl ?_
  refine r_aload_n (pc := 1) C dX4_copyFrom_1 rfl 1 rfl ?_
  refine gi_X4_19 (pc := 2) C dX4_copyFrom_2 (cRo_0 hb1) rfl ?_
  refine r_aload_n (pc := 5) C dX4_copyFrom_5 rfl 0 rfl ?_
  refine gr_X4_13 (pc := 6) (b0 + 1) C dX4_copyFrom_6 (cRo_0 hb0) rfl ?_
  refine r_alen (pc := 9) C dX4_copyFrom_9 (cRo_1 hb0) ?_
  refine r_mmin (pc := 10) C dX4_copyFrom_10 ql_X4_23 qt_Math_min qn_J9 qc_Math_min (Nat.le_of_ble_eq_true rfl) ?_
  refine pi_X4_19 (pc := 13) C dX4_copyFrom_13 (cRo_0 hb0) rfl h (fun w1 h => ?_)
  refine r_aload_n (pc := 16) C dX4_copyFrom_16 rfl 1 rfl ?_
  refine gr_X4_13 (pc := 17) (b1 + 1) C dX4_copyFrom_17 (cRo_0 hb1) rfl ?_
  refine r_iconst (v := (0:Int32)) (pc := 20) C dX4_copyFrom_20 (by decide) ?_
  refine r_aload_n (pc := 21) C dX4_copyFrom_21 rfl 0 rfl ?_
  refine gr_X4_13 (pc := 22) (b0 + 1) C dX4_copyFrom_22 (cRo_0 hb0) rfl ?_
  refine r_iconst (v := (0:Int32)) (pc := 25) C dX4_copyFrom_25 (by decide) ?_
  refine r_aload_n (pc := 26) C dX4_copyFrom_26 rfl 0 rfl ?_
  refine gi_X4_19 (pc := 27) C dX4_copyFrom_27 (cRo_0 hb0) rfl ?_
  refine r_cpy (pc := 30) C dX4_copyFrom_30 h (cRo_1 hb1) (cRo_1 hb0) ql_X4_26 qv_arraycopy qt_arraycopy qn_J10 (Nat.le_of_ble_eq_true rfl) (fun w2 h => ?_)
  exact r_vretE (pc := 33) C dX4_copyFrom_33 h
theorem c_X4_copyFrom {G : Gv} {b0 : Nat} {b1 : Nat} {w : Wd} {res : Wd} (hb0 : isRo b0 = true) (hb1 : isRo b1 = true) (h : f_X4_copyFrom b0 b1 w = some res) (l : Launch) : MC l yX4_copyFrom cX4_copyFrom 2 none 2 G SX w [.ref (G.2 b0), .ref (G.2 b1)] none res := mc_of (by decide +kernel) rfl (Nat.le_of_ble_eq_true rfl) rfl (fun V C => b_X4_copyFrom_E hb0 hb1 C h) l
theorem cv_X2_27 {cc : ByteArray} {G : Gv} {n hc : Nat} {rt : Option FieldType} {rv : Option Value} {w0 : Wd} {V : Vt} {w : Wd} {pc : Nat} {L : List (Nat × Value)} {rest : List Value} {α : Type} {res : α} {b0 : Nat} {b1 : Nat} {K : Wd → Option α} (C : CX cc RX2 G SX n hc rt rv w0 V) (hd : decode cc pc = .ok (.invokevirtual 27, 3)) (hb0 : isRo b0 = true) (hb1 : isRo b1 = true) (h : bd (f_X4_copyFrom b0 b1 w) K = some res) (hR : 2 + 1 ≤ hc) (hr : (rest.map fun v => v.category).sum ≤ 8) (kk : ∀ q, K q = some res → V q (pc + 3) L (rest)) : V w pc L (.ref (G.2 b1) :: .ref (G.2 b0) :: rest) := r_callV (As := [.ref (G.2 b1)]) (rest := rest) (rvf := fun q => none) (wf := fun q => q) C hd h ql_X2_27 qi_X4_copyFrom qs_X4_copyFrom qn_X4 qc_X4_copyFrom ⟨rfl, by decide +kernel, by decide +kernel, (by decide +kernel : (parseMethodDescriptor yX4_copyFrom.desc).map (fun d => d.parameters.length) = some 1)⟩ ⟨hR, by decide⟩ (cRo_0 hb0) rfl (fun q hq l => c_X4_copyFrom hb0 hb1 hq l) rfl hr kk
def f_X2_copyFrom (b0 : Nat) (b1 : Nat) (w : Wd) : Option (Wd) := bd (f_X4_copyFrom (b0 + 1) (b1 + 1) w) (fun q1 => some q1)
set_option maxRecDepth 20000 in
theorem b_X2_copyFrom_E {G : Gv} {V : Vt} {b0 : Nat} {b1 : Nat} {res : Wd} (hb0 : isLa b0 = true) (hb1 : isLa b1 = true)  (C : CX cX2_copyFrom RX2 G SX 2 3 none none res V) {w : Wd} (h : f_X2_copyFrom b0 b1 w = some res) : V w 0 [(0, .ref (G.2 b0)), (1, .ref (G.2 b1))] [] := by
  unfold f_X2_copyFrom at h
  refine r_aload_n (pc := 0) C dX2_copyFrom_0 rfl 0 rfl ?_
  refine gr_X2_14 (pc := 1) (b0 + 1) C dX2_copyFrom_1 (cLa_0 hb0) rfl ?_
  refine r_aload_n (pc := 4) C dX2_copyFrom_4 rfl 1 rfl ?_
  refine gr_X2_14 (pc := 5) (b1 + 1) C dX2_copyFrom_5 (cLa_0 hb1) rfl ?_
  refine cv_X2_27 (pc := 8) C dX2_copyFrom_8 (sLa_1 hb0) (sLa_1 hb1) h (by decide) (Nat.le_of_ble_eq_true rfl) (fun q1 h => ?_)
  exact r_vretE (pc := 11) C dX2_copyFrom_11 h
theorem c_X2_copyFrom {G : Gv} {b0 : Nat} {b1 : Nat} {w : Wd} {res : Wd} (hb0 : isLa b0 = true) (hb1 : isLa b1 = true) (h : f_X2_copyFrom b0 b1 w = some res) (l : Launch) : MC l yX2_copyFrom cX2_copyFrom 2 none 3 G SX w [.ref (G.2 b0), .ref (G.2 b1)] none res := mc_of (by decide +kernel) rfl (Nat.le_of_ble_eq_true rfl) rfl (fun V C => b_X2_copyFrom_E hb0 hb1 C h) l
theorem cv_X0_45 {cc : ByteArray} {G : Gv} {n hc : Nat} {rt : Option FieldType} {rv : Option Value} {w0 : Wd} {V : Vt} {w : Wd} {pc : Nat} {L : List (Nat × Value)} {rest : List Value} {α : Type} {res : α} {b0 : Nat} {b1 : Nat} {K : Wd → Option α} (C : CX cc RX0 G SX n hc rt rv w0 V) (hd : decode cc pc = .ok (.invokevirtual 45, 3)) (hb0 : isTr b0 = true) (hb1 : isTr b1 = true) (h : bd (f_X6_copyFrom b0 b1 w) K = some res) (hR : 2 + 1 ≤ hc) (hr : (rest.map fun v => v.category).sum ≤ 8) (kk : ∀ q, K q = some res → V q (pc + 3) L (rest)) : V w pc L (.ref (G.2 b1) :: .ref (G.2 b0) :: rest) := r_callV (As := [.ref (G.2 b1)]) (rest := rest) (rvf := fun q => none) (wf := fun q => q) C hd h ql_X0_45 qi_X6_copyFrom qs_X6_copyFrom qn_X6 qc_X6_copyFrom ⟨rfl, by decide +kernel, by decide +kernel, (by decide +kernel : (parseMethodDescriptor yX6_copyFrom.desc).map (fun d => d.parameters.length) = some 1)⟩ ⟨hR, by decide⟩ (cTr_0 hb0) rfl (fun q hq l => c_X6_copyFrom hb0 hb1 hq l) rfl hr kk
theorem cv_X0_49 {cc : ByteArray} {G : Gv} {n hc : Nat} {rt : Option FieldType} {rv : Option Value} {w0 : Wd} {V : Vt} {w : Wd} {pc : Nat} {L : List (Nat × Value)} {rest : List Value} {α : Type} {res : α} {b0 : Nat} {b1 : Nat} {K : Wd → Option α} (C : CX cc RX0 G SX n hc rt rv w0 V) (hd : decode cc pc = .ok (.invokevirtual 49, 3)) (hb0 : isLa b0 = true) (hb1 : isLa b1 = true) (h : bd (f_X2_copyFrom b0 b1 w) K = some res) (hR : 3 + 1 ≤ hc) (hr : (rest.map fun v => v.category).sum ≤ 8) (kk : ∀ q, K q = some res → V q (pc + 3) L (rest)) : V w pc L (.ref (G.2 b1) :: .ref (G.2 b0) :: rest) := r_callV (As := [.ref (G.2 b1)]) (rest := rest) (rvf := fun q => none) (wf := fun q => q) C hd h ql_X0_49 qi_X2_copyFrom qs_X2_copyFrom qn_X2 qc_X2_copyFrom ⟨rfl, by decide +kernel, by decide +kernel, (by decide +kernel : (parseMethodDescriptor yX2_copyFrom.desc).map (fun d => d.parameters.length) = some 1)⟩ ⟨hR, by decide⟩ (cLa_0 hb0) rfl (fun q hq l => c_X2_copyFrom hb0 hb1 hq l) rfl hr kk
theorem cv_X0_52 {cc : ByteArray} {G : Gv} {n hc : Nat} {rt : Option FieldType} {rv : Option Value} {w0 : Wd} {V : Vt} {w : Wd} {pc : Nat} {L : List (Nat × Value)} {rest : List Value} {α : Type} {res : α} {b0 : Nat} {b1 : Nat} {K : Wd → Option α} (C : CX cc RX0 G SX n hc rt rv w0 V) (hd : decode cc pc = .ok (.invokevirtual 52, 3)) (hb0 : isRo b0 = true) (hb1 : isRo b1 = true) (h : bd (f_X4_copyFrom b0 b1 w) K = some res) (hR : 2 + 1 ≤ hc) (hr : (rest.map fun v => v.category).sum ≤ 8) (kk : ∀ q, K q = some res → V q (pc + 3) L (rest)) : V w pc L (.ref (G.2 b1) :: .ref (G.2 b0) :: rest) := r_callV (As := [.ref (G.2 b1)]) (rest := rest) (rvf := fun q => none) (wf := fun q => q) C hd h ql_X0_52 qi_X4_copyFrom qs_X4_copyFrom qn_X4 qc_X4_copyFrom ⟨rfl, by decide +kernel, by decide +kernel, (by decide +kernel : (parseMethodDescriptor yX4_copyFrom.desc).map (fun d => d.parameters.length) = some 1)⟩ ⟨hR, by decide⟩ (cRo_0 hb0) rfl (fun q hq l => c_X4_copyFrom hb0 hb1 hq l) rfl hr kk
def f_X0_copyFrom (b0 : Nat) (b1 : Nat) (w : Wd) : Option (Wd) := bd (f_X6_copyFrom (b0 + 1) (b1 + 1) w) (fun q1 => bd (f_X2_copyFrom (b0 + 10) (b1 + 10) q1) (fun q2 => bd (f_X2_copyFrom (b0 + 15) (b1 + 15) q2) (fun q3 => bd (f_X4_copyFrom (b0 + 20) (b1 + 20) q3) (fun q4 => bd (f_X4_copyFrom (b0 + 22) (b1 + 22) q4) (fun q5 => wl (updW q5 b0 5 (q5 b1 5)) (fun w6 => some w6))))))
set_option maxRecDepth 20000 in
theorem b_X0_copyFrom_E {G : Gv} {V : Vt} {b0 : Nat} {b1 : Nat} {res : Wd} (hb0 : isBk b0 = true) (hb1 : isBk b1 = true)  (C : CX cX0_copyFrom RX0 G SX 2 4 none none res V) {w : Wd} (h : f_X0_copyFrom b0 b1 w = some res) : V w 0 [(0, .ref (G.2 b0)), (1, .ref (G.2 b1))] [] := by
  unfold f_X0_copyFrom at h
  refine r_aload_n (pc := 0) C dX0_copyFrom_0 rfl 0 rfl ?_
  refine gr_X0_12 (pc := 1) (b0 + 1) C dX0_copyFrom_1 (cBk_0 hb0) rfl ?_
  refine r_aload_n (pc := 4) C dX0_copyFrom_4 rfl 1 rfl ?_
  refine gr_X0_12 (pc := 5) (b1 + 1) C dX0_copyFrom_5 (cBk_0 hb1) rfl ?_
  refine cv_X0_45 (pc := 8) C dX0_copyFrom_8 (sBk_1 hb0) (sBk_1 hb1) h (by decide) (Nat.le_of_ble_eq_true rfl) (fun q1 h => ?_)
  refine r_aload_n (pc := 11) C dX0_copyFrom_11 rfl 0 rfl ?_
  refine gr_X0_23 (pc := 12) (b0 + 10) C dX0_copyFrom_12 (cBk_0 hb0) rfl ?_
  refine r_aload_n (pc := 15) C dX0_copyFrom_15 rfl 1 rfl ?_
  refine gr_X0_23 (pc := 16) (b1 + 10) C dX0_copyFrom_16 (cBk_0 hb1) rfl ?_
  refine cv_X0_49 (pc := 19) C dX0_copyFrom_19 (sBk_10 hb0) (sBk_10 hb1) h (by decide) (Nat.le_of_ble_eq_true rfl) (fun q2 h => ?_)
  refine r_aload_n (pc := 22) C dX0_copyFrom_22 rfl 0 rfl ?_
  refine gr_X0_27 (pc := 23) (b0 + 15) C dX0_copyFrom_23 (cBk_0 hb0) rfl ?_
  refine r_aload_n (pc := 26) C dX0_copyFrom_26 rfl 1 rfl ?_
  refine gr_X0_27 (pc := 27) (b1 + 15) C dX0_copyFrom_27 (cBk_0 hb1) rfl ?_
  refine cv_X0_49 (pc := 30) C dX0_copyFrom_30 (sBk_15 hb0) (sBk_15 hb1) h (by decide) (Nat.le_of_ble_eq_true rfl) (fun q3 h => ?_)
  refine r_aload_n (pc := 33) C dX0_copyFrom_33 rfl 0 rfl ?_
  refine gr_X0_33 (pc := 34) (b0 + 20) C dX0_copyFrom_34 (cBk_0 hb0) rfl ?_
  refine r_aload_n (pc := 37) C dX0_copyFrom_37 rfl 1 rfl ?_
  refine gr_X0_33 (pc := 38) (b1 + 20) C dX0_copyFrom_38 (cBk_0 hb1) rfl ?_
  refine cv_X0_52 (pc := 41) C dX0_copyFrom_41 (sBk_20 hb0) (sBk_20 hb1) h (by decide) (Nat.le_of_ble_eq_true rfl) (fun q4 h => ?_)
  refine r_aload_n (pc := 44) C dX0_copyFrom_44 rfl 0 rfl ?_
  refine gr_X0_37 (pc := 45) (b0 + 22) C dX0_copyFrom_45 (cBk_0 hb0) rfl ?_
  refine r_aload_n (pc := 48) C dX0_copyFrom_48 rfl 1 rfl ?_
  refine gr_X0_37 (pc := 49) (b1 + 22) C dX0_copyFrom_49 (cBk_0 hb1) rfl ?_
  refine cv_X0_52 (pc := 52) C dX0_copyFrom_52 (sBk_22 hb0) (sBk_22 hb1) h (by decide) (Nat.le_of_ble_eq_true rfl) (fun q5 h => ?_)
  refine r_aload_n (pc := 55) C dX0_copyFrom_55 rfl 0 rfl ?_
  refine r_aload_n (pc := 56) C dX0_copyFrom_56 rfl 1 rfl ?_
  refine gi_X0_40 (pc := 57) C dX0_copyFrom_57 (cBk_0 hb1) rfl ?_
  refine pi_X0_40 (pc := 60) C dX0_copyFrom_60 (cBk_0 hb0) rfl h (fun w6 h => ?_)
  exact r_vretE (pc := 63) C dX0_copyFrom_63 h
theorem c_X0_copyFrom {G : Gv} {b0 : Nat} {b1 : Nat} {w : Wd} {res : Wd} (hb0 : isBk b0 = true) (hb1 : isBk b1 = true) (h : f_X0_copyFrom b0 b1 w = some res) (l : Launch) : MC l yX0_copyFrom cX0_copyFrom 2 none 4 G SX w [.ref (G.2 b0), .ref (G.2 b1)] none res := mc_of (by decide +kernel) rfl (Nat.le_of_ble_eq_true rfl) rfl (fun V C => b_X0_copyFrom_E hb0 hb1 C h) l
def f_X6_isEmpty_30 (b0 : Nat) (w : Wd) : Option (Int32) := some (1:Int32)
set_option maxRecDepth 20000 in
theorem b_X6_isEmpty_30 {G : Gv} {V : Vt} {b0 : Nat} {w : Wd} {res : Int32} (hb0 : isTr b0 = true)  (C : CX cX6_isEmpty RX6 G SX 2 1 (some FieldType.boolean) (some (.int res)) w V) (h : f_X6_isEmpty_30 b0 w = some res) : V w 30 [] [] := by
  unfold f_X6_isEmpty_30 at h
  refine r_iconst (v := (1:Int32)) (pc := 30) C dX6_isEmpty_30 (by decide) ?_
  refine r_goto (pc := 31) C 35 dX6_isEmpty_31 (by decide) ?_
  exact r_zretP (pc := 35) C rfl dX6_isEmpty_35 h
def f_X6_isEmpty (b0 : Nat) (w : Wd) (p1 : Int32) : Option (Int32) := ald w (b0 + 1) 5 p1 (fun v1 => (if v1 = (3:Int32) then f_X6_isEmpty_30 b0 w else ald w (b0 + 1) 5 p1 (fun v2 => (if ¬ v2 = (6:Int32) then some (0:Int32) else (if ¬ ((w b0 12) &&& (1:Int32)) = 0 then some (0:Int32) else f_X6_isEmpty_30 b0 w)))))
set_option maxRecDepth 20000 in
theorem b_X6_isEmpty_E {G : Gv} {V : Vt} {b0 : Nat} {w : Wd} {res : Int32} (hb0 : isTr b0 = true)  (C : CX cX6_isEmpty RX6 G SX 2 1 (some FieldType.boolean) (some (.int res)) w V) {p1 : Int32} (h : f_X6_isEmpty b0 w p1 = some res) : V w 0 [(0, .ref (G.2 b0)), (1, .int p1)] [] := by
  unfold f_X6_isEmpty at h
  refine r_aload_n (pc := 0) C dX6_isEmpty_0 rfl 0 rfl ?_
  refine gr_X6_9 (pc := 1) (b0 + 1) C dX6_isEmpty_1 (cTr_0 hb0) rfl ?_
  refine r_iload_n (pc := 4) C dX6_isEmpty_4 rfl 1 rfl ?_
  refine r_ald (pc := 5) C dX6_isEmpty_5 h (cTr_1 hb0) (fun v1 h => ?_)
  refine r_iconst (v := (3:Int32)) (pc := 6) C dX6_isEmpty_6 (by decide) ?_
  refine r_icmp_eq (pc := 7) C 30 dX6_isEmpty_7 (by decide) h (fun h => ?_) (fun h => ?_)
  · exact r_sub C [] rfl (b_X6_isEmpty_30 hb0 C h)
  · refine r_aload_n (pc := 10) C dX6_isEmpty_10 rfl 0 rfl ?_
    refine gr_X6_9 (pc := 11) (b0 + 1) C dX6_isEmpty_11 (cTr_0 hb0) rfl ?_
    refine r_iload_n (pc := 14) C dX6_isEmpty_14 rfl 1 rfl ?_
    refine r_ald (pc := 15) C dX6_isEmpty_15 h (cTr_1 hb0) (fun v2 h => ?_)
    refine r_bipush (v := (6:Int32)) (pc := 16) C dX6_isEmpty_16 (by decide) ?_
    refine r_icmp_ne (pc := 18) C 34 dX6_isEmpty_18 (by decide) h (fun h => ?_) (fun h => ?_)
    · refine r_iconst (v := (0:Int32)) (pc := 34) C dX6_isEmpty_34 (by decide) ?_
      exact r_zretP (pc := 35) C rfl dX6_isEmpty_35 h
    · refine r_aload_n (pc := 21) C dX6_isEmpty_21 rfl 0 rfl ?_
      refine gi_X6_55 (pc := 22) C dX6_isEmpty_22 (cTr_0 hb0) rfl ?_
      refine r_iconst (v := (1:Int32)) (pc := 25) C dX6_isEmpty_25 (by decide) ?_
      refine r_iand (pc := 26) C dX6_isEmpty_26 ?_
      refine r_if_ne (pc := 27) C 34 dX6_isEmpty_27 (by decide) h (fun h => ?_) (fun h => ?_)
      · refine r_iconst (v := (0:Int32)) (pc := 34) C dX6_isEmpty_34 (by decide) ?_
        exact r_zretP (pc := 35) C rfl dX6_isEmpty_35 h
      · exact r_sub C [] rfl (b_X6_isEmpty_30 hb0 C h)
theorem c_X6_isEmpty {G : Gv} {b0 : Nat} {p1 : Int32} {w : Wd} {res : Int32} (hb0 : isTr b0 = true) (h : f_X6_isEmpty b0 w p1 = some res) (l : Launch) : MC l yX6_isEmpty cX6_isEmpty 2 (some FieldType.boolean) 1 G SX w [.ref (G.2 b0), .int p1] (some (.int res)) w := mc_of (by decide +kernel) rfl (Nat.le_of_ble_eq_true rfl) rfl (fun V C => b_X6_isEmpty_E hb0 C h) l
def f_X6_allPlayers (b0 : Nat) (w : Wd) : Option (Int32) := some (((1:Int32) <<< ((w b0 5) &&& 31)) - (1:Int32))
set_option maxRecDepth 20000 in
theorem b_X6_allPlayers_E {G : Gv} {V : Vt} {b0 : Nat} {w : Wd} {res : Int32} (hb0 : isTr b0 = true)  (C : CX cX6_allPlayers RX6 G SX 1 1 (some FieldType.int) (some (.int res)) w V) (h : f_X6_allPlayers b0 w = some res) : V w 0 [(0, .ref (G.2 b0))] [] := by
  unfold f_X6_allPlayers at h
  refine r_iconst (v := (1:Int32)) (pc := 0) C dX6_allPlayers_0 (by decide) ?_
  refine r_aload_n (pc := 1) C dX6_allPlayers_1 rfl 0 rfl ?_
  refine gi_X6_46 (pc := 2) C dX6_allPlayers_2 (cTr_0 hb0) rfl ?_
  refine r_ishl (pc := 5) C dX6_allPlayers_5 ?_
  refine r_iconst (v := (1:Int32)) (pc := 6) C dX6_allPlayers_6 (by decide) ?_
  refine r_isub (pc := 7) C dX6_allPlayers_7 ?_
  exact r_iretP (pc := 8) C dX6_allPlayers_8 h
theorem c_X6_allPlayers {G : Gv} {b0 : Nat} {w : Wd} {res : Int32} (hb0 : isTr b0 = true) (h : f_X6_allPlayers b0 w = some res) (l : Launch) : MC l yX6_allPlayers cX6_allPlayers 1 (some FieldType.int) 1 G SX w [.ref (G.2 b0)] (some (.int res)) w := mc_of (by decide +kernel) rfl (Nat.le_of_ble_eq_true rfl) rfl (fun V C => b_X6_allPlayers_E hb0 C h) l
def fb_X6_whoHold_5 (b0 : Nat) (b1 : Nat) (w : Wd) (rec5 : Int32 → Int32 → Int32 → Option (Int32)) (x2 : Int32) (x3 : Int32) (x4 : Int32) : Option (Int32) := (if (w b0 5) ≤ x4 then some x3 else ald w b1 (lenX b1) x4 (fun v1 => lv (x3 ||| (((v1 >>> (x2 &&& 31)) &&& (1:Int32)) <<< (x4 &&& 31))) (fun v2 => rec5 x2 v2 (x4 + (1:Int32)))))
set_option maxRecDepth 20000 in
theorem bb_X6_whoHold_5 {G : Gv} {V : Vt} {b0 : Nat} {b1 : Nat} {w : Wd} {rec5 : Int32 → Int32 → Int32 → Option (Int32)} {res : Int32} (hb0 : isTr b0 = true) (hb1 : isAr b1 = true)  (C : CX cX6_whoHold RX6 G SX 5 1 (some FieldType.int) (some (.int res)) w V) (hrec5 : ∀ (x2 : Int32) (x3 : Int32) (x4 : Int32), rec5 x2 x3 x4 = some res → V w 5 [(0, .ref (G.2 b0)), (1, .ref (G.2 b1)), (2, .int x2), (3, .int x3), (4, .int x4)] []) {x2 : Int32} {x3 : Int32} {x4 : Int32} (h : fb_X6_whoHold_5 b0 b1 w rec5 x2 x3 x4 = some res) : V w 5 [(0, .ref (G.2 b0)), (1, .ref (G.2 b1)), (2, .int x2), (3, .int x3), (4, .int x4)] [] := by
  unfold fb_X6_whoHold_5 at h
  refine r_iload (pc := 5) C dX6_whoHold_5 4 rfl ?_
  refine r_aload_n (pc := 7) C dX6_whoHold_7 rfl 0 rfl ?_
  refine gi_X6_46 (pc := 8) C dX6_whoHold_8 (cTr_0 hb0) rfl ?_
  refine r_icmp_ge (pc := 11) C 34 dX6_whoHold_11 (by decide) h (fun h => ?_) (fun h => ?_)
  · refine r_iload_n (pc := 34) C dX6_whoHold_34 rfl 3 rfl ?_
    exact r_iretP (pc := 35) C dX6_whoHold_35 h
  · refine r_iload_n (pc := 14) C dX6_whoHold_14 rfl 3 rfl ?_
    refine r_aload_n (pc := 15) C dX6_whoHold_15 rfl 1 rfl ?_
    refine r_iload (pc := 16) C dX6_whoHold_16 4 rfl ?_
    refine r_ald (pc := 18) C dX6_whoHold_18 h (cAr_0 hb1) (fun v1 h => ?_)
    refine r_iload_n (pc := 19) C dX6_whoHold_19 rfl 2 rfl ?_
    refine r_ishr (pc := 20) C dX6_whoHold_20 ?_
    refine r_iconst (v := (1:Int32)) (pc := 21) C dX6_whoHold_21 (by decide) ?_
    refine r_iand (pc := 22) C dX6_whoHold_22 ?_
    refine r_iload (pc := 23) C dX6_whoHold_23 4 rfl ?_
    refine r_ishl (pc := 25) C dX6_whoHold_25 ?_
    refine r_ior (pc := 26) C dX6_whoHold_26 ?_
    refine r_lv h (fun v2 h => ?_)
    refine r_istore_n (L' := [(3, .int v2), (0, .ref (G.2 b0)), (1, .ref (G.2 b1)), (2, .int x2), (4, .int x4)]) (pc := 27) C dX6_whoHold_27 rfl (by decide) rfl ?_
    refine r_iinc (v := (x4 + (1:Int32))) (L' := [(4, .int (x4 + (1:Int32))), (3, .int v2), (0, .ref (G.2 b0)), (1, .ref (G.2 b1)), (2, .int x2)]) (pc := 28) C dX6_whoHold_28 4 rfl rfl (by decide) rfl ?_
    refine r_goto (pc := 31) C 5 dX6_whoHold_31 (by decide) ?_
    exact r_sub C [2, 3, 4, 1, 0] rfl (hrec5 _ _ _ h)
def f_X6_whoHold_5 (b0 : Nat) (b1 : Nat) (w : Wd) : Int32 → Int32 → Int32 → Option (Int32) := lp (fun _ _ _ => none) (fun rec => fb_X6_whoHold_5 b0 b1 w rec) FU
theorem b_X6_whoHold_5 {G : Gv} {V : Vt} {b0 : Nat} {b1 : Nat} {w : Wd} {res : Int32} (hb0 : isTr b0 = true) (hb1 : isAr b1 = true)  (C : CX cX6_whoHold RX6 G SX 5 1 (some FieldType.int) (some (.int res)) w V) : ∀ (x2 : Int32) (x3 : Int32) (x4 : Int32), (f_X6_whoHold_5 b0 b1 w) x2 x3 x4 = some res → V w 5 [(0, .ref (G.2 b0)), (1, .ref (G.2 b1)), (2, .int x2), (3, .int x3), (4, .int x4)] [] :=
  lp_ind (P := fun (g : Int32 → Int32 → Int32 → Option (Int32)) => ∀ (x2 : Int32) (x3 : Int32) (x4 : Int32), g x2 x3 x4 = some res → V w 5 [(0, .ref (G.2 b0)), (1, .ref (G.2 b1)), (2, .int x2), (3, .int x3), (4, .int x4)] []) (fun _ _ _ h => by cases h) (fun g hg _ _ _ h => bb_X6_whoHold_5 hb0 hb1 C hg h) FU
def f_X6_whoHold (b0 : Nat) (b1 : Nat) (w : Wd) (p2 : Int32) : Option (Int32) := f_X6_whoHold_5 b0 b1 w p2 (0:Int32) (0:Int32)
set_option maxRecDepth 20000 in
theorem b_X6_whoHold_E {G : Gv} {V : Vt} {b0 : Nat} {b1 : Nat} {w : Wd} {res : Int32} (hb0 : isTr b0 = true) (hb1 : isAr b1 = true)  (C : CX cX6_whoHold RX6 G SX 5 1 (some FieldType.int) (some (.int res)) w V) {p2 : Int32} (h : f_X6_whoHold b0 b1 w p2 = some res) : V w 0 [(0, .ref (G.2 b0)), (1, .ref (G.2 b1)), (2, .int p2)] [] := by
  unfold f_X6_whoHold at h
  refine r_iconst (v := (0:Int32)) (pc := 0) C dX6_whoHold_0 (by decide) ?_
  refine r_istore_n (L' := [(3, .int (0:Int32)), (0, .ref (G.2 b0)), (1, .ref (G.2 b1)), (2, .int p2)]) (pc := 1) C dX6_whoHold_1 rfl (by decide) rfl ?_
  refine r_iconst (v := (0:Int32)) (pc := 2) C dX6_whoHold_2 (by decide) ?_
  refine r_istore (L' := [(4, .int (0:Int32)), (3, .int (0:Int32)), (0, .ref (G.2 b0)), (1, .ref (G.2 b1)), (2, .int p2)]) (pc := 3) C dX6_whoHold_3 (by decide) rfl ?_
  exact r_sub C [2, 3, 4, 1, 0] rfl (b_X6_whoHold_5 hb0 hb1 C _ _ _ h)
theorem c_X6_whoHold {G : Gv} {b0 : Nat} {b1 : Nat} {p2 : Int32} {w : Wd} {res : Int32} (hb0 : isTr b0 = true) (hb1 : isAr b1 = true) (h : f_X6_whoHold b0 b1 w p2 = some res) (l : Launch) : MC l yX6_whoHold cX6_whoHold 5 (some FieldType.int) 1 G SX w [.ref (G.2 b0), .ref (G.2 b1), .int p2] (some (.int res)) w := mc_of (by decide +kernel) rfl (Nat.le_of_ble_eq_true rfl) rfl (fun V C => b_X6_whoHold_E hb0 hb1 C h) l
def f_X6_whoOwn_28 (b0 : Nat) (w : Wd) (rec4 : Int32 → Int32 → Int32 → Option (Int32)) (x1 : Int32) (x2 : Int32) (x3 : Int32) : Option (Int32) := rec4 x1 x2 (x3 + (1:Int32))
set_option maxRecDepth 20000 in
theorem b_X6_whoOwn_28 {G : Gv} {V : Vt} {b0 : Nat} {w : Wd} {rec4 : Int32 → Int32 → Int32 → Option (Int32)} {res : Int32} (hb0 : isTr b0 = true)  (C : CX cX6_whoOwn RX6 G SX 4 1 (some FieldType.int) (some (.int res)) w V) (hrec4 : ∀ (x1 : Int32) (x2 : Int32) (x3 : Int32), rec4 x1 x2 x3 = some res → V w 4 [(0, .ref (G.2 b0)), (1, .int x1), (2, .int x2), (3, .int x3)] []) {x1 : Int32} {x2 : Int32} {x3 : Int32} (h : f_X6_whoOwn_28 b0 w rec4 x1 x2 x3 = some res) : V w 28 [(0, .ref (G.2 b0)), (1, .int x1), (2, .int x2), (3, .int x3)] [] := by
  unfold f_X6_whoOwn_28 at h
  refine r_iinc (v := (x3 + (1:Int32))) (L' := [(3, .int (x3 + (1:Int32))), (0, .ref (G.2 b0)), (1, .int x1), (2, .int x2)]) (pc := 28) C dX6_whoOwn_28 3 rfl rfl (by decide) rfl ?_
  refine r_goto (pc := 31) C 4 dX6_whoOwn_31 (by decide) ?_
  exact r_sub C [1, 2, 3, 0] rfl (hrec4 _ _ _ h)
def fb_X6_whoOwn_4 (b0 : Nat) (w : Wd) (rec4 : Int32 → Int32 → Int32 → Option (Int32)) (x1 : Int32) (x2 : Int32) (x3 : Int32) : Option (Int32) := (if (w b0 5) ≤ x3 then some x2 else ald w (b0 + 7) 6 x3 (fun v1 => (if ¬ v1 = x1 then f_X6_whoOwn_28 b0 w rec4 x1 x2 x3 else lv (x2 ||| ((1:Int32) <<< (x3 &&& 31))) (fun v2 => f_X6_whoOwn_28 b0 w rec4 x1 v2 x3))))
set_option maxRecDepth 20000 in
theorem bb_X6_whoOwn_4 {G : Gv} {V : Vt} {b0 : Nat} {w : Wd} {rec4 : Int32 → Int32 → Int32 → Option (Int32)} {res : Int32} (hb0 : isTr b0 = true)  (C : CX cX6_whoOwn RX6 G SX 4 1 (some FieldType.int) (some (.int res)) w V) (hrec4 : ∀ (x1 : Int32) (x2 : Int32) (x3 : Int32), rec4 x1 x2 x3 = some res → V w 4 [(0, .ref (G.2 b0)), (1, .int x1), (2, .int x2), (3, .int x3)] []) {x1 : Int32} {x2 : Int32} {x3 : Int32} (h : fb_X6_whoOwn_4 b0 w rec4 x1 x2 x3 = some res) : V w 4 [(0, .ref (G.2 b0)), (1, .int x1), (2, .int x2), (3, .int x3)] [] := by
  unfold fb_X6_whoOwn_4 at h
  refine r_iload_n (pc := 4) C dX6_whoOwn_4 rfl 3 rfl ?_
  refine r_aload_n (pc := 5) C dX6_whoOwn_5 rfl 0 rfl ?_
  refine gi_X6_46 (pc := 6) C dX6_whoOwn_6 (cTr_0 hb0) rfl ?_
  refine r_icmp_ge (pc := 9) C 34 dX6_whoOwn_9 (by decide) h (fun h => ?_) (fun h => ?_)
  · refine r_iload_n (pc := 34) C dX6_whoOwn_34 rfl 2 rfl ?_
    exact r_iretP (pc := 35) C dX6_whoOwn_35 h
  · refine r_aload_n (pc := 12) C dX6_whoOwn_12 rfl 0 rfl ?_
    refine gr_X6_30 (pc := 13) (b0 + 7) C dX6_whoOwn_13 (cTr_0 hb0) rfl ?_
    refine r_iload_n (pc := 16) C dX6_whoOwn_16 rfl 3 rfl ?_
    refine r_ald (pc := 17) C dX6_whoOwn_17 h (cTr_7 hb0) (fun v1 h => ?_)
    refine r_iload_n (pc := 18) C dX6_whoOwn_18 rfl 1 rfl ?_
    refine r_icmp_ne (pc := 19) C 28 dX6_whoOwn_19 (by decide) h (fun h => ?_) (fun h => ?_)
    · exact r_sub C [0, 1, 2, 3] rfl (b_X6_whoOwn_28 hb0 C hrec4 h)
    · refine r_iload_n (pc := 22) C dX6_whoOwn_22 rfl 2 rfl ?_
      refine r_iconst (v := (1:Int32)) (pc := 23) C dX6_whoOwn_23 (by decide) ?_
      refine r_iload_n (pc := 24) C dX6_whoOwn_24 rfl 3 rfl ?_
      refine r_ishl (pc := 25) C dX6_whoOwn_25 ?_
      refine r_ior (pc := 26) C dX6_whoOwn_26 ?_
      refine r_lv h (fun v2 h => ?_)
      refine r_istore_n (L' := [(2, .int v2), (0, .ref (G.2 b0)), (1, .int x1), (3, .int x3)]) (pc := 27) C dX6_whoOwn_27 rfl (by decide) rfl ?_
      exact r_sub C [1, 2, 0, 3] rfl (b_X6_whoOwn_28 hb0 C hrec4 h)
def f_X6_whoOwn_4 (b0 : Nat) (w : Wd) : Int32 → Int32 → Int32 → Option (Int32) := lp (fun _ _ _ => none) (fun rec => fb_X6_whoOwn_4 b0 w rec) FU
theorem b_X6_whoOwn_4 {G : Gv} {V : Vt} {b0 : Nat} {w : Wd} {res : Int32} (hb0 : isTr b0 = true)  (C : CX cX6_whoOwn RX6 G SX 4 1 (some FieldType.int) (some (.int res)) w V) : ∀ (x1 : Int32) (x2 : Int32) (x3 : Int32), (f_X6_whoOwn_4 b0 w) x1 x2 x3 = some res → V w 4 [(0, .ref (G.2 b0)), (1, .int x1), (2, .int x2), (3, .int x3)] [] :=
  lp_ind (P := fun (g : Int32 → Int32 → Int32 → Option (Int32)) => ∀ (x1 : Int32) (x2 : Int32) (x3 : Int32), g x1 x2 x3 = some res → V w 4 [(0, .ref (G.2 b0)), (1, .int x1), (2, .int x2), (3, .int x3)] []) (fun _ _ _ h => by cases h) (fun g hg _ _ _ h => bb_X6_whoOwn_4 hb0 C hg h) FU
def f_X6_whoOwn (b0 : Nat) (w : Wd) (p1 : Int32) : Option (Int32) := f_X6_whoOwn_4 b0 w p1 (0:Int32) (0:Int32)
set_option maxRecDepth 20000 in
theorem b_X6_whoOwn_E {G : Gv} {V : Vt} {b0 : Nat} {w : Wd} {res : Int32} (hb0 : isTr b0 = true)  (C : CX cX6_whoOwn RX6 G SX 4 1 (some FieldType.int) (some (.int res)) w V) {p1 : Int32} (h : f_X6_whoOwn b0 w p1 = some res) : V w 0 [(0, .ref (G.2 b0)), (1, .int p1)] [] := by
  unfold f_X6_whoOwn at h
  refine r_iconst (v := (0:Int32)) (pc := 0) C dX6_whoOwn_0 (by decide) ?_
  refine r_istore_n (L' := [(2, .int (0:Int32)), (0, .ref (G.2 b0)), (1, .int p1)]) (pc := 1) C dX6_whoOwn_1 rfl (by decide) rfl ?_
  refine r_iconst (v := (0:Int32)) (pc := 2) C dX6_whoOwn_2 (by decide) ?_
  refine r_istore_n (L' := [(3, .int (0:Int32)), (2, .int (0:Int32)), (0, .ref (G.2 b0)), (1, .int p1)]) (pc := 3) C dX6_whoOwn_3 rfl (by decide) rfl ?_
  exact r_sub C [2, 3, 1, 0] rfl (b_X6_whoOwn_4 hb0 C _ _ _ h)
theorem c_X6_whoOwn {G : Gv} {b0 : Nat} {p1 : Int32} {w : Wd} {res : Int32} (hb0 : isTr b0 = true) (h : f_X6_whoOwn b0 w p1 = some res) (l : Launch) : MC l yX6_whoOwn cX6_whoOwn 4 (some FieldType.int) 1 G SX w [.ref (G.2 b0), .int p1] (some (.int res)) w := mc_of (by decide +kernel) rfl (Nat.le_of_ble_eq_true rfl) rfl (fun V C => b_X6_whoOwn_E hb0 C h) l
theorem cv_X6_62 {cc : ByteArray} {G : Gv} {n hc : Nat} {rt : Option FieldType} {rv : Option Value} {w0 : Wd} {V : Vt} {w : Wd} {pc : Nat} {L : List (Nat × Value)} {rest : List Value} {α : Type} {res : α} {b0 : Nat} {b1 : Nat} {p2 : Int32} {K : Int32 → Option α} (C : CX cc RX6 G SX n hc rt rv w0 V) (hd : decode cc pc = .ok (.invokevirtual 62, 3)) (hb0 : isTr b0 = true) (hb1 : isAr b1 = true) (h : bd (f_X6_whoHold b0 b1 w p2) K = some res) (hR : 1 + 1 ≤ hc) (hr : (rest.map fun v => v.category).sum ≤ 8) (kk : ∀ q, K q = some res → V w (pc + 3) L (.int q :: rest)) : V w pc L (.int p2 :: .ref (G.2 b1) :: .ref (G.2 b0) :: rest) := r_callV (As := [.ref (G.2 b1), .int p2]) (rest := rest) (rvf := fun q => (some (.int q))) (wf := fun q => w) C hd h ql_X6_62 qi_X6_whoHold qs_X6_whoHold qn_X6 qc_X6_whoHold ⟨rfl, by decide +kernel, by decide +kernel, (by decide +kernel : (parseMethodDescriptor yX6_whoHold.desc).map (fun d => d.parameters.length) = some 2)⟩ ⟨hR, by decide⟩ (cTr_0 hb0) rfl (fun q hq l => c_X6_whoHold hb0 hb1 hq l) rfl hr kk
theorem cv_X6_82 {cc : ByteArray} {G : Gv} {n hc : Nat} {rt : Option FieldType} {rv : Option Value} {w0 : Wd} {V : Vt} {w : Wd} {pc : Nat} {L : List (Nat × Value)} {rest : List Value} {α : Type} {res : α} {b0 : Nat} {p1 : Int32} {K : Int32 → Option α} (C : CX cc RX6 G SX n hc rt rv w0 V) (hd : decode cc pc = .ok (.invokevirtual 82, 3)) (hb0 : isTr b0 = true) (h : bd (f_X6_whoOwn b0 w p1) K = some res) (hR : 1 + 1 ≤ hc) (hr : (rest.map fun v => v.category).sum ≤ 8) (kk : ∀ q, K q = some res → V w (pc + 3) L (.int q :: rest)) : V w pc L (.int p1 :: .ref (G.2 b0) :: rest) := r_callV (As := [.int p1]) (rest := rest) (rvf := fun q => (some (.int q))) (wf := fun q => w) C hd h ql_X6_82 qi_X6_whoOwn qs_X6_whoOwn qn_X6 qc_X6_whoOwn ⟨rfl, by decide +kernel, by decide +kernel, (by decide +kernel : (parseMethodDescriptor yX6_whoOwn.desc).map (fun d => d.parameters.length) = some 1)⟩ ⟨hR, by decide⟩ (cTr_0 hb0) rfl (fun q hq l => c_X6_whoOwn hb0 hq l) rfl hr kk
def f_X6_whoStandIn (b0 : Nat) (w : Wd) (p1 : Int32) : Option (Int32) := (if ¬ (w b0 11) = (1:Int32) then bd (f_X6_whoHold b0 (b0 + 5) w p1) (fun q1 => bd (f_X6_whoHold b0 (b0 + 6) w p1) (fun q2 => bd (f_X6_whoOwn b0 w p1) (fun q3 => some ((q1 &&& (q2 ^^^ (-1:Int32))) &&& (q3 ^^^ (-1:Int32)))))) else bd (f_X6_whoOwn b0 w p1) (fun q4 => some q4))
set_option maxRecDepth 20000 in
theorem b_X6_whoStandIn_E {G : Gv} {V : Vt} {b0 : Nat} {w : Wd} {res : Int32} (hb0 : isTr b0 = true)  (C : CX cX6_whoStandIn RX6 G SX 2 2 (some FieldType.int) (some (.int res)) w V) {p1 : Int32} (h : f_X6_whoStandIn b0 w p1 = some res) : V w 0 [(0, .ref (G.2 b0)), (1, .int p1)] [] := by
  unfold f_X6_whoStandIn at h
  refine r_aload_n (pc := 0) C dX6_whoStandIn_0 rfl 0 rfl ?_
  refine gi_X6_52 (pc := 1) C dX6_whoStandIn_1 (cTr_0 hb0) rfl ?_
  refine r_iconst (v := (1:Int32)) (pc := 4) C dX6_whoStandIn_4 (by decide) ?_
  refine r_icmp_ne (pc := 5) C 14 dX6_whoStandIn_5 (by decide) h (fun h => ?_) (fun h => ?_)
  · refine r_aload_n (pc := 14) C dX6_whoStandIn_14 rfl 0 rfl ?_
    refine r_aload_n (pc := 15) C dX6_whoStandIn_15 rfl 0 rfl ?_
    refine gr_X6_24 (pc := 16) (b0 + 5) C dX6_whoStandIn_16 (cTr_0 hb0) rfl ?_
    refine r_iload_n (pc := 19) C dX6_whoStandIn_19 rfl 1 rfl ?_
    refine cv_X6_62 (pc := 20) C dX6_whoStandIn_20 hb0 (sTr_5 hb0) h (by decide) (Nat.le_of_ble_eq_true rfl) (fun q1 h => ?_)
    refine r_aload_n (pc := 23) C dX6_whoStandIn_23 rfl 0 rfl ?_
    refine r_aload_n (pc := 24) C dX6_whoStandIn_24 rfl 0 rfl ?_
    refine gr_X6_27 (pc := 25) (b0 + 6) C dX6_whoStandIn_25 (cTr_0 hb0) rfl ?_
    refine r_iload_n (pc := 28) C dX6_whoStandIn_28 rfl 1 rfl ?_
    refine cv_X6_62 (pc := 29) C dX6_whoStandIn_29 hb0 (sTr_6 hb0) h (by decide) (Nat.le_of_ble_eq_true rfl) (fun q2 h => ?_)
    refine r_iconst (v := (-1:Int32)) (pc := 32) C dX6_whoStandIn_32 (by decide) ?_
    refine r_ixor (pc := 33) C dX6_whoStandIn_33 ?_
    refine r_iand (pc := 34) C dX6_whoStandIn_34 ?_
    refine r_aload_n (pc := 35) C dX6_whoStandIn_35 rfl 0 rfl ?_
    refine r_iload_n (pc := 36) C dX6_whoStandIn_36 rfl 1 rfl ?_
    refine cv_X6_82 (pc := 37) C dX6_whoStandIn_37 hb0 h (by decide) (Nat.le_of_ble_eq_true rfl) (fun q3 h => ?_)
    refine r_iconst (v := (-1:Int32)) (pc := 40) C dX6_whoStandIn_40 (by decide) ?_
    refine r_ixor (pc := 41) C dX6_whoStandIn_41 ?_
    refine r_iand (pc := 42) C dX6_whoStandIn_42 ?_
    exact r_iretP (pc := 43) C dX6_whoStandIn_43 h
  · refine r_aload_n (pc := 8) C dX6_whoStandIn_8 rfl 0 rfl ?_
    refine r_iload_n (pc := 9) C dX6_whoStandIn_9 rfl 1 rfl ?_
    refine cv_X6_82 (pc := 10) C dX6_whoStandIn_10 hb0 h (by decide) (Nat.le_of_ble_eq_true rfl) (fun q4 h => ?_)
    exact r_iretP (pc := 13) C dX6_whoStandIn_13 h
theorem c_X6_whoStandIn {G : Gv} {b0 : Nat} {p1 : Int32} {w : Wd} {res : Int32} (hb0 : isTr b0 = true) (h : f_X6_whoStandIn b0 w p1 = some res) (l : Launch) : MC l yX6_whoStandIn cX6_whoStandIn 2 (some FieldType.int) 2 G SX w [.ref (G.2 b0), .int p1] (some (.int res)) w := mc_of (by decide +kernel) rfl (Nat.le_of_ble_eq_true rfl) rfl (fun V C => b_X6_whoStandIn_E hb0 C h) l
theorem cv_X6_70 {cc : ByteArray} {G : Gv} {n hc : Nat} {rt : Option FieldType} {rv : Option Value} {w0 : Wd} {V : Vt} {w : Wd} {pc : Nat} {L : List (Nat × Value)} {rest : List Value} {α : Type} {res : α} {b0 : Nat} {K : Int32 → Option α} (C : CX cc RX6 G SX n hc rt rv w0 V) (hd : decode cc pc = .ok (.invokevirtual 70, 3)) (hb0 : isTr b0 = true) (h : bd (f_X6_allPlayers b0 w) K = some res) (hR : 1 + 1 ≤ hc) (hr : (rest.map fun v => v.category).sum ≤ 8) (kk : ∀ q, K q = some res → V w (pc + 3) L (.int q :: rest)) : V w pc L (.ref (G.2 b0) :: rest) := r_callV (As := []) (rest := rest) (rvf := fun q => (some (.int q))) (wf := fun q => w) C hd h ql_X6_70 qi_X6_allPlayers qs_X6_allPlayers qn_X6 qc_X6_allPlayers ⟨rfl, by decide +kernel, by decide +kernel, (by decide +kernel : (parseMethodDescriptor yX6_allPlayers.desc).map (fun d => d.parameters.length) = some 0)⟩ ⟨hR, by decide⟩ (cTr_0 hb0) rfl (fun q hq l => c_X6_allPlayers hb0 hq l) rfl hr kk
theorem cv_X6_74 {cc : ByteArray} {G : Gv} {n hc : Nat} {rt : Option FieldType} {rv : Option Value} {w0 : Wd} {V : Vt} {w : Wd} {pc : Nat} {L : List (Nat × Value)} {rest : List Value} {α : Type} {res : α} {b0 : Nat} {p1 : Int32} {K : Int32 → Option α} (C : CX cc RX6 G SX n hc rt rv w0 V) (hd : decode cc pc = .ok (.invokevirtual 74, 3)) (hb0 : isTr b0 = true) (h : bd (f_X6_whoStandIn b0 w p1) K = some res) (hR : 2 + 1 ≤ hc) (hr : (rest.map fun v => v.category).sum ≤ 8) (kk : ∀ q, K q = some res → V w (pc + 3) L (.int q :: rest)) : V w pc L (.int p1 :: .ref (G.2 b0) :: rest) := r_callV (As := [.int p1]) (rest := rest) (rvf := fun q => (some (.int q))) (wf := fun q => w) C hd h ql_X6_74 qi_X6_whoStandIn qs_X6_whoStandIn qn_X6 qc_X6_whoStandIn ⟨rfl, by decide +kernel, by decide +kernel, (by decide +kernel : (parseMethodDescriptor yX6_whoStandIn.desc).map (fun d => d.parameters.length) = some 1)⟩ ⟨hR, by decide⟩ (cTr_0 hb0) rfl (fun q hq l => c_X6_whoStandIn hb0 hq l) rfl hr kk
theorem cv_X6_78 {cc : ByteArray} {G : Gv} {n hc : Nat} {rt : Option FieldType} {rv : Option Value} {w0 : Wd} {V : Vt} {w : Wd} {pc : Nat} {L : List (Nat × Value)} {rest : List Value} {α : Type} {res : α} {b0 : Nat} {p1 : Int32} {K : Int32 → Option α} (C : CX cc RX6 G SX n hc rt rv w0 V) (hd : decode cc pc = .ok (.invokevirtual 78, 3)) (hb0 : isTr b0 = true) (h : bd (f_X6_isEmpty b0 w p1) K = some res) (hR : 1 + 1 ≤ hc) (hr : (rest.map fun v => v.category).sum ≤ 8) (kk : ∀ q, K q = some res → V w (pc + 3) L (.int q :: rest)) : V w pc L (.int p1 :: .ref (G.2 b0) :: rest) := r_callV (As := [.int p1]) (rest := rest) (rvf := fun q => (some (.int q))) (wf := fun q => w) C hd h ql_X6_78 qi_X6_isEmpty qs_X6_isEmpty qn_X6 qc_X6_isEmpty ⟨rfl, by decide +kernel, by decide +kernel, (by decide +kernel : (parseMethodDescriptor yX6_isEmpty.desc).map (fun d => d.parameters.length) = some 1)⟩ ⟨hR, by decide⟩ (cTr_0 hb0) rfl (fun q hq l => c_X6_isEmpty hb0 hq l) rfl hr kk
def f_X6_whoMay (b0 : Nat) (w : Wd) (p1 : Int32) : Option (Int32) := bd (f_X6_allPlayers b0 w) (fun q1 => lv (q1 &&& ((w b0 10) ^^^ (-1:Int32))) (fun v2 => ald w (b0 + 1) 5 p1 (fun v3 => (if v3 = (2:Int32) then bd (f_X6_whoHold b0 (b0 + 6) w p1) (fun q4 => some (v2 &&& (q4 ^^^ (-1:Int32)))) else (if v3 = (3:Int32) then some (0:Int32) else (if v3 = (4:Int32) then ald w (b0 + 3) 5 p1 (fun v5 => (if (50:Int32) < v5 then bd (f_X6_whoHold b0 (b0 + 5) w p1) (fun q6 => some (v2 &&& q6)) else bd (f_X6_whoStandIn b0 w p1) (fun q7 => some (v2 &&& q7)))) else (if v3 = (5:Int32) then some v2 else (if v3 = (6:Int32) then bd (f_X6_isEmpty b0 w p1) (fun q8 => (if q8 = 0 then bd (f_X6_whoOwn b0 w p1) (fun q9 => some (v2 &&& q9)) else some (0:Int32))) else bd (f_X6_whoStandIn b0 w p1) (fun q10 => some (v2 &&& q10))))))))))
set_option maxRecDepth 20000 in
theorem b_X6_whoMay_E {G : Gv} {V : Vt} {b0 : Nat} {w : Wd} {res : Int32} (hb0 : isTr b0 = true)  (C : CX cX6_whoMay RX6 G SX 3 3 (some FieldType.int) (some (.int res)) w V) {p1 : Int32} (h : f_X6_whoMay b0 w p1 = some res) : V w 0 [(0, .ref (G.2 b0)), (1, .int p1)] [] := by
  unfold f_X6_whoMay at h
  refine r_aload_n (pc := 0) C dX6_whoMay_0 rfl 0 rfl ?_
  refine cv_X6_70 (pc := 1) C dX6_whoMay_1 hb0 h (by decide) (Nat.le_of_ble_eq_true rfl) (fun q1 h => ?_)
  refine r_aload_n (pc := 4) C dX6_whoMay_4 rfl 0 rfl ?_
  refine gi_X6_49 (pc := 5) C dX6_whoMay_5 (cTr_0 hb0) rfl ?_
  refine r_iconst (v := (-1:Int32)) (pc := 8) C dX6_whoMay_8 (by decide) ?_
  refine r_ixor (pc := 9) C dX6_whoMay_9 ?_
  refine r_iand (pc := 10) C dX6_whoMay_10 ?_
  refine r_lv h (fun v2 h => ?_)
  refine r_istore_n (L' := [(2, .int v2), (0, .ref (G.2 b0)), (1, .int p1)]) (pc := 11) C dX6_whoMay_11 rfl (by decide) rfl ?_
  refine r_aload_n (pc := 12) C dX6_whoMay_12 rfl 1 rfl ?_
  refine gr_X6_9 (pc := 13) (b0 + 1) C dX6_whoMay_13 (cTr_0 hb0) rfl ?_
  refine r_iload_n (pc := 16) C dX6_whoMay_16 rfl 2 rfl ?_
  refine r_ald (pc := 17) C dX6_whoMay_17 h (cTr_1 hb0) (fun v3 h => ?_)
  refine r_tsw (pc := 18) C (2:Int32) 52 dX6_whoMay_18 (by decide) (by decide) rfl (by decide) h (fun h => ?_) (fun n0 h => ?_)
  · refine r_iload_n (pc := 52) C dX6_whoMay_52 rfl 0 rfl ?_
    refine r_aload_n (pc := 53) C dX6_whoMay_53 rfl 1 rfl ?_
    refine r_aload_n (pc := 54) C dX6_whoMay_54 rfl 1 rfl ?_
    refine gr_X6_27 (pc := 55) (b0 + 6) C dX6_whoMay_55 (cTr_0 hb0) rfl ?_
    refine r_iload_n (pc := 58) C dX6_whoMay_58 rfl 2 rfl ?_
    refine cv_X6_62 (pc := 59) C dX6_whoMay_59 hb0 (sTr_6 hb0) h (by decide) (Nat.le_of_ble_eq_true rfl) (fun q4 h => ?_)
    refine r_iconst (v := (-1:Int32)) (pc := 62) C dX6_whoMay_62 (by decide) ?_
    refine r_ixor (pc := 63) C dX6_whoMay_63 ?_
    refine r_iand (pc := 64) C dX6_whoMay_64 ?_
    exact r_iretP (pc := 65) C dX6_whoMay_65 h
  refine r_tsw (pc := 18) C (3:Int32) 66 dX6_whoMay_18 (by decide) (by decide) rfl (by decide) h (fun h => ?_) (fun n1 h => ?_)
  · refine r_iconst (v := (0:Int32)) (pc := 66) C dX6_whoMay_66 (by decide) ?_
    exact r_iretP (pc := 67) C dX6_whoMay_67 h
  refine r_tsw (pc := 18) C (4:Int32) 68 dX6_whoMay_18 (by decide) (by decide) rfl (by decide) h (fun h => ?_) (fun n2 h => ?_)
  · refine r_iload_n (pc := 68) C dX6_whoMay_68 rfl 0 rfl ?_
    refine r_aload_n (pc := 69) C dX6_whoMay_69 rfl 1 rfl ?_
    refine gr_X6_18 (pc := 70) (b0 + 3) C dX6_whoMay_70 (cTr_0 hb0) rfl ?_
    refine r_iload_n (pc := 73) C dX6_whoMay_73 rfl 2 rfl ?_
    refine r_ald (pc := 74) C dX6_whoMay_74 h (cTr_3 hb0) (fun v5 h => ?_)
    refine r_bipush (v := (50:Int32)) (pc := 75) C dX6_whoMay_75 (by decide) ?_
    refine r_icmp_gt (pc := 77) C 88 dX6_whoMay_77 (by decide) h (fun h => ?_) (fun h => ?_)
    · refine r_aload_n (pc := 88) C dX6_whoMay_88 rfl 1 rfl ?_
      refine r_aload_n (pc := 89) C dX6_whoMay_89 rfl 1 rfl ?_
      refine gr_X6_24 (pc := 90) (b0 + 5) C dX6_whoMay_90 (cTr_0 hb0) rfl ?_
      refine r_iload_n (pc := 93) C dX6_whoMay_93 rfl 2 rfl ?_
      refine cv_X6_62 (pc := 94) C dX6_whoMay_94 hb0 (sTr_5 hb0) h (by decide) (Nat.le_of_ble_eq_true rfl) (fun q6 h => ?_)
      refine r_iand (pc := 97) C dX6_whoMay_97 ?_
      exact r_iretP (pc := 98) C dX6_whoMay_98 h
    · refine r_aload_n (pc := 80) C dX6_whoMay_80 rfl 1 rfl ?_
      refine r_iload_n (pc := 81) C dX6_whoMay_81 rfl 2 rfl ?_
      refine cv_X6_74 (pc := 82) C dX6_whoMay_82 hb0 h (by decide) (Nat.le_of_ble_eq_true rfl) (fun q7 h => ?_)
      refine r_goto (pc := 85) C 97 dX6_whoMay_85 (by decide) ?_
      refine r_iand (pc := 97) C dX6_whoMay_97 ?_
      exact r_iretP (pc := 98) C dX6_whoMay_98 h
  refine r_tsw (pc := 18) C (5:Int32) 99 dX6_whoMay_18 (by decide) (by decide) rfl (by decide) h (fun h => ?_) (fun n3 h => ?_)
  · refine r_iload_n (pc := 99) C dX6_whoMay_99 rfl 0 rfl ?_
    exact r_iretP (pc := 100) C dX6_whoMay_100 h
  refine r_tsw (pc := 18) C (6:Int32) 101 dX6_whoMay_18 (by decide) (by decide) rfl (by decide) h (fun h => ?_) (fun n4 h => ?_)
  · refine r_aload_n (pc := 101) C dX6_whoMay_101 rfl 1 rfl ?_
    refine r_iload_n (pc := 102) C dX6_whoMay_102 rfl 2 rfl ?_
    refine cv_X6_78 (pc := 103) C dX6_whoMay_103 hb0 h (by decide) (Nat.le_of_ble_eq_true rfl) (fun q8 h => ?_)
    refine r_if_eq (pc := 106) C 113 dX6_whoMay_106 (by decide) h (fun h => ?_) (fun h => ?_)
    · refine r_iload_n (pc := 113) C dX6_whoMay_113 rfl 0 rfl ?_
      refine r_aload_n (pc := 114) C dX6_whoMay_114 rfl 1 rfl ?_
      refine r_iload_n (pc := 115) C dX6_whoMay_115 rfl 2 rfl ?_
      refine cv_X6_82 (pc := 116) C dX6_whoMay_116 hb0 h (by decide) (Nat.le_of_ble_eq_true rfl) (fun q9 h => ?_)
      refine r_iand (pc := 119) C dX6_whoMay_119 ?_
      exact r_iretP (pc := 120) C dX6_whoMay_120 h
    · refine r_iconst (v := (0:Int32)) (pc := 109) C dX6_whoMay_109 (by decide) ?_
      refine r_goto (pc := 110) C 120 dX6_whoMay_110 (by decide) ?_
      exact r_iretP (pc := 120) C dX6_whoMay_120 h
  refine r_tswD (pc := 18) C 121 dX6_whoMay_18 (by have z0 := toInt_ne n0; have z1 := toInt_ne n1; have z2 := toInt_ne n2; have z3 := toInt_ne n3; have z4 := toInt_ne n4; simp only [Int32.reduceToInt, ne_eq] at *; omega) (by decide) ?_
  refine r_iload_n (pc := 121) C dX6_whoMay_121 rfl 0 rfl ?_
  refine r_aload_n (pc := 122) C dX6_whoMay_122 rfl 1 rfl ?_
  refine r_iload_n (pc := 123) C dX6_whoMay_123 rfl 2 rfl ?_
  refine cv_X6_74 (pc := 124) C dX6_whoMay_124 hb0 h (by decide) (Nat.le_of_ble_eq_true rfl) (fun q10 h => ?_)
  refine r_iand (pc := 127) C dX6_whoMay_127 ?_
  exact r_iretP (pc := 128) C dX6_whoMay_128 h
theorem c_X6_whoMay {G : Gv} {b0 : Nat} {p1 : Int32} {w : Wd} {res : Int32} (hb0 : isTr b0 = true) (h : f_X6_whoMay b0 w p1 = some res) (l : Launch) : MC l yX6_whoMay cX6_whoMay 3 (some FieldType.int) 3 G SX w [.ref (G.2 b0), .int p1] (some (.int res)) w := mc_of (by decide +kernel) rfl (Nat.le_of_ble_eq_true rfl) rfl (fun V C => b_X6_whoMay_E hb0 C h) l
def f_X8_isUnder_31 (w : Wd) (x1 : Int32) (x2 : Int32) : Option (Int32) := (if ¬ x2 = x1 then some (0:Int32) else some (1:Int32))
set_option maxRecDepth 20000 in
theorem b_X8_isUnder_31 {G : Gv} {V : Vt} {w : Wd} {res : Int32}  (C : CX cX8_isUnder RX8 G SX 4 1 (some FieldType.boolean) (some (.int res)) w V) {x1 : Int32} {x2 : Int32} (h : f_X8_isUnder_31 w x1 x2 = some res) : V w 31 [(1, .int x1), (2, .int x2)] [] := by
  unfold f_X8_isUnder_31 at h
  refine r_iload_n (pc := 31) C dX8_isUnder_31 rfl 1 rfl ?_
  refine r_iload_n (pc := 32) C dX8_isUnder_32 rfl 0 rfl ?_
  refine r_icmp_ne (pc := 33) C 40 dX8_isUnder_33 (by decide) h (fun h => ?_) (fun h => ?_)
  · refine r_iconst (v := (0:Int32)) (pc := 40) C dX8_isUnder_40 (by decide) ?_
    exact r_zretP (pc := 41) C rfl dX8_isUnder_41 h
  · refine r_iconst (v := (1:Int32)) (pc := 36) C dX8_isUnder_36 (by decide) ?_
    refine r_goto (pc := 37) C 41 dX8_isUnder_37 (by decide) ?_
    exact r_zretP (pc := 41) C rfl dX8_isUnder_41 h
def fb_X8_isUnder_4 (w : Wd) (rec4 : Int32 → Int32 → Int32 → Option (Int32)) (x1 : Int32) (x2 : Int32) (x3 : Int32) : Option (Int32) := (if (7:Int32) ≤ x3 then f_X8_isUnder_31 w x1 x2 else (if x2 < 0 then f_X8_isUnder_31 w x1 x2 else (if x2 = x1 then f_X8_isUnder_31 w x1 x2 else tld tblA 7 x2 (fun v1 => rec4 x1 v1 (x3 + (1:Int32))))))
set_option maxRecDepth 20000 in
theorem bb_X8_isUnder_4 {G : Gv} {V : Vt} {w : Wd} {rec4 : Int32 → Int32 → Int32 → Option (Int32)} {res : Int32}  (C : CX cX8_isUnder RX8 G SX 4 1 (some FieldType.boolean) (some (.int res)) w V) (hrec4 : ∀ (x1 : Int32) (x2 : Int32) (x3 : Int32), rec4 x1 x2 x3 = some res → V w 4 [(1, .int x1), (2, .int x2), (3, .int x3)] []) {x1 : Int32} {x2 : Int32} {x3 : Int32} (h : fb_X8_isUnder_4 w rec4 x1 x2 x3 = some res) : V w 4 [(1, .int x1), (2, .int x2), (3, .int x3)] [] := by
  unfold fb_X8_isUnder_4 at h
  refine r_iload_n (pc := 4) C dX8_isUnder_4 rfl 2 rfl ?_
  refine r_bipush (v := (7:Int32)) (pc := 5) C dX8_isUnder_5 (by decide) ?_
  refine r_icmp_ge (pc := 7) C 31 dX8_isUnder_7 (by decide) h (fun h => ?_) (fun h => ?_)
  · exact r_sub C [0, 1] rfl (b_X8_isUnder_31 C h)
  · refine r_iload_n (pc := 10) C dX8_isUnder_10 rfl 1 rfl ?_
    refine r_if_lt (pc := 11) C 31 dX8_isUnder_11 (by decide) h (fun h => ?_) (fun h => ?_)
    · exact r_sub C [0, 1] rfl (b_X8_isUnder_31 C h)
    · refine r_iload_n (pc := 14) C dX8_isUnder_14 rfl 1 rfl ?_
      refine r_iload_n (pc := 15) C dX8_isUnder_15 rfl 0 rfl ?_
      refine r_icmp_eq (pc := 16) C 31 dX8_isUnder_16 (by decide) h (fun h => ?_) (fun h => ?_)
      · exact r_sub C [0, 1] rfl (b_X8_isUnder_31 C h)
      · refine r_getsA (pc := 19) C dX8_isUnder_19 qf_X8_321 ?_
        refine r_iload_n (pc := 22) C dX8_isUnder_22 rfl 1 rfl ?_
        refine r_tldA (pc := 23) C dX8_isUnder_23 h (fun v1 h => ?_)
        refine r_istore_n (L' := [(2, .int v1), (1, .int x1), (3, .int x3)]) (pc := 24) C dX8_isUnder_24 rfl (by decide) rfl ?_
        refine r_iinc (v := (x3 + (1:Int32))) (L' := [(3, .int (x3 + (1:Int32))), (2, .int v1), (1, .int x1)]) (pc := 25) C dX8_isUnder_25 2 rfl rfl (by decide) rfl ?_
        refine r_goto (pc := 28) C 4 dX8_isUnder_28 (by decide) ?_
        exact r_sub C [2, 1, 0] rfl (hrec4 _ _ _ h)
def f_X8_isUnder_4 (w : Wd) : Int32 → Int32 → Int32 → Option (Int32) := lp (fun _ _ _ => none) (fun rec => fb_X8_isUnder_4 w rec) FU
theorem b_X8_isUnder_4 {G : Gv} {V : Vt} {w : Wd} {res : Int32}  (C : CX cX8_isUnder RX8 G SX 4 1 (some FieldType.boolean) (some (.int res)) w V) : ∀ (x1 : Int32) (x2 : Int32) (x3 : Int32), (f_X8_isUnder_4 w) x1 x2 x3 = some res → V w 4 [(1, .int x1), (2, .int x2), (3, .int x3)] [] :=
  lp_ind (P := fun (g : Int32 → Int32 → Int32 → Option (Int32)) => ∀ (x1 : Int32) (x2 : Int32) (x3 : Int32), g x1 x2 x3 = some res → V w 4 [(1, .int x1), (2, .int x2), (3, .int x3)] []) (fun _ _ _ h => by cases h) (fun g hg _ _ _ h => bb_X8_isUnder_4 C hg h) FU
def f_X8_isUnder (w : Wd) (p0 : Int32) (p1 : Int32) : Option (Int32) := f_X8_isUnder_4 w p1 p0 (0:Int32)
set_option maxRecDepth 20000 in
theorem b_X8_isUnder_E {G : Gv} {V : Vt} {w : Wd} {res : Int32}  (C : CX cX8_isUnder RX8 G SX 4 1 (some FieldType.boolean) (some (.int res)) w V) {p0 : Int32} {p1 : Int32} (h : f_X8_isUnder w p0 p1 = some res) : V w 0 [(0, .int p0), (1, .int p1)] [] := by
  unfold f_X8_isUnder at h
  refine r_iload_n (pc := 0) C dX8_isUnder_0 rfl 0 rfl ?_
  refine r_istore_n (L' := [(2, .int p0), (0, .int p0), (1, .int p1)]) (pc := 1) C dX8_isUnder_1 rfl (by decide) rfl ?_
  refine r_iconst (v := (0:Int32)) (pc := 2) C dX8_isUnder_2 (by decide) ?_
  refine r_istore_n (L' := [(3, .int (0:Int32)), (2, .int p0), (0, .int p0), (1, .int p1)]) (pc := 3) C dX8_isUnder_3 rfl (by decide) rfl ?_
  exact r_sub C [3, 1, 0] rfl (b_X8_isUnder_4 C _ _ _ h)
theorem c_X8_isUnder {G : Gv} {p0 : Int32} {p1 : Int32} {w : Wd} {res : Int32} (h : f_X8_isUnder w p0 p1 = some res) (l : Launch) : MC l yX8_isUnder cX8_isUnder 4 (some FieldType.boolean) 1 G SX w [.int p0, .int p1] (some (.int res)) w := mc_of (by decide +kernel) rfl (Nat.le_of_ble_eq_true rfl) rfl (fun V C => b_X8_isUnder_E C h) l
theorem cv_X6_66 {cc : ByteArray} {G : Gv} {n hc : Nat} {rt : Option FieldType} {rv : Option Value} {w0 : Wd} {V : Vt} {w : Wd} {pc : Nat} {L : List (Nat × Value)} {rest : List Value} {α : Type} {res : α} {p0 : Int32} {p1 : Int32} {K : Int32 → Option α} (C : CX cc RX6 G SX n hc rt rv w0 V) (hd : decode cc pc = .ok (.invokestatic 66, 3)) (h : bd (f_X8_isUnder w p0 p1) K = some res) (hR : 1 + 1 ≤ hc) (hr : (rest.map fun v => v.category).sum ≤ 8) (kk : ∀ q, K q = some res → V w (pc + 3) L (.int q :: rest)) : V w pc L (.int p1 :: .int p0 :: rest) := r_callSN (As := [.int p0, .int p1]) (rest := rest) (rvf := fun q => (some (.int q))) (wf := fun q => w) C hd h (fun _ _ z => z.1) qt_X8_isUnder qn_X8 qc_X8_isUnder ⟨by decide +kernel, by decide +kernel, (by decide +kernel : (parseMethodDescriptor yX8_isUnder.desc).map (fun d => d.parameters.length) = some 2)⟩ ⟨hR, by decide⟩ (fun q hq l => c_X8_isUnder hq l) rfl hr kk
def f_X6_isShared (b0 : Nat) (w : Wd) (p1 : Int32) : Option (Int32) := ald w (b0 + 1) 5 p1 (fun v1 => bd (f_X8_isUnder w v1 (1:Int32)) (fun q2 => zk q2 (some q2)))
set_option maxRecDepth 20000 in
theorem b_X6_isShared_E {G : Gv} {V : Vt} {b0 : Nat} {w : Wd} {res : Int32} (hb0 : isTr b0 = true)  (C : CX cX6_isShared RX6 G SX 2 2 (some FieldType.boolean) (some (.int res)) w V) {p1 : Int32} (h : f_X6_isShared b0 w p1 = some res) : V w 0 [(0, .ref (G.2 b0)), (1, .int p1)] [] := by
  unfold f_X6_isShared at h
  refine r_aload_n (pc := 0) C dX6_isShared_0 rfl 0 rfl ?_
  refine gr_X6_9 (pc := 1) (b0 + 1) C dX6_isShared_1 (cTr_0 hb0) rfl ?_
  refine r_iload_n (pc := 4) C dX6_isShared_4 rfl 1 rfl ?_
  refine r_ald (pc := 5) C dX6_isShared_5 h (cTr_1 hb0) (fun v1 h => ?_)
  refine r_iconst (v := (1:Int32)) (pc := 6) C dX6_isShared_6 (by decide) ?_
  refine cv_X6_66 (pc := 7) C dX6_isShared_7  h (by decide) (Nat.le_of_ble_eq_true rfl) (fun q2 h => ?_)
  refine r_zk h (fun hn h => ?_)
  exact r_zretP (pc := 10) C hn dX6_isShared_10 h
theorem c_X6_isShared {G : Gv} {b0 : Nat} {p1 : Int32} {w : Wd} {res : Int32} (hb0 : isTr b0 = true) (h : f_X6_isShared b0 w p1 = some res) (l : Launch) : MC l yX6_isShared cX6_isShared 2 (some FieldType.boolean) 2 G SX w [.ref (G.2 b0), .int p1] (some (.int res)) w := mc_of (by decide +kernel) rfl (Nat.le_of_ble_eq_true rfl) rfl (fun V C => b_X6_isShared_E hb0 C h) l
theorem cv_X1_35 {cc : ByteArray} {G : Gv} {n hc : Nat} {rt : Option FieldType} {rv : Option Value} {w0 : Wd} {V : Vt} {w : Wd} {pc : Nat} {L : List (Nat × Value)} {rest : List Value} {α : Type} {res : α} {b0 : Nat} {p1 : Int32} {K : Int32 → Option α} (C : CX cc RX1 G SX n hc rt rv w0 V) (hd : decode cc pc = .ok (.invokevirtual 35, 3)) (hb0 : isTr b0 = true) (h : bd (f_X6_isEmpty b0 w p1) K = some res) (hR : 1 + 1 ≤ hc) (hr : (rest.map fun v => v.category).sum ≤ 8) (kk : ∀ q, K q = some res → V w (pc + 3) L (.int q :: rest)) : V w pc L (.int p1 :: .ref (G.2 b0) :: rest) := r_callV (As := [.int p1]) (rest := rest) (rvf := fun q => (some (.int q))) (wf := fun q => w) C hd h ql_X1_35 qi_X6_isEmpty qs_X6_isEmpty qn_X6 qc_X6_isEmpty ⟨rfl, by decide +kernel, by decide +kernel, (by decide +kernel : (parseMethodDescriptor yX6_isEmpty.desc).map (fun d => d.parameters.length) = some 1)⟩ ⟨hR, by decide⟩ (cTr_0 hb0) rfl (fun q hq l => c_X6_isEmpty hb0 hq l) rfl hr kk
theorem cv_X1_39 {cc : ByteArray} {G : Gv} {n hc : Nat} {rt : Option FieldType} {rv : Option Value} {w0 : Wd} {V : Vt} {w : Wd} {pc : Nat} {L : List (Nat × Value)} {rest : List Value} {α : Type} {res : α} {b0 : Nat} {p1 : Int32} {K : Int32 → Option α} (C : CX cc RX1 G SX n hc rt rv w0 V) (hd : decode cc pc = .ok (.invokevirtual 39, 3)) (hb0 : isTr b0 = true) (h : bd (f_X6_whoMay b0 w p1) K = some res) (hR : 3 + 1 ≤ hc) (hr : (rest.map fun v => v.category).sum ≤ 8) (kk : ∀ q, K q = some res → V w (pc + 3) L (.int q :: rest)) : V w pc L (.int p1 :: .ref (G.2 b0) :: rest) := r_callV (As := [.int p1]) (rest := rest) (rvf := fun q => (some (.int q))) (wf := fun q => w) C hd h ql_X1_39 qi_X6_whoMay qs_X6_whoMay qn_X6 qc_X6_whoMay ⟨rfl, by decide +kernel, by decide +kernel, (by decide +kernel : (parseMethodDescriptor yX6_whoMay.desc).map (fun d => d.parameters.length) = some 1)⟩ ⟨hR, by decide⟩ (cTr_0 hb0) rfl (fun q hq l => c_X6_whoMay hb0 hq l) rfl hr kk
theorem cv_X1_43 {cc : ByteArray} {G : Gv} {n hc : Nat} {rt : Option FieldType} {rv : Option Value} {w0 : Wd} {V : Vt} {w : Wd} {pc : Nat} {L : List (Nat × Value)} {rest : List Value} {α : Type} {res : α} {b0 : Nat} {p1 : Int32} {K : Int32 → Option α} (C : CX cc RX1 G SX n hc rt rv w0 V) (hd : decode cc pc = .ok (.invokevirtual 43, 3)) (hb0 : isTr b0 = true) (h : bd (f_X6_isShared b0 w p1) K = some res) (hR : 2 + 1 ≤ hc) (hr : (rest.map fun v => v.category).sum ≤ 8) (kk : ∀ q, K q = some res → V w (pc + 3) L (.int q :: rest)) : V w pc L (.int p1 :: .ref (G.2 b0) :: rest) := r_callV (As := [.int p1]) (rest := rest) (rvf := fun q => (some (.int q))) (wf := fun q => w) C hd h ql_X1_43 qi_X6_isShared qs_X6_isShared qn_X6 qc_X6_isShared ⟨rfl, by decide +kernel, by decide +kernel, (by decide +kernel : (parseMethodDescriptor yX6_isShared.desc).map (fun d => d.parameters.length) = some 1)⟩ ⟨hR, by decide⟩ (cTr_0 hb0) rfl (fun q hq l => c_X6_isShared hb0 hq l) rfl hr kk
def f_X1_begin_81 (b1 : Nat) (w : Wd) : Option (Wd) := wl (updW w 58 6 (0:Int32)) (fun w1 => wl (updW w1 58 7 (1:Int32)) (fun w2 => ald w2 60 5 (0:Int32) (fun v3 => ast w2 61 5 (0:Int32) v3 (fun w4 => ast w4 63 6 (0:Int32) (0:Int32) (fun w5 => some w5)))))
set_option maxRecDepth 20000 in
theorem b_X1_begin_81 {G : Gv} {V : Vt} {b1 : Nat} {res : Wd} (hb1 : isTr b1 = true)  (C : CX cX1_begin RX1 G SX 5 4 none none res V) {w : Wd} (h : f_X1_begin_81 b1 w = some res) : V w 81 [(0, .ref (G.2 58))] [] := by
  unfold f_X1_begin_81 at h
  refine r_aload_n (pc := 81) C dX1_begin_81 rfl 0 rfl ?_
  refine r_iconst (v := (0:Int32)) (pc := 82) C dX1_begin_82 (by decide) ?_
  refine pi_X1_46 (pc := 83) C dX1_begin_83 kx_58 rfl h (fun w1 h => ?_)
  refine r_aload_n (pc := 86) C dX1_begin_86 rfl 0 rfl ?_
  refine r_iconst (v := (1:Int32)) (pc := 87) C dX1_begin_87 (by decide) ?_
  refine pi_X1_49 (pc := 88) C dX1_begin_88 kx_58 rfl rfl rfl h (fun w2 h => ?_)
  refine r_aload_n (pc := 91) C dX1_begin_91 rfl 0 rfl ?_
  refine gr_X1_18 (pc := 92) 61 C dX1_begin_92 kx_58 rfl ?_
  refine r_iconst (v := (0:Int32)) (pc := 95) C dX1_begin_95 (by decide) ?_
  refine r_aload_n (pc := 96) C dX1_begin_96 rfl 0 rfl ?_
  refine gr_X1_15 (pc := 97) 60 C dX1_begin_97 kx_58 rfl ?_
  refine r_iconst (v := (0:Int32)) (pc := 100) C dX1_begin_100 (by decide) ?_
  refine r_ald (pc := 101) C dX1_begin_101 h kx_60 (fun v3 h => ?_)
  refine r_ast (pc := 102) C dX1_begin_102 h kx_61 (fun w4 h => ?_)
  refine r_aload_n (pc := 103) C dX1_begin_103 rfl 0 rfl ?_
  refine gr_X1_25 (pc := 104) 63 C dX1_begin_104 kx_58 rfl ?_
  refine r_iconst (v := (0:Int32)) (pc := 107) C dX1_begin_107 (by decide) ?_
  refine r_iconst (v := (0:Int32)) (pc := 108) C dX1_begin_108 (by decide) ?_
  refine r_ast (pc := 109) C dX1_begin_109 h kx_63 (fun w5 h => ?_)
  exact r_vretE (pc := 110) C dX1_begin_110 h
def f_X1_begin_74 (b1 : Nat) (rec10 : Int32 → Int32 → Wd → Option (Wd)) (x2 : Int32) (x3 : Int32) (t0 : Int32) (t1 : Int32) (w : Wd) : Option (Wd) := zst w 62 5 t1 t0 (fun w1 => rec10 x2 (x3 + (1:Int32)) w1)
set_option maxRecDepth 20000 in
theorem b_X1_begin_74 {G : Gv} {V : Vt} {b1 : Nat} {rec10 : Int32 → Int32 → Wd → Option (Wd)} {res : Wd} (hb1 : isTr b1 = true)  (C : CX cX1_begin RX1 G SX 5 4 none none res V) (hrec10 : ∀ (x2 : Int32) (x3 : Int32) (w : Wd), rec10 x2 x3 w = some res → V w 10 [(0, .ref (G.2 58)), (1, .ref (G.2 b1)), (2, .int x2), (3, .int x3)] []) {x2 : Int32} {x3 : Int32} {t0 : Int32} {t1 : Int32} {w : Wd} (h : f_X1_begin_74 b1 rec10 x2 x3 t0 t1 w = some res) : V w 74 [(0, .ref (G.2 58)), (1, .ref (G.2 b1)), (2, .int x2), (3, .int x3)] [.int t0, .int t1, .ref (G.2 62)] := by
  unfold f_X1_begin_74 at h
  refine r_zst (pc := 74) C dX1_begin_74 h kx_62 (fun w1 h => ?_)
  refine r_iinc (v := (x3 + (1:Int32))) (L' := [(3, .int (x3 + (1:Int32))), (0, .ref (G.2 58)), (1, .ref (G.2 b1)), (2, .int x2)]) (pc := 75) C dX1_begin_75 3 rfl rfl (by decide) rfl ?_
  refine r_goto (pc := 78) C 10 dX1_begin_78 (by decide) ?_
  exact r_sub C [1, 2, 3, 0] rfl (hrec10 _ _ _ h)
def f_X1_begin_73 (b1 : Nat) (rec10 : Int32 → Int32 → Wd → Option (Wd)) (x2 : Int32) (x3 : Int32) (t0 : Int32) (w : Wd) : Option (Wd) := f_X1_begin_74 b1 rec10 x2 x3 (0:Int32) t0 w
set_option maxRecDepth 20000 in
theorem b_X1_begin_73 {G : Gv} {V : Vt} {b1 : Nat} {rec10 : Int32 → Int32 → Wd → Option (Wd)} {res : Wd} (hb1 : isTr b1 = true)  (C : CX cX1_begin RX1 G SX 5 4 none none res V) (hrec10 : ∀ (x2 : Int32) (x3 : Int32) (w : Wd), rec10 x2 x3 w = some res → V w 10 [(0, .ref (G.2 58)), (1, .ref (G.2 b1)), (2, .int x2), (3, .int x3)] []) {x2 : Int32} {x3 : Int32} {t0 : Int32} {w : Wd} (h : f_X1_begin_73 b1 rec10 x2 x3 t0 w = some res) : V w 73 [(0, .ref (G.2 58)), (1, .ref (G.2 b1)), (2, .int x2), (3, .int x3)] [.int t0, .ref (G.2 62)] := by
  unfold f_X1_begin_73 at h
  refine r_iconst (v := (0:Int32)) (pc := 73) C dX1_begin_73 (by decide) ?_
  exact r_sub C [0, 1, 2, 3] rfl (b_X1_begin_74 hb1 C hrec10 h)
def f_X1_begin_50 (b1 : Nat) (rec10 : Int32 → Int32 → Wd → Option (Wd)) (x2 : Int32) (x3 : Int32) (x4 : Int32) (t0 : Int32) (t1 : Int32) (w : Wd) : Option (Wd) := ast w 60 5 t1 t0 (fun w1 => (if ¬ x4 = 0 then f_X1_begin_73 b1 rec10 x2 x3 x3 w1 else bd (f_X6_isShared b1 w1 x3) (fun q2 => (if ¬ q2 = 0 then f_X1_begin_73 b1 rec10 x2 x3 x3 w1 else f_X1_begin_74 b1 rec10 x2 x3 (1:Int32) x3 w1))))
set_option maxRecDepth 20000 in
theorem b_X1_begin_50 {G : Gv} {V : Vt} {b1 : Nat} {rec10 : Int32 → Int32 → Wd → Option (Wd)} {res : Wd} (hb1 : isTr b1 = true)  (C : CX cX1_begin RX1 G SX 5 4 none none res V) (hrec10 : ∀ (x2 : Int32) (x3 : Int32) (w : Wd), rec10 x2 x3 w = some res → V w 10 [(0, .ref (G.2 58)), (1, .ref (G.2 b1)), (2, .int x2), (3, .int x3)] []) {x2 : Int32} {x3 : Int32} {x4 : Int32} {t0 : Int32} {t1 : Int32} {w : Wd} (h : f_X1_begin_50 b1 rec10 x2 x3 x4 t0 t1 w = some res) : V w 50 [(0, .ref (G.2 58)), (1, .ref (G.2 b1)), (2, .int x2), (3, .int x3), (4, .int x4)] [.int t0, .int t1, .ref (G.2 60)] := by
  unfold f_X1_begin_50 at h
  refine r_ast (pc := 50) C dX1_begin_50 h kx_60 (fun w1 h => ?_)
  refine r_aload_n (pc := 51) C dX1_begin_51 rfl 0 rfl ?_
  refine gr_X1_21 (pc := 52) 62 C dX1_begin_52 kx_58 rfl ?_
  refine r_iload_n (pc := 55) C dX1_begin_55 rfl 3 rfl ?_
  refine r_iload (pc := 56) C dX1_begin_56 4 rfl ?_
  refine r_if_ne (pc := 58) C 73 dX1_begin_58 (by decide) h (fun h => ?_) (fun h => ?_)
  · exact r_sub C [0, 1, 2, 3] rfl (b_X1_begin_73 hb1 C hrec10 h)
  · refine r_aload_n (pc := 61) C dX1_begin_61 rfl 1 rfl ?_
    refine r_iload_n (pc := 62) C dX1_begin_62 rfl 3 rfl ?_
    refine cv_X1_43 (pc := 63) C dX1_begin_63 hb1 h (by decide) (Nat.le_of_ble_eq_true rfl) (fun q2 h => ?_)
    refine r_if_ne (pc := 66) C 73 dX1_begin_66 (by decide) h (fun h => ?_) (fun h => ?_)
    · exact r_sub C [0, 1, 2, 3] rfl (b_X1_begin_73 hb1 C hrec10 h)
    · refine r_iconst (v := (1:Int32)) (pc := 69) C dX1_begin_69 (by decide) ?_
      refine r_goto (pc := 70) C 74 dX1_begin_70 (by decide) ?_
      exact r_sub C [0, 1, 2, 3] rfl (b_X1_begin_74 hb1 C hrec10 h)
def fb_X1_begin_10 (b1 : Nat) (rec10 : Int32 → Int32 → Wd → Option (Wd)) (x2 : Int32) (x3 : Int32) (w : Wd) : Option (Wd) := (if (w 58 5) ≤ x3 then f_X1_begin_81 b1 w else bd (f_X6_isEmpty b1 w x3) (fun q1 => (if q1 = 0 then bd (f_X6_whoMay b1 w x3) (fun q2 => f_X1_begin_50 b1 rec10 x2 x3 q1 ((q2 &&& (x2 ^^^ (-1:Int32))) <<< ((1:Int32) &&& 31)) x3 w) else f_X1_begin_50 b1 rec10 x2 x3 q1 (1:Int32) x3 w)))
set_option maxRecDepth 20000 in
theorem bb_X1_begin_10 {G : Gv} {V : Vt} {b1 : Nat} {rec10 : Int32 → Int32 → Wd → Option (Wd)} {res : Wd} (hb1 : isTr b1 = true)  (C : CX cX1_begin RX1 G SX 5 4 none none res V) (hrec10 : ∀ (x2 : Int32) (x3 : Int32) (w : Wd), rec10 x2 x3 w = some res → V w 10 [(0, .ref (G.2 58)), (1, .ref (G.2 b1)), (2, .int x2), (3, .int x3)] []) {x2 : Int32} {x3 : Int32} {w : Wd} (h : fb_X1_begin_10 b1 rec10 x2 x3 w = some res) : V w 10 [(0, .ref (G.2 58)), (1, .ref (G.2 b1)), (2, .int x2), (3, .int x3)] [] := by
  unfold fb_X1_begin_10 at h
  refine r_iload_n (pc := 10) C dX1_begin_10 rfl 3 rfl ?_
  refine r_aload_n (pc := 11) C dX1_begin_11 rfl 0 rfl ?_
  refine gi_X1_34 (pc := 12) C dX1_begin_12 kx_58 rfl ?_
  refine r_icmp_ge (pc := 15) C 81 dX1_begin_15 (by decide) h (fun h => ?_) (fun h => ?_)
  · exact r_sub C [0] rfl (b_X1_begin_81 hb1 C h)
  · refine r_aload_n (pc := 18) C dX1_begin_18 rfl 1 rfl ?_
    refine r_iload_n (pc := 19) C dX1_begin_19 rfl 3 rfl ?_
    refine cv_X1_35 (pc := 20) C dX1_begin_20 hb1 h (by decide) (Nat.le_of_ble_eq_true rfl) (fun q1 h => ?_)
    refine r_istore (L' := [(4, .int q1), (0, .ref (G.2 58)), (1, .ref (G.2 b1)), (2, .int x2), (3, .int x3)]) (pc := 23) C dX1_begin_23 (by decide) rfl ?_
    refine r_aload_n (pc := 25) C dX1_begin_25 rfl 1 rfl ?_
    refine gr_X1_15 (pc := 26) 60 C dX1_begin_26 kx_58 rfl ?_
    refine r_iload_n (pc := 29) C dX1_begin_29 rfl 4 rfl ?_
    refine r_iload (pc := 30) C dX1_begin_30 0 rfl ?_
    refine r_if_eq (pc := 32) C 39 dX1_begin_32 (by decide) h (fun h => ?_) (fun h => ?_)
    · refine r_aload_n (pc := 39) C dX1_begin_39 rfl 2 rfl ?_
      refine r_iload_n (pc := 40) C dX1_begin_40 rfl 4 rfl ?_
      refine cv_X1_39 (pc := 41) C dX1_begin_41 hb1 h (by decide) (Nat.le_of_ble_eq_true rfl) (fun q2 h => ?_)
      refine r_iload_n (pc := 44) C dX1_begin_44 rfl 3 rfl ?_
      refine r_iconst (v := (-1:Int32)) (pc := 45) C dX1_begin_45 (by decide) ?_
      refine r_ixor (pc := 46) C dX1_begin_46 ?_
      refine r_iand (pc := 47) C dX1_begin_47 ?_
      refine r_iconst (v := (1:Int32)) (pc := 48) C dX1_begin_48 (by decide) ?_
      refine r_ishl (pc := 49) C dX1_begin_49 ?_
      exact r_sub C [1, 2, 3, 4, 0] rfl (b_X1_begin_50 hb1 C hrec10 h)
    · refine r_iconst (v := (1:Int32)) (pc := 35) C dX1_begin_35 (by decide) ?_
      refine r_goto (pc := 36) C 50 dX1_begin_36 (by decide) ?_
      exact r_sub C [1, 2, 3, 4, 0] rfl (b_X1_begin_50 hb1 C hrec10 h)
def f_X1_begin_10 (b1 : Nat) : Int32 → Int32 → Wd → Option (Wd) := lp (fun _ _ _ => none) (fun rec => fb_X1_begin_10 b1 rec) FU
theorem b_X1_begin_10 {G : Gv} {V : Vt} {b1 : Nat} {res : Wd} (hb1 : isTr b1 = true)  (C : CX cX1_begin RX1 G SX 5 4 none none res V) : ∀ (x2 : Int32) (x3 : Int32) (w : Wd), (f_X1_begin_10 b1) x2 x3 w = some res → V w 10 [(0, .ref (G.2 58)), (1, .ref (G.2 b1)), (2, .int x2), (3, .int x3)] [] :=
  lp_ind (P := fun (g : Int32 → Int32 → Wd → Option (Wd)) => ∀ (x2 : Int32) (x3 : Int32) (w : Wd), g x2 x3 w = some res → V w 10 [(0, .ref (G.2 58)), (1, .ref (G.2 b1)), (2, .int x2), (3, .int x3)] []) (fun _ _ _ h => by cases h) (fun g hg _ _ _ h => bb_X1_begin_10 hb1 C hg h) FU
def f_X1_begin (b1 : Nat) (p2 : Int32) (w : Wd) : Option (Wd) := wl (updW w 58 5 (w b1 0)) (fun w1 => f_X1_begin_10 b1 p2 (0:Int32) w1)
set_option maxRecDepth 20000 in
theorem b_X1_begin_E {G : Gv} {V : Vt} {b1 : Nat} {res : Wd} (hb1 : isTr b1 = true)  (C : CX cX1_begin RX1 G SX 5 4 none none res V) {p2 : Int32} {w : Wd} (h : f_X1_begin b1 p2 w = some res) : V w 0 [(0, .ref (G.2 58)), (1, .ref (G.2 b1)), (2, .int p2)] [] := by
  unfold f_X1_begin at h
  refine r_aload_n (pc := 0) C dX1_begin_0 rfl 0 rfl ?_
  refine r_aload_n (pc := 1) C dX1_begin_1 rfl 1 rfl ?_
  refine gi_X1_28 (pc := 2) C dX1_begin_2 (cTr_0 hb1) rfl ?_
  refine pi_X1_34 (pc := 5) C dX1_begin_5 kx_58 rfl h (fun w1 h => ?_)
  refine r_iconst (v := (0:Int32)) (pc := 8) C dX1_begin_8 (by decide) ?_
  refine r_istore_n (L' := [(3, .int (0:Int32)), (0, .ref (G.2 58)), (1, .ref (G.2 b1)), (2, .int p2)]) (pc := 9) C dX1_begin_9 rfl (by decide) rfl ?_
  exact r_sub C [1, 2, 3, 0] rfl (b_X1_begin_10 hb1 C _ _ _ h)
theorem c_X1_begin {G : Gv} {b1 : Nat} {p2 : Int32} {w : Wd} {res : Wd} (hb1 : isTr b1 = true) (h : f_X1_begin b1 p2 w = some res) (l : Launch) : MC l yX1_begin cX1_begin 5 none 4 G SX w [.ref (G.2 58), .ref (G.2 b1), .int p2] none res := mc_of (by decide +kernel) rfl (Nat.le_of_ble_eq_true rfl) rfl (fun V C => b_X1_begin_E hb1 C h) l
def f_J6_bitCount_0f7a4 (p0 : Int32) : Option (Int32) := lv (p0 - ((ushr p0 (1:Int32)) &&& (1431655765:Int32))) (fun v1 => lv ((v1 &&& (858993459:Int32)) + ((ushr v1 (2:Int32)) &&& (858993459:Int32))) (fun v2 => lv ((v2 + (ushr v2 (4:Int32))) &&& (252645135:Int32)) (fun v3 => lv (v3 + (ushr v3 (8:Int32))) (fun v4 => lv (v4 + (ushr v4 (16:Int32))) (fun v5 => some (v5 &&& (63:Int32)))))))
set_option maxRecDepth 20000 in
theorem b_J6_bitCount_0f7a4_E {G : Gv} {V : Vt} {w : Wd} {res : Int32}  (C : CX cJ6_bitCount_0f7a4 RJ6 G SX 1 1 (some FieldType.int) (some (.int res)) w V) {p0 : Int32} (h : f_J6_bitCount_0f7a4 p0 = some res) : V w 0 [(0, .int p0)] [] := by
  unfold f_J6_bitCount_0f7a4 at h
  refine r_iload_n (pc := 0) C dJ6_bitCount_0f7a4_0 rfl 0 rfl ?_
  refine r_iload_n (pc := 1) C dJ6_bitCount_0f7a4_1 rfl 0 rfl ?_
  refine r_iconst (v := (1:Int32)) (pc := 2) C dJ6_bitCount_0f7a4_2 (by decide) ?_
  refine r_iushr (pc := 3) C dJ6_bitCount_0f7a4_3 ?_
  refine r_ldcw (pc := 4) C dJ6_bitCount_0f7a4_4 qk_J6_265 ?_
  refine r_iand (pc := 7) C dJ6_bitCount_0f7a4_7 ?_
  refine r_isub (pc := 8) C dJ6_bitCount_0f7a4_8 ?_
  refine r_lv h (fun v1 h => ?_)
  refine r_istore_n (L' := [(0, .int v1)]) (pc := 9) C dJ6_bitCount_0f7a4_9 rfl (by decide) rfl ?_
  refine r_iload_n (pc := 10) C dJ6_bitCount_0f7a4_10 rfl 0 rfl ?_
  refine r_ldcw (pc := 11) C dJ6_bitCount_0f7a4_11 qk_J6_266 ?_
  refine r_iand (pc := 14) C dJ6_bitCount_0f7a4_14 ?_
  refine r_iload_n (pc := 15) C dJ6_bitCount_0f7a4_15 rfl 0 rfl ?_
  refine r_iconst (v := (2:Int32)) (pc := 16) C dJ6_bitCount_0f7a4_16 (by decide) ?_
  refine r_iushr (pc := 17) C dJ6_bitCount_0f7a4_17 ?_
  refine r_ldcw (pc := 18) C dJ6_bitCount_0f7a4_18 qk_J6_266 ?_
  refine r_iand (pc := 21) C dJ6_bitCount_0f7a4_21 ?_
  refine r_iadd (pc := 22) C dJ6_bitCount_0f7a4_22 ?_
  refine r_lv h (fun v2 h => ?_)
  refine r_istore_n (L' := [(0, .int v2)]) (pc := 23) C dJ6_bitCount_0f7a4_23 rfl (by decide) rfl ?_
  refine r_iload_n (pc := 24) C dJ6_bitCount_0f7a4_24 rfl 0 rfl ?_
  refine r_iload_n (pc := 25) C dJ6_bitCount_0f7a4_25 rfl 0 rfl ?_
  refine r_iconst (v := (4:Int32)) (pc := 26) C dJ6_bitCount_0f7a4_26 (by decide) ?_
  refine r_iushr (pc := 27) C dJ6_bitCount_0f7a4_27 ?_
  refine r_iadd (pc := 28) C dJ6_bitCount_0f7a4_28 ?_
  refine r_ldcw (pc := 29) C dJ6_bitCount_0f7a4_29 qk_J6_267 ?_
  refine r_iand (pc := 32) C dJ6_bitCount_0f7a4_32 ?_
  refine r_lv h (fun v3 h => ?_)
  refine r_istore_n (L' := [(0, .int v3)]) (pc := 33) C dJ6_bitCount_0f7a4_33 rfl (by decide) rfl ?_
  refine r_iload_n (pc := 34) C dJ6_bitCount_0f7a4_34 rfl 0 rfl ?_
  refine r_iload_n (pc := 35) C dJ6_bitCount_0f7a4_35 rfl 0 rfl ?_
  refine r_bipush (v := (8:Int32)) (pc := 36) C dJ6_bitCount_0f7a4_36 (by decide) ?_
  refine r_iushr (pc := 38) C dJ6_bitCount_0f7a4_38 ?_
  refine r_iadd (pc := 39) C dJ6_bitCount_0f7a4_39 ?_
  refine r_lv h (fun v4 h => ?_)
  refine r_istore_n (L' := [(0, .int v4)]) (pc := 40) C dJ6_bitCount_0f7a4_40 rfl (by decide) rfl ?_
  refine r_iload_n (pc := 41) C dJ6_bitCount_0f7a4_41 rfl 0 rfl ?_
  refine r_iload_n (pc := 42) C dJ6_bitCount_0f7a4_42 rfl 0 rfl ?_
  refine r_bipush (v := (16:Int32)) (pc := 43) C dJ6_bitCount_0f7a4_43 (by decide) ?_
  refine r_iushr (pc := 45) C dJ6_bitCount_0f7a4_45 ?_
  refine r_iadd (pc := 46) C dJ6_bitCount_0f7a4_46 ?_
  refine r_lv h (fun v5 h => ?_)
  refine r_istore_n (L' := [(0, .int v5)]) (pc := 47) C dJ6_bitCount_0f7a4_47 rfl (by decide) rfl ?_
  refine r_iload_n (pc := 48) C dJ6_bitCount_0f7a4_48 rfl 0 rfl ?_
  refine r_bipush (v := (63:Int32)) (pc := 49) C dJ6_bitCount_0f7a4_49 (by decide) ?_
  refine r_iand (pc := 51) C dJ6_bitCount_0f7a4_51 ?_
  exact r_iretP (pc := 52) C dJ6_bitCount_0f7a4_52 h
theorem c_J6_bitCount_0f7a4 {G : Gv} {p0 : Int32} {w : Wd} {res : Int32} (h : f_J6_bitCount_0f7a4 p0 = some res) (l : Launch) : MC l yJ6_bitCount_0f7a4 cJ6_bitCount_0f7a4 1 (some FieldType.int) 1 G SX w [.int p0] (some (.int res)) w := mc_of (by decide +kernel) rfl (Nat.le_of_ble_eq_true rfl) rfl (fun V C => b_J6_bitCount_0f7a4_E C h) l
theorem cv_X1_57 {cc : ByteArray} {G : Gv} {n hc : Nat} {rt : Option FieldType} {rv : Option Value} {w0 : Wd} {V : Vt} {w : Wd} {pc : Nat} {L : List (Nat × Value)} {rest : List Value} {α : Type} {res : α} {p0 : Int32} {K : Int32 → Option α} (C : CX cc RX1 G SX n hc rt rv w0 V) (hd : decode cc pc = .ok (.invokestatic 57, 3)) (h : bd (f_J6_bitCount_0f7a4 p0) K = some res) (hR : 1 + 1 ≤ hc) (hr : (rest.map fun v => v.category).sum ≤ 8) (kk : ∀ q, K q = some res → V w (pc + 3) L (.int q :: rest)) : V w pc L (.int p0 :: rest) := r_callS (As := [.int p0]) (rest := rest) (rvf := fun q => (some (.int q))) (wf := fun q => w) C hd h ql_X1_57 qt_J6_bitCount_0f7a4 qn_J6 qc_J6_bitCount_0f7a4 ⟨by decide +kernel, by decide +kernel, (by decide +kernel : (parseMethodDescriptor yJ6_bitCount_0f7a4.desc).map (fun d => d.parameters.length) = some 1)⟩ ⟨hR, by decide⟩ (fun q hq l => c_J6_bitCount_0f7a4 hq l) rfl hr kk
def f_X1_step_169 (t0 : Int32) (t1 : Int32) (t2 : Int32) (w : Wd) : Option (Wd) := ast w 61 5 t2 (t1 &&& (t0 ^^^ (-1:Int32))) (fun w1 => some w1)
set_option maxRecDepth 20000 in
theorem b_X1_step_169 {G : Gv} {V : Vt} {res : Wd}  (C : CX cX1_step RX1 G SX 2 2 none none res V) {t0 : Int32} {t1 : Int32} {t2 : Int32} {w : Wd} (h : f_X1_step_169 t0 t1 t2 w = some res) : V w 169 [] [.int t0, .int t1, .int t2, .ref (G.2 61)] := by
  unfold f_X1_step_169 at h
  refine r_iconst (v := (-1:Int32)) (pc := 169) C dX1_step_169 (by decide) ?_
  refine r_ixor (pc := 170) C dX1_step_170 ?_
  refine r_iand (pc := 171) C dX1_step_171 ?_
  refine r_ast (pc := 172) C dX1_step_172 h kx_61 (fun w1 h => ?_)
  exact r_vretE (pc := 173) C dX1_step_173 h
def f_X1_step_104 (t0 : Int32) (t1 : Int32) (t2 : Int32) (w : Wd) : Option (Wd) := ast w 63 6 t2 (t1 ||| t0) (fun w1 => wl (updW w1 58 6 ((w1 58 6) + (1:Int32))) (fun w2 => (if (w2 58 5) ≤ (w2 58 6) then some w2 else ald w2 60 5 (w2 58 6) (fun v3 => ald w2 62 5 (w2 58 6) (fun v4 => (if v4 = 0 then f_X1_step_169 (0:Int32) v3 (w2 58 6) w2 else ald w2 63 6 (w2 58 6) (fun v5 => f_X1_step_169 v5 v3 (w2 58 6) w2)))))))
set_option maxRecDepth 20000 in
theorem b_X1_step_104 {G : Gv} {V : Vt} {res : Wd}  (C : CX cX1_step RX1 G SX 2 2 none none res V) {t0 : Int32} {t1 : Int32} {t2 : Int32} {w : Wd} (h : f_X1_step_104 t0 t1 t2 w = some res) : V w 104 [(0, .ref (G.2 58))] [.int t0, .int t1, .int t2, .ref (G.2 63)] := by
  unfold f_X1_step_104 at h
  refine r_ior (pc := 104) C dX1_step_104 ?_
  refine r_ast (pc := 105) C dX1_step_105 h kx_63 (fun w1 h => ?_)
  refine r_aload_n (pc := 106) C dX1_step_106 rfl 0 rfl ?_
  refine r_dup (pc := 107) C dX1_step_107 rfl ?_
  refine gi_X1_46 (pc := 108) C dX1_step_108 kx_58 rfl ?_
  refine r_iconst (v := (1:Int32)) (pc := 111) C dX1_step_111 (by decide) ?_
  refine r_iadd (pc := 112) C dX1_step_112 ?_
  refine pi_X1_46 (pc := 113) C dX1_step_113 kx_58 rfl h (fun w2 h => ?_)
  refine r_aload_n (pc := 116) C dX1_step_116 rfl 0 rfl ?_
  refine gi_X1_46 (pc := 117) C dX1_step_117 kx_58 rfl ?_
  refine r_aload_n (pc := 120) C dX1_step_120 rfl 0 rfl ?_
  refine gi_X1_34 (pc := 121) C dX1_step_121 kx_58 rfl ?_
  refine r_icmp_ge (pc := 124) C 173 dX1_step_124 (by decide) h (fun h => ?_) (fun h => ?_)
  · exact r_vretE (pc := 173) C dX1_step_173 h
  · refine r_aload_n (pc := 127) C dX1_step_127 rfl 0 rfl ?_
    refine gr_X1_18 (pc := 128) 61 C dX1_step_128 kx_58 rfl ?_
    refine r_aload_n (pc := 131) C dX1_step_131 rfl 0 rfl ?_
    refine gi_X1_46 (pc := 132) C dX1_step_132 kx_58 rfl ?_
    refine r_aload_n (pc := 135) C dX1_step_135 rfl 0 rfl ?_
    refine gr_X1_15 (pc := 136) 60 C dX1_step_136 kx_58 rfl ?_
    refine r_aload_n (pc := 139) C dX1_step_139 rfl 0 rfl ?_
    refine gi_X1_46 (pc := 140) C dX1_step_140 kx_58 rfl ?_
    refine r_ald (pc := 143) C dX1_step_143 h kx_60 (fun v3 h => ?_)
    refine r_aload_n (pc := 144) C dX1_step_144 rfl 0 rfl ?_
    refine gr_X1_21 (pc := 145) 62 C dX1_step_145 kx_58 rfl ?_
    refine r_aload_n (pc := 148) C dX1_step_148 rfl 0 rfl ?_
    refine gi_X1_46 (pc := 149) C dX1_step_149 kx_58 rfl ?_
    refine r_zld (pc := 152) C dX1_step_152 h kx_62 (fun v4 h => ?_)
    refine r_if_eq (pc := 153) C 168 dX1_step_153 (by decide) h (fun h => ?_) (fun h => ?_)
    · refine r_iconst (v := (0:Int32)) (pc := 168) C dX1_step_168 (by decide) ?_
      exact r_sub C [] rfl (b_X1_step_169 C h)
    · refine r_aload_n (pc := 156) C dX1_step_156 rfl 0 rfl ?_
      refine gr_X1_25 (pc := 157) 63 C dX1_step_157 kx_58 rfl ?_
      refine r_aload_n (pc := 160) C dX1_step_160 rfl 0 rfl ?_
      refine gi_X1_46 (pc := 161) C dX1_step_161 kx_58 rfl ?_
      refine r_ald (pc := 164) C dX1_step_164 h kx_63 (fun v5 h => ?_)
      refine r_goto (pc := 165) C 169 dX1_step_165 (by decide) ?_
      exact r_sub C [] rfl (b_X1_step_169 C h)
def f_X1_step (w : Wd) : Option (Wd) := ald w 61 5 (w 58 6) (fun v1 => ald w 61 5 (w 58 6) (fun v2 => lv (v1 &&& (-v2)) (fun v3 => (if ¬ v3 = 0 then ald w 61 5 (w 58 6) (fun v4 => ast w 61 5 (w 58 6) (v4 &&& (v3 ^^^ (-1:Int32))) (fun w5 => bd (f_J6_bitCount_0f7a4 (v3 - (1:Int32))) (fun q6 => ast w5 59 5 (w5 58 6) (q6 - (1:Int32)) (fun w7 => ald w7 63 6 (w7 58 6) (fun v8 => ald w7 62 5 (w7 58 6) (fun v9 => (if v9 = 0 then f_X1_step_104 (0:Int32) v8 ((w7 58 6) + (1:Int32)) w7 else f_X1_step_104 v3 v8 ((w7 58 6) + (1:Int32)) w7))))))) else wl (updW w 58 6 ((w 58 6) - (1:Int32))) (fun w10 => some w10)))))
set_option maxRecDepth 20000 in
theorem b_X1_step_E {G : Gv} {V : Vt} {res : Wd}  (C : CX cX1_step RX1 G SX 2 2 none none res V) {w : Wd} (h : f_X1_step w = some res) : V w 0 [(0, .ref (G.2 58))] [] := by
  unfold f_X1_step at h
  refine r_aload_n (pc := 0) C dX1_step_0 rfl 0 rfl ?_
  refine gr_X1_18 (pc := 1) 61 C dX1_step_1 kx_58 rfl ?_
  refine r_aload_n (pc := 4) C dX1_step_4 rfl 0 rfl ?_
  refine gi_X1_46 (pc := 5) C dX1_step_5 kx_58 rfl ?_
  refine r_ald (pc := 8) C dX1_step_8 h kx_61 (fun v1 h => ?_)
  refine r_aload_n (pc := 9) C dX1_step_9 rfl 0 rfl ?_
  refine gr_X1_18 (pc := 10) 61 C dX1_step_10 kx_58 rfl ?_
  refine r_aload_n (pc := 13) C dX1_step_13 rfl 0 rfl ?_
  refine gi_X1_46 (pc := 14) C dX1_step_14 kx_58 rfl ?_
  refine r_ald (pc := 17) C dX1_step_17 h kx_61 (fun v2 h => ?_)
  refine r_ineg (pc := 18) C dX1_step_18 ?_
  refine r_iand (pc := 19) C dX1_step_19 ?_
  refine r_lv h (fun v3 h => ?_)
  refine r_istore_n (L' := [(1, .int v3), (0, .ref (G.2 58))]) (pc := 20) C dX1_step_20 rfl (by decide) rfl ?_
  refine r_iload_n (pc := 21) C dX1_step_21 rfl 0 rfl ?_
  refine r_if_ne (pc := 22) C 36 dX1_step_22 (by decide) h (fun h => ?_) (fun h => ?_)
  · refine r_aload_n (pc := 36) C dX1_step_36 rfl 1 rfl ?_
    refine gr_X1_18 (pc := 37) 61 C dX1_step_37 kx_58 rfl ?_
    refine r_aload_n (pc := 40) C dX1_step_40 rfl 1 rfl ?_
    refine gi_X1_46 (pc := 41) C dX1_step_41 kx_58 rfl ?_
    refine r_dup2 (pc := 44) C dX1_step_44 rfl rfl ?_
    refine r_ald (pc := 45) C dX1_step_45 h kx_61 (fun v4 h => ?_)
    refine r_iload_n (pc := 46) C dX1_step_46 rfl 0 rfl ?_
    refine r_iconst (v := (-1:Int32)) (pc := 47) C dX1_step_47 (by decide) ?_
    refine r_ixor (pc := 48) C dX1_step_48 ?_
    refine r_iand (pc := 49) C dX1_step_49 ?_
    refine r_ast (pc := 50) C dX1_step_50 h kx_61 (fun w5 h => ?_)
    refine r_aload_n (pc := 51) C dX1_step_51 rfl 1 rfl ?_
    refine gr_X1_9 (pc := 52) 59 C dX1_step_52 kx_58 rfl ?_
    refine r_aload_n (pc := 55) C dX1_step_55 rfl 1 rfl ?_
    refine gi_X1_46 (pc := 56) C dX1_step_56 kx_58 rfl ?_
    refine r_iload_n (pc := 59) C dX1_step_59 rfl 0 rfl ?_
    refine r_iconst (v := (1:Int32)) (pc := 60) C dX1_step_60 (by decide) ?_
    refine r_isub (pc := 61) C dX1_step_61 ?_
    refine cv_X1_57 (pc := 62) C dX1_step_62  h (by decide) (Nat.le_of_ble_eq_true rfl) (fun q6 h => ?_)
    refine r_iconst (v := (1:Int32)) (pc := 65) C dX1_step_65 (by decide) ?_
    refine r_isub (pc := 66) C dX1_step_66 ?_
    refine r_ast (pc := 67) C dX1_step_67 h kx_59 (fun w7 h => ?_)
    refine r_aload_n (pc := 68) C dX1_step_68 rfl 1 rfl ?_
    refine gr_X1_25 (pc := 69) 63 C dX1_step_69 kx_58 rfl ?_
    refine r_aload_n (pc := 72) C dX1_step_72 rfl 1 rfl ?_
    refine gi_X1_46 (pc := 73) C dX1_step_73 kx_58 rfl ?_
    refine r_iconst (v := (1:Int32)) (pc := 76) C dX1_step_76 (by decide) ?_
    refine r_iadd (pc := 77) C dX1_step_77 ?_
    refine r_aload_n (pc := 78) C dX1_step_78 rfl 1 rfl ?_
    refine gr_X1_25 (pc := 79) 63 C dX1_step_79 kx_58 rfl ?_
    refine r_aload_n (pc := 82) C dX1_step_82 rfl 1 rfl ?_
    refine gi_X1_46 (pc := 83) C dX1_step_83 kx_58 rfl ?_
    refine r_ald (pc := 86) C dX1_step_86 h kx_63 (fun v8 h => ?_)
    refine r_aload_n (pc := 87) C dX1_step_87 rfl 1 rfl ?_
    refine gr_X1_21 (pc := 88) 62 C dX1_step_88 kx_58 rfl ?_
    refine r_aload_n (pc := 91) C dX1_step_91 rfl 1 rfl ?_
    refine gi_X1_46 (pc := 92) C dX1_step_92 kx_58 rfl ?_
    refine r_zld (pc := 95) C dX1_step_95 h kx_62 (fun v9 h => ?_)
    refine r_if_eq (pc := 96) C 103 dX1_step_96 (by decide) h (fun h => ?_) (fun h => ?_)
    · refine r_iconst (v := (0:Int32)) (pc := 103) C dX1_step_103 (by decide) ?_
      exact r_sub C [1] rfl (b_X1_step_104 C h)
    · refine r_iload_n (pc := 99) C dX1_step_99 rfl 0 rfl ?_
      refine r_goto (pc := 100) C 104 dX1_step_100 (by decide) ?_
      exact r_sub C [1] rfl (b_X1_step_104 C h)
  · refine r_aload_n (pc := 25) C dX1_step_25 rfl 1 rfl ?_
    refine r_dup (pc := 26) C dX1_step_26 rfl ?_
    refine gi_X1_46 (pc := 27) C dX1_step_27 kx_58 rfl ?_
    refine r_iconst (v := (1:Int32)) (pc := 30) C dX1_step_30 (by decide) ?_
    refine r_isub (pc := 31) C dX1_step_31 ?_
    refine pi_X1_46 (pc := 32) C dX1_step_32 kx_58 rfl h (fun w10 h => ?_)
    exact r_vretE (pc := 35) C dX1_step_35 h
theorem c_X1_step {G : Gv} {w : Wd} {res : Wd} (h : f_X1_step w = some res) (l : Launch) : MC l yX1_step cX1_step 2 none 2 G SX w [.ref (G.2 58)] none res := mc_of (by decide +kernel) rfl (Nat.le_of_ble_eq_true rfl) rfl (fun V C => b_X1_step_E C h) l
theorem cv_X1_54 {cc : ByteArray} {G : Gv} {n hc : Nat} {rt : Option FieldType} {rv : Option Value} {w0 : Wd} {V : Vt} {w : Wd} {pc : Nat} {L : List (Nat × Value)} {rest : List Value} {α : Type} {res : α} {K : Wd → Option α} (C : CX cc RX1 G SX n hc rt rv w0 V) (hd : decode cc pc = .ok (.invokevirtual 54, 3)) (h : bd (f_X1_step w) K = some res) (hR : 2 + 1 ≤ hc) (hr : (rest.map fun v => v.category).sum ≤ 8) (kk : ∀ q, K q = some res → V q (pc + 3) L (rest)) : V w pc L (.ref (G.2 58) :: rest) := r_callV (As := []) (rest := rest) (rvf := fun q => none) (wf := fun q => q) C hd h ql_X1_54 qi_X1_step qs_X1_step qn_X1 qc_X1_step ⟨rfl, by decide +kernel, by decide +kernel, (by decide +kernel : (parseMethodDescriptor yX1_step.desc).map (fun d => d.parameters.length) = some 0)⟩ ⟨hR, by decide⟩ kx_58 rfl (fun q hq l => c_X1_step hq l) rfl hr kk
def f_X1_goesOn_58 (w : Wd) : Option (Int32 × Wd) := (if ¬ (w 58 6) = (w 58 5) then some ((0:Int32), w) else some ((1:Int32), w))
set_option maxRecDepth 20000 in
theorem b_X1_goesOn_58 {G : Gv} {V : Vt} {res : Int32 × Wd}  (C : CX cX1_goesOn RX1 G SX 2 3 (some FieldType.boolean) (some (.int res.1)) res.2 V) {w : Wd} (h : f_X1_goesOn_58 w = some res) : V w 58 [(0, .ref (G.2 58))] [] := by
  unfold f_X1_goesOn_58 at h
  refine r_aload_n (pc := 58) C dX1_goesOn_58 rfl 0 rfl ?_
  refine gi_X1_46 (pc := 59) C dX1_goesOn_59 kx_58 rfl ?_
  refine r_aload_n (pc := 62) C dX1_goesOn_62 rfl 0 rfl ?_
  refine gi_X1_34 (pc := 63) C dX1_goesOn_63 kx_58 rfl ?_
  refine r_icmp_ne (pc := 66) C 73 dX1_goesOn_66 (by decide) h (fun h => ?_) (fun h => ?_)
  · refine r_iconst (v := (0:Int32)) (pc := 73) C dX1_goesOn_73 (by decide) ?_
    exact r_zretE (pc := 74) C rfl dX1_goesOn_74 h
  · refine r_iconst (v := (1:Int32)) (pc := 69) C dX1_goesOn_69 (by decide) ?_
    refine r_goto (pc := 70) C 74 dX1_goesOn_70 (by decide) ?_
    exact r_zretE (pc := 74) C rfl dX1_goesOn_74 h
def fb_X1_goesOn_24 (rec24 : Int32 → Wd → Option (Int32 × Wd)) (x1 : Int32) (w : Wd) : Option (Int32 × Wd) := (if (1000000:Int32) ≤ x1 then f_X1_goesOn_58 w else (if (w 58 6) < 0 then f_X1_goesOn_58 w else (if (w 58 5) ≤ (w 58 6) then f_X1_goesOn_58 w else bd (f_X1_step w) (fun q1 => rec24 (x1 + (1:Int32)) q1))))
set_option maxRecDepth 20000 in
theorem bb_X1_goesOn_24 {G : Gv} {V : Vt} {rec24 : Int32 → Wd → Option (Int32 × Wd)} {res : Int32 × Wd}  (C : CX cX1_goesOn RX1 G SX 2 3 (some FieldType.boolean) (some (.int res.1)) res.2 V) (hrec24 : ∀ (x1 : Int32) (w : Wd), rec24 x1 w = some res → V w 24 [(0, .ref (G.2 58)), (1, .int x1)] []) {x1 : Int32} {w : Wd} (h : fb_X1_goesOn_24 rec24 x1 w = some res) : V w 24 [(0, .ref (G.2 58)), (1, .int x1)] [] := by
  unfold fb_X1_goesOn_24 at h
  refine r_iload_n (pc := 24) C dX1_goesOn_24 rfl 1 rfl ?_
  refine r_ldc (pc := 25) C dX1_goesOn_25 qk_X1_53 ?_
  refine r_icmp_ge (pc := 27) C 58 dX1_goesOn_27 (by decide) h (fun h => ?_) (fun h => ?_)
  · exact r_sub C [0] rfl (b_X1_goesOn_58 C h)
  · refine r_aload_n (pc := 30) C dX1_goesOn_30 rfl 0 rfl ?_
    refine gi_X1_46 (pc := 31) C dX1_goesOn_31 kx_58 rfl ?_
    refine r_if_lt (pc := 34) C 58 dX1_goesOn_34 (by decide) h (fun h => ?_) (fun h => ?_)
    · exact r_sub C [0] rfl (b_X1_goesOn_58 C h)
    · refine r_aload_n (pc := 37) C dX1_goesOn_37 rfl 0 rfl ?_
      refine gi_X1_46 (pc := 38) C dX1_goesOn_38 kx_58 rfl ?_
      refine r_aload_n (pc := 41) C dX1_goesOn_41 rfl 0 rfl ?_
      refine gi_X1_34 (pc := 42) C dX1_goesOn_42 kx_58 rfl ?_
      refine r_icmp_ge (pc := 45) C 58 dX1_goesOn_45 (by decide) h (fun h => ?_) (fun h => ?_)
      · exact r_sub C [0] rfl (b_X1_goesOn_58 C h)
      · refine r_aload_n (pc := 48) C dX1_goesOn_48 rfl 0 rfl ?_
        refine cv_X1_54 (pc := 49) C dX1_goesOn_49  h (by decide) (Nat.le_of_ble_eq_true rfl) (fun q1 h => ?_)
        refine r_iinc (v := (x1 + (1:Int32))) (L' := [(1, .int (x1 + (1:Int32))), (0, .ref (G.2 58))]) (pc := 52) C dX1_goesOn_52 1 rfl rfl (by decide) rfl ?_
        refine r_goto (pc := 55) C 24 dX1_goesOn_55 (by decide) ?_
        exact r_sub C [1, 0] rfl (hrec24 _ _ h)
def f_X1_goesOn_24 : Int32 → Wd → Option (Int32 × Wd) := lp (fun _ _ => none) (fun rec => fb_X1_goesOn_24 rec) FU
theorem b_X1_goesOn_24 {G : Gv} {V : Vt} {res : Int32 × Wd}  (C : CX cX1_goesOn RX1 G SX 2 3 (some FieldType.boolean) (some (.int res.1)) res.2 V) : ∀ (x1 : Int32) (w : Wd), (f_X1_goesOn_24) x1 w = some res → V w 24 [(0, .ref (G.2 58)), (1, .int x1)] [] :=
  lp_ind (P := fun (g : Int32 → Wd → Option (Int32 × Wd)) => ∀ (x1 : Int32) (w : Wd), g x1 w = some res → V w 24 [(0, .ref (G.2 58)), (1, .int x1)] []) (fun _ _ h => by cases h) (fun g hg _ _ h => bb_X1_goesOn_24 C hg h) FU
def f_X1_goesOn_17 (w : Wd) : Option (Int32 × Wd) := wl (updW w 58 7 (0:Int32)) (fun w1 => f_X1_goesOn_24 (0:Int32) w1)
set_option maxRecDepth 20000 in
theorem b_X1_goesOn_17 {G : Gv} {V : Vt} {res : Int32 × Wd}  (C : CX cX1_goesOn RX1 G SX 2 3 (some FieldType.boolean) (some (.int res.1)) res.2 V) {w : Wd} (h : f_X1_goesOn_17 w = some res) : V w 17 [(0, .ref (G.2 58))] [] := by
  unfold f_X1_goesOn_17 at h
  refine r_aload_n (pc := 17) C dX1_goesOn_17 rfl 0 rfl ?_
  refine r_iconst (v := (0:Int32)) (pc := 18) C dX1_goesOn_18 (by decide) ?_
  refine pi_X1_49 (pc := 19) C dX1_goesOn_19 kx_58 rfl rfl rfl h (fun w1 h => ?_)
  refine r_iconst (v := (0:Int32)) (pc := 22) C dX1_goesOn_22 (by decide) ?_
  refine r_istore_n (L' := [(1, .int (0:Int32)), (0, .ref (G.2 58))]) (pc := 23) C dX1_goesOn_23 rfl (by decide) rfl ?_
  exact r_sub C [1, 0] rfl (b_X1_goesOn_24 C _ _ h)
def f_X1_goesOn (w : Wd) : Option (Int32 × Wd) := (if ¬ (w 58 7) = 0 then f_X1_goesOn_17 w else wl (updW w 58 6 ((w 58 5) - (1:Int32))) (fun w1 => f_X1_goesOn_17 w1))
set_option maxRecDepth 20000 in
theorem b_X1_goesOn_E {G : Gv} {V : Vt} {res : Int32 × Wd}  (C : CX cX1_goesOn RX1 G SX 2 3 (some FieldType.boolean) (some (.int res.1)) res.2 V) {w : Wd} (h : f_X1_goesOn w = some res) : V w 0 [(0, .ref (G.2 58))] [] := by
  unfold f_X1_goesOn at h
  refine r_aload_n (pc := 0) C dX1_goesOn_0 rfl 0 rfl ?_
  refine gi_X1_49 (pc := 1) C dX1_goesOn_1 kx_58 rfl ?_
  refine r_if_ne (pc := 4) C 17 dX1_goesOn_4 (by decide) h (fun h => ?_) (fun h => ?_)
  · exact r_sub C [0] rfl (b_X1_goesOn_17 C h)
  · refine r_aload_n (pc := 7) C dX1_goesOn_7 rfl 0 rfl ?_
    refine r_aload_n (pc := 8) C dX1_goesOn_8 rfl 0 rfl ?_
    refine gi_X1_34 (pc := 9) C dX1_goesOn_9 kx_58 rfl ?_
    refine r_iconst (v := (1:Int32)) (pc := 12) C dX1_goesOn_12 (by decide) ?_
    refine r_isub (pc := 13) C dX1_goesOn_13 ?_
    refine pi_X1_46 (pc := 14) C dX1_goesOn_14 kx_58 rfl h (fun w1 h => ?_)
    exact r_sub C [0] rfl (b_X1_goesOn_17 C h)
theorem c_X1_goesOn {G : Gv} {w : Wd} {res : Int32 × Wd} (h : f_X1_goesOn w = some res) (l : Launch) : MC l yX1_goesOn cX1_goesOn 2 (some FieldType.boolean) 3 G SX w [.ref (G.2 58)] (some (.int res.1)) res.2 := mc_of (by decide +kernel) rfl (Nat.le_of_ble_eq_true rfl) rfl (fun V C => b_X1_goesOn_E C h) l
def f_X1_whoPlay_32 (w : Wd) (rec4 : Int32 → Int32 → Option (Int32)) (x1 : Int32) (x2 : Int32) : Option (Int32) := rec4 x1 (x2 + (1:Int32))
set_option maxRecDepth 20000 in
theorem b_X1_whoPlay_32 {G : Gv} {V : Vt} {w : Wd} {rec4 : Int32 → Int32 → Option (Int32)} {res : Int32}  (C : CX cX1_whoPlay RX1 G SX 3 1 (some FieldType.int) (some (.int res)) w V) (hrec4 : ∀ (x1 : Int32) (x2 : Int32), rec4 x1 x2 = some res → V w 4 [(0, .ref (G.2 58)), (1, .int x1), (2, .int x2)] []) {x1 : Int32} {x2 : Int32} (h : f_X1_whoPlay_32 w rec4 x1 x2 = some res) : V w 32 [(0, .ref (G.2 58)), (1, .int x1), (2, .int x2)] [] := by
  unfold f_X1_whoPlay_32 at h
  refine r_iinc (v := (x2 + (1:Int32))) (L' := [(2, .int (x2 + (1:Int32))), (0, .ref (G.2 58)), (1, .int x1)]) (pc := 32) C dX1_whoPlay_32 2 rfl rfl (by decide) rfl ?_
  refine r_goto (pc := 35) C 4 dX1_whoPlay_35 (by decide) ?_
  exact r_sub C [1, 2, 0] rfl (hrec4 _ _ h)
def fb_X1_whoPlay_4 (w : Wd) (rec4 : Int32 → Int32 → Option (Int32)) (x1 : Int32) (x2 : Int32) : Option (Int32) := (if (w 58 5) ≤ x2 then some x1 else ald w 59 5 x2 (fun v1 => (if v1 < 0 then f_X1_whoPlay_32 w rec4 x1 x2 else ald w 59 5 x2 (fun v2 => lv (x1 ||| ((1:Int32) <<< (v2 &&& 31))) (fun v3 => f_X1_whoPlay_32 w rec4 v3 x2)))))
set_option maxRecDepth 20000 in
theorem bb_X1_whoPlay_4 {G : Gv} {V : Vt} {w : Wd} {rec4 : Int32 → Int32 → Option (Int32)} {res : Int32}  (C : CX cX1_whoPlay RX1 G SX 3 1 (some FieldType.int) (some (.int res)) w V) (hrec4 : ∀ (x1 : Int32) (x2 : Int32), rec4 x1 x2 = some res → V w 4 [(0, .ref (G.2 58)), (1, .int x1), (2, .int x2)] []) {x1 : Int32} {x2 : Int32} (h : fb_X1_whoPlay_4 w rec4 x1 x2 = some res) : V w 4 [(0, .ref (G.2 58)), (1, .int x1), (2, .int x2)] [] := by
  unfold fb_X1_whoPlay_4 at h
  refine r_iload_n (pc := 4) C dX1_whoPlay_4 rfl 2 rfl ?_
  refine r_aload_n (pc := 5) C dX1_whoPlay_5 rfl 0 rfl ?_
  refine gi_X1_34 (pc := 6) C dX1_whoPlay_6 kx_58 rfl ?_
  refine r_icmp_ge (pc := 9) C 38 dX1_whoPlay_9 (by decide) h (fun h => ?_) (fun h => ?_)
  · refine r_iload_n (pc := 38) C dX1_whoPlay_38 rfl 1 rfl ?_
    exact r_iretP (pc := 39) C dX1_whoPlay_39 h
  · refine r_aload_n (pc := 12) C dX1_whoPlay_12 rfl 0 rfl ?_
    refine gr_X1_9 (pc := 13) 59 C dX1_whoPlay_13 kx_58 rfl ?_
    refine r_iload_n (pc := 16) C dX1_whoPlay_16 rfl 2 rfl ?_
    refine r_ald (pc := 17) C dX1_whoPlay_17 h kx_59 (fun v1 h => ?_)
    refine r_if_lt (pc := 18) C 32 dX1_whoPlay_18 (by decide) h (fun h => ?_) (fun h => ?_)
    · exact r_sub C [0, 1, 2] rfl (b_X1_whoPlay_32 C hrec4 h)
    · refine r_iload_n (pc := 21) C dX1_whoPlay_21 rfl 1 rfl ?_
      refine r_iconst (v := (1:Int32)) (pc := 22) C dX1_whoPlay_22 (by decide) ?_
      refine r_aload_n (pc := 23) C dX1_whoPlay_23 rfl 0 rfl ?_
      refine gr_X1_9 (pc := 24) 59 C dX1_whoPlay_24 kx_58 rfl ?_
      refine r_iload_n (pc := 27) C dX1_whoPlay_27 rfl 2 rfl ?_
      refine r_ald (pc := 28) C dX1_whoPlay_28 h kx_59 (fun v2 h => ?_)
      refine r_ishl (pc := 29) C dX1_whoPlay_29 ?_
      refine r_ior (pc := 30) C dX1_whoPlay_30 ?_
      refine r_lv h (fun v3 h => ?_)
      refine r_istore_n (L' := [(1, .int v3), (0, .ref (G.2 58)), (2, .int x2)]) (pc := 31) C dX1_whoPlay_31 rfl (by decide) rfl ?_
      exact r_sub C [1, 0, 2] rfl (b_X1_whoPlay_32 C hrec4 h)
def f_X1_whoPlay_4 (w : Wd) : Int32 → Int32 → Option (Int32) := lp (fun _ _ => none) (fun rec => fb_X1_whoPlay_4 w rec) FU
theorem b_X1_whoPlay_4 {G : Gv} {V : Vt} {w : Wd} {res : Int32}  (C : CX cX1_whoPlay RX1 G SX 3 1 (some FieldType.int) (some (.int res)) w V) : ∀ (x1 : Int32) (x2 : Int32), (f_X1_whoPlay_4 w) x1 x2 = some res → V w 4 [(0, .ref (G.2 58)), (1, .int x1), (2, .int x2)] [] :=
  lp_ind (P := fun (g : Int32 → Int32 → Option (Int32)) => ∀ (x1 : Int32) (x2 : Int32), g x1 x2 = some res → V w 4 [(0, .ref (G.2 58)), (1, .int x1), (2, .int x2)] []) (fun _ _ h => by cases h) (fun g hg _ _ h => bb_X1_whoPlay_4 C hg h) FU
def f_X1_whoPlay (w : Wd) : Option (Int32) := f_X1_whoPlay_4 w (0:Int32) (0:Int32)
set_option maxRecDepth 20000 in
theorem b_X1_whoPlay_E {G : Gv} {V : Vt} {w : Wd} {res : Int32}  (C : CX cX1_whoPlay RX1 G SX 3 1 (some FieldType.int) (some (.int res)) w V) (h : f_X1_whoPlay w = some res) : V w 0 [(0, .ref (G.2 58))] [] := by
  unfold f_X1_whoPlay at h
  refine r_iconst (v := (0:Int32)) (pc := 0) C dX1_whoPlay_0 (by decide) ?_
  refine r_istore_n (L' := [(1, .int (0:Int32)), (0, .ref (G.2 58))]) (pc := 1) C dX1_whoPlay_1 rfl (by decide) rfl ?_
  refine r_iconst (v := (0:Int32)) (pc := 2) C dX1_whoPlay_2 (by decide) ?_
  refine r_istore_n (L' := [(2, .int (0:Int32)), (1, .int (0:Int32)), (0, .ref (G.2 58))]) (pc := 3) C dX1_whoPlay_3 rfl (by decide) rfl ?_
  exact r_sub C [2, 1, 0] rfl (b_X1_whoPlay_4 C _ _ h)
theorem c_X1_whoPlay {G : Gv} {w : Wd} {res : Int32} (h : f_X1_whoPlay w = some res) (l : Launch) : MC l yX1_whoPlay cX1_whoPlay 3 (some FieldType.int) 1 G SX w [.ref (G.2 58)] (some (.int res)) w := mc_of (by decide +kernel) rfl (Nat.le_of_ble_eq_true rfl) rfl (fun V C => b_X1_whoPlay_E C h) l
def f_X1_unlike_27 (b1 : Nat) (w : Wd) (rec4 : Int32 → Int32 → Option (Int32)) (x2 : Int32) (x3 : Int32) : Option (Int32) := rec4 x2 (x3 + (1:Int32))
set_option maxRecDepth 20000 in
theorem b_X1_unlike_27 {G : Gv} {V : Vt} {b1 : Nat} {w : Wd} {rec4 : Int32 → Int32 → Option (Int32)} {res : Int32} (hb1 : isAr b1 = true)  (C : CX cX1_unlike RX1 G SX 4 1 (some FieldType.int) (some (.int res)) w V) (hrec4 : ∀ (x2 : Int32) (x3 : Int32), rec4 x2 x3 = some res → V w 4 [(0, .ref (G.2 58)), (1, .ref (G.2 b1)), (2, .int x2), (3, .int x3)] []) {x2 : Int32} {x3 : Int32} (h : f_X1_unlike_27 b1 w rec4 x2 x3 = some res) : V w 27 [(0, .ref (G.2 58)), (1, .ref (G.2 b1)), (2, .int x2), (3, .int x3)] [] := by
  unfold f_X1_unlike_27 at h
  refine r_iinc (v := (x3 + (1:Int32))) (L' := [(3, .int (x3 + (1:Int32))), (0, .ref (G.2 58)), (1, .ref (G.2 b1)), (2, .int x2)]) (pc := 27) C dX1_unlike_27 3 rfl rfl (by decide) rfl ?_
  refine r_goto (pc := 30) C 4 dX1_unlike_30 (by decide) ?_
  exact r_sub C [1, 2, 3, 0] rfl (hrec4 _ _ h)
def fb_X1_unlike_4 (b1 : Nat) (w : Wd) (rec4 : Int32 → Int32 → Option (Int32)) (x2 : Int32) (x3 : Int32) : Option (Int32) := (if (w 58 5) ≤ x3 then some x2 else ald w 59 5 x3 (fun v1 => ald w b1 (lenX b1) x3 (fun v2 => (if v1 = v2 then f_X1_unlike_27 b1 w rec4 x2 x3 else f_X1_unlike_27 b1 w rec4 (x2 + (1:Int32)) x3))))
set_option maxRecDepth 20000 in
theorem bb_X1_unlike_4 {G : Gv} {V : Vt} {b1 : Nat} {w : Wd} {rec4 : Int32 → Int32 → Option (Int32)} {res : Int32} (hb1 : isAr b1 = true)  (C : CX cX1_unlike RX1 G SX 4 1 (some FieldType.int) (some (.int res)) w V) (hrec4 : ∀ (x2 : Int32) (x3 : Int32), rec4 x2 x3 = some res → V w 4 [(0, .ref (G.2 58)), (1, .ref (G.2 b1)), (2, .int x2), (3, .int x3)] []) {x2 : Int32} {x3 : Int32} (h : fb_X1_unlike_4 b1 w rec4 x2 x3 = some res) : V w 4 [(0, .ref (G.2 58)), (1, .ref (G.2 b1)), (2, .int x2), (3, .int x3)] [] := by
  unfold fb_X1_unlike_4 at h
  refine r_iload_n (pc := 4) C dX1_unlike_4 rfl 3 rfl ?_
  refine r_aload_n (pc := 5) C dX1_unlike_5 rfl 0 rfl ?_
  refine gi_X1_34 (pc := 6) C dX1_unlike_6 kx_58 rfl ?_
  refine r_icmp_ge (pc := 9) C 33 dX1_unlike_9 (by decide) h (fun h => ?_) (fun h => ?_)
  · refine r_iload_n (pc := 33) C dX1_unlike_33 rfl 2 rfl ?_
    exact r_iretP (pc := 34) C dX1_unlike_34 h
  · refine r_aload_n (pc := 12) C dX1_unlike_12 rfl 0 rfl ?_
    refine gr_X1_9 (pc := 13) 59 C dX1_unlike_13 kx_58 rfl ?_
    refine r_iload_n (pc := 16) C dX1_unlike_16 rfl 3 rfl ?_
    refine r_ald (pc := 17) C dX1_unlike_17 h kx_59 (fun v1 h => ?_)
    refine r_aload_n (pc := 18) C dX1_unlike_18 rfl 1 rfl ?_
    refine r_iload_n (pc := 19) C dX1_unlike_19 rfl 3 rfl ?_
    refine r_ald (pc := 20) C dX1_unlike_20 h (cAr_0 hb1) (fun v2 h => ?_)
    refine r_icmp_eq (pc := 21) C 27 dX1_unlike_21 (by decide) h (fun h => ?_) (fun h => ?_)
    · exact r_sub C [0, 1, 2, 3] rfl (b_X1_unlike_27 hb1 C hrec4 h)
    · refine r_iinc (v := (x2 + (1:Int32))) (L' := [(2, .int (x2 + (1:Int32))), (0, .ref (G.2 58)), (1, .ref (G.2 b1)), (3, .int x3)]) (pc := 24) C dX1_unlike_24 2 rfl rfl (by decide) rfl ?_
      exact r_sub C [1, 2, 0, 3] rfl (b_X1_unlike_27 hb1 C hrec4 h)
def f_X1_unlike_4 (b1 : Nat) (w : Wd) : Int32 → Int32 → Option (Int32) := lp (fun _ _ => none) (fun rec => fb_X1_unlike_4 b1 w rec) FU
theorem b_X1_unlike_4 {G : Gv} {V : Vt} {b1 : Nat} {w : Wd} {res : Int32} (hb1 : isAr b1 = true)  (C : CX cX1_unlike RX1 G SX 4 1 (some FieldType.int) (some (.int res)) w V) : ∀ (x2 : Int32) (x3 : Int32), (f_X1_unlike_4 b1 w) x2 x3 = some res → V w 4 [(0, .ref (G.2 58)), (1, .ref (G.2 b1)), (2, .int x2), (3, .int x3)] [] :=
  lp_ind (P := fun (g : Int32 → Int32 → Option (Int32)) => ∀ (x2 : Int32) (x3 : Int32), g x2 x3 = some res → V w 4 [(0, .ref (G.2 58)), (1, .ref (G.2 b1)), (2, .int x2), (3, .int x3)] []) (fun _ _ h => by cases h) (fun g hg _ _ h => bb_X1_unlike_4 hb1 C hg h) FU
def f_X1_unlike (b1 : Nat) (w : Wd) : Option (Int32) := f_X1_unlike_4 b1 w (0:Int32) (0:Int32)
set_option maxRecDepth 20000 in
theorem b_X1_unlike_E {G : Gv} {V : Vt} {b1 : Nat} {w : Wd} {res : Int32} (hb1 : isAr b1 = true)  (C : CX cX1_unlike RX1 G SX 4 1 (some FieldType.int) (some (.int res)) w V) (h : f_X1_unlike b1 w = some res) : V w 0 [(0, .ref (G.2 58)), (1, .ref (G.2 b1))] [] := by
  unfold f_X1_unlike at h
  refine r_iconst (v := (0:Int32)) (pc := 0) C dX1_unlike_0 (by decide) ?_
  refine r_istore_n (L' := [(2, .int (0:Int32)), (0, .ref (G.2 58)), (1, .ref (G.2 b1))]) (pc := 1) C dX1_unlike_1 rfl (by decide) rfl ?_
  refine r_iconst (v := (0:Int32)) (pc := 2) C dX1_unlike_2 (by decide) ?_
  refine r_istore_n (L' := [(3, .int (0:Int32)), (2, .int (0:Int32)), (0, .ref (G.2 58)), (1, .ref (G.2 b1))]) (pc := 3) C dX1_unlike_3 rfl (by decide) rfl ?_
  exact r_sub C [2, 3, 1, 0] rfl (b_X1_unlike_4 hb1 C _ _ h)
theorem c_X1_unlike {G : Gv} {b1 : Nat} {w : Wd} {res : Int32} (hb1 : isAr b1 = true) (h : f_X1_unlike b1 w = some res) (l : Launch) : MC l yX1_unlike cX1_unlike 4 (some FieldType.int) 1 G SX w [.ref (G.2 58), .ref (G.2 b1)] (some (.int res)) w := mc_of (by decide +kernel) rfl (Nat.le_of_ble_eq_true rfl) rfl (fun V C => b_X1_unlike_E hb1 C h) l
def f_X2_write (b0 : Nat) (b1 : Nat) (w : Wd) : Option (Wd) := bd (f_X4_copyFrom (b0 + 1) b1 w) (fun q1 => some q1)
set_option maxRecDepth 20000 in
theorem b_X2_write_E {G : Gv} {V : Vt} {b0 : Nat} {b1 : Nat} {res : Wd} (hb0 : isLa b0 = true) (hb1 : isRo b1 = true)  (C : CX cX2_write RX2 G SX 2 3 none none res V) {w : Wd} (h : f_X2_write b0 b1 w = some res) : V w 0 [(0, .ref (G.2 b0)), (1, .ref (G.2 b1))] [] := by
  unfold f_X2_write at h
  refine r_aload_n (pc := 0) C dX2_write_0 rfl 0 rfl ?_
  refine gr_X2_14 (pc := 1) (b0 + 1) C dX2_write_1 (cLa_0 hb0) rfl ?_
  refine r_aload_n (pc := 4) C dX2_write_4 rfl 1 rfl ?_
  refine cv_X2_27 (pc := 5) C dX2_write_5 (sLa_1 hb0) hb1 h (by decide) (Nat.le_of_ble_eq_true rfl) (fun q1 h => ?_)
  exact r_vretE (pc := 8) C dX2_write_8 h
theorem c_X2_write {G : Gv} {b0 : Nat} {b1 : Nat} {w : Wd} {res : Wd} (hb0 : isLa b0 = true) (hb1 : isRo b1 = true) (h : f_X2_write b0 b1 w = some res) (l : Launch) : MC l yX2_write cX2_write 2 none 3 G SX w [.ref (G.2 b0), .ref (G.2 b1)] none res := mc_of (by decide +kernel) rfl (Nat.le_of_ble_eq_true rfl) rfl (fun V C => b_X2_write_E hb0 hb1 C h) l
def f_X2_withoutText (b0 : Nat) (w : Wd) (p1 : Int32) (p2 : Int32) : Option (Int32) := (if ¬ (w b0 0) = 0 then nz (10:Int32) (some ((1:Int32) + (p1 / (10:Int32)))) else some (p1 + p2))
set_option maxRecDepth 20000 in
theorem b_X2_withoutText_E {G : Gv} {V : Vt} {b0 : Nat} {w : Wd} {res : Int32} (hb0 : isLa b0 = true)  (C : CX cX2_withoutText RX2 G SX 3 1 (some FieldType.int) (some (.int res)) w V) {p1 : Int32} {p2 : Int32} (h : f_X2_withoutText b0 w p1 p2 = some res) : V w 0 [(0, .ref (G.2 b0)), (1, .int p1), (2, .int p2)] [] := by
  unfold f_X2_withoutText at h
  refine r_aload_n (pc := 0) C dX2_withoutText_0 rfl 0 rfl ?_
  refine gi_X2_23 (pc := 1) C dX2_withoutText_1 (cLa_0 hb0) rfl ?_
  refine r_if_ne (pc := 4) C 13 dX2_withoutText_4 (by decide) h (fun h => ?_) (fun h => ?_)
  · refine r_iconst (v := (1:Int32)) (pc := 13) C dX2_withoutText_13 (by decide) ?_
    refine r_iload_n (pc := 14) C dX2_withoutText_14 rfl 1 rfl ?_
    refine r_bipush (v := (10:Int32)) (pc := 15) C dX2_withoutText_15 (by decide) ?_
    refine r_nz_div (pc := 17) C dX2_withoutText_17 h (fun h => ?_)
    refine r_iadd (pc := 18) C dX2_withoutText_18 ?_
    exact r_iretP (pc := 19) C dX2_withoutText_19 h
  · refine r_iload_n (pc := 7) C dX2_withoutText_7 rfl 1 rfl ?_
    refine r_iload_n (pc := 8) C dX2_withoutText_8 rfl 2 rfl ?_
    refine r_iadd (pc := 9) C dX2_withoutText_9 ?_
    refine r_goto (pc := 10) C 19 dX2_withoutText_10 (by decide) ?_
    exact r_iretP (pc := 19) C dX2_withoutText_19 h
theorem c_X2_withoutText {G : Gv} {b0 : Nat} {p1 : Int32} {p2 : Int32} {w : Wd} {res : Int32} (hb0 : isLa b0 = true) (h : f_X2_withoutText b0 w p1 p2 = some res) (l : Launch) : MC l yX2_withoutText cX2_withoutText 3 (some FieldType.int) 1 G SX w [.ref (G.2 b0), .int p1, .int p2] (some (.int res)) w := mc_of (by decide +kernel) rfl (Nat.le_of_ble_eq_true rfl) rfl (fun V C => b_X2_withoutText_E hb0 C h) l
def f_X4_clear (b0 : Nat) (w : Wd) : Option (Wd) := wl (updW w b0 1 (0:Int32)) (fun w1 => some w1)
set_option maxRecDepth 20000 in
theorem b_X4_clear_E {G : Gv} {V : Vt} {b0 : Nat} {res : Wd} (hb0 : isRo b0 = true)  (C : CX cX4_clear RX4 G SX 1 1 none none res V) {w : Wd} (h : f_X4_clear b0 w = some res) : V w 0 [(0, .ref (G.2 b0))] [] := by
  unfold f_X4_clear at h
  refine r_aload_n (pc := 0) C dX4_clear_0 rfl 0 rfl ?_
  refine r_iconst (v := (0:Int32)) (pc := 1) C dX4_clear_1 (by decide) ?_
  refine pi_X4_19 (pc := 2) C dX4_clear_2 (cRo_0 hb0) rfl h (fun w1 h => ?_)
  exact r_vretE (pc := 5) C dX4_clear_5 h
theorem c_X4_clear {G : Gv} {b0 : Nat} {w : Wd} {res : Wd} (hb0 : isRo b0 = true) (h : f_X4_clear b0 w = some res) (l : Launch) : MC l yX4_clear cX4_clear 1 none 1 G SX w [.ref (G.2 b0)] none res := mc_of (by decide +kernel) rfl (Nat.le_of_ble_eq_true rfl) rfl (fun V C => b_X4_clear_E hb0 C h) l
def f_X4_add (b0 : Nat) (p1 : Int32) (w : Wd) : Option (Wd) := (if (nI (rlen b0)) ≤ (w b0 1) then some w else ast w (b0 + 1) (rlen b0) (w b0 1) p1 (fun w1 => wl (updW w1 b0 1 ((w1 b0 1) + (1:Int32))) (fun w2 => some w2)))
set_option maxRecDepth 20000 in
theorem b_X4_add_E {G : Gv} {V : Vt} {b0 : Nat} {res : Wd} (hb0 : isRo b0 = true)  (C : CX cX4_add RX4 G SX 2 1 none none res V) {p1 : Int32} {w : Wd} (h : f_X4_add b0 p1 w = some res) : V w 0 [(0, .ref (G.2 b0)), (1, .int p1)] [] := by
  unfold f_X4_add at h
  refine r_aload_n (pc := 0) C dX4_add_0 rfl 0 rfl ?_
  refine gi_X4_19 (pc := 1) C dX4_add_1 (cRo_0 hb0) rfl ?_
  refine r_aload_n (pc := 4) C dX4_add_4 rfl 0 rfl ?_
  refine gr_X4_13 (pc := 5) (b0 + 1) C dX4_add_5 (cRo_0 hb0) rfl ?_
  refine r_alen (pc := 8) C dX4_add_8 (cRo_1 hb0) ?_
  refine r_icmp_ge (pc := 9) C 32 dX4_add_9 (by decide) h (fun h => ?_) (fun h => ?_)
  · exact r_vretE (pc := 32) C dX4_add_32 h
  · refine r_aload_n (pc := 12) C dX4_add_12 rfl 0 rfl ?_
    refine gr_X4_13 (pc := 13) (b0 + 1) C dX4_add_13 (cRo_0 hb0) rfl ?_
    refine r_aload_n (pc := 16) C dX4_add_16 rfl 0 rfl ?_
    refine gi_X4_19 (pc := 17) C dX4_add_17 (cRo_0 hb0) rfl ?_
    refine r_iload_n (pc := 20) C dX4_add_20 rfl 1 rfl ?_
    refine r_ast (pc := 21) C dX4_add_21 h (cRo_1 hb0) (fun w1 h => ?_)
    refine r_aload_n (pc := 22) C dX4_add_22 rfl 0 rfl ?_
    refine r_dup (pc := 23) C dX4_add_23 rfl ?_
    refine gi_X4_19 (pc := 24) C dX4_add_24 (cRo_0 hb0) rfl ?_
    refine r_iconst (v := (1:Int32)) (pc := 27) C dX4_add_27 (by decide) ?_
    refine r_iadd (pc := 28) C dX4_add_28 ?_
    refine pi_X4_19 (pc := 29) C dX4_add_29 (cRo_0 hb0) rfl h (fun w2 h => ?_)
    exact r_vretE (pc := 32) C dX4_add_32 h
theorem c_X4_add {G : Gv} {b0 : Nat} {p1 : Int32} {w : Wd} {res : Wd} (hb0 : isRo b0 = true) (h : f_X4_add b0 p1 w = some res) (l : Launch) : MC l yX4_add cX4_add 2 none 1 G SX w [.ref (G.2 b0), .int p1] none res := mc_of (by decide +kernel) rfl (Nat.le_of_ble_eq_true rfl) rfl (fun V C => b_X4_add_E hb0 C h) l
def f_X2_joined_92 : Option (Int32) := some (1:Int32)
set_option maxRecDepth 20000 in
theorem b_X2_joined_92 {G : Gv} {V : Vt} {w : Wd} {res : Int32}  (C : CX cX2_joined RX2 G SX 3 1 (some FieldType.int) (some (.int res)) w V) (h : f_X2_joined_92 = some res) : V w 92 [] [] := by
  unfold f_X2_joined_92 at h
  refine r_iconst (v := (1:Int32)) (pc := 92) C dX2_joined_92 (by decide) ?_
  refine r_goto (pc := 93) C 97 dX2_joined_93 (by decide) ?_
  exact r_iretP (pc := 97) C dX2_joined_97 h
def f_X2_joined (p0 : Int32) (p1 : Int32) (p2 : Int32) : Option (Int32) := (if p0 = (38:Int32) then (if p1 = 0 then some (0:Int32) else (if p2 = 0 then some (0:Int32) else some (1:Int32))) else (if p0 = (42:Int32) then some (p1 * p2) else (if p0 = (43:Int32) then some (p1 + p2) else (if p0 = (45:Int32) then some (p1 - p2) else (if p0 = (47:Int32) then (if ¬ p2 = 0 then nz p2 (some (p1 / p2)) else some (0:Int32)) else (if p0 = (60:Int32) then (if p2 ≤ p1 then some (0:Int32) else some (1:Int32)) else (if p0 = (61:Int32) then (if ¬ p1 = p2 then some (0:Int32) else some (1:Int32)) else (if p0 = (62:Int32) then (if p1 ≤ p2 then some (0:Int32) else some (1:Int32)) else (if p0 = (124:Int32) then (if ¬ p1 = 0 then f_X2_joined_92 else (if p2 = 0 then some (0:Int32) else f_X2_joined_92)) else (if ¬ p2 = 0 then nz p2 (some (p1 - p1 / p2 * p2)) else some (0:Int32)))))))))))
set_option maxRecDepth 20000 in
theorem b_X2_joined_E {G : Gv} {V : Vt} {w : Wd} {res : Int32}  (C : CX cX2_joined RX2 G SX 3 1 (some FieldType.int) (some (.int res)) w V) {p0 : Int32} {p1 : Int32} {p2 : Int32} (h : f_X2_joined p0 p1 p2 = some res) : V w 0 [(0, .int p0), (1, .int p1), (2, .int p2)] [] := by
  unfold f_X2_joined at h
  refine r_iload_n (pc := 0) C dX2_joined_0 rfl 0 rfl ?_
  refine r_lsw (pc := 1) C (38:Int32) 98 dX2_joined_1 rfl rfl (by decide) h (fun h => ?_) (fun n0 h => ?_)
  · refine r_iload_n (pc := 98) C dX2_joined_98 rfl 1 rfl ?_
    refine r_if_eq (pc := 99) C 110 dX2_joined_99 (by decide) h (fun h => ?_) (fun h => ?_)
    · refine r_iconst (v := (0:Int32)) (pc := 110) C dX2_joined_110 (by decide) ?_
      exact r_iretP (pc := 111) C dX2_joined_111 h
    · refine r_iload_n (pc := 102) C dX2_joined_102 rfl 2 rfl ?_
      refine r_if_eq (pc := 103) C 110 dX2_joined_103 (by decide) h (fun h => ?_) (fun h => ?_)
      · refine r_iconst (v := (0:Int32)) (pc := 110) C dX2_joined_110 (by decide) ?_
        exact r_iretP (pc := 111) C dX2_joined_111 h
      · refine r_iconst (v := (1:Int32)) (pc := 106) C dX2_joined_106 (by decide) ?_
        refine r_goto (pc := 107) C 111 dX2_joined_107 (by decide) ?_
        exact r_iretP (pc := 111) C dX2_joined_111 h
  refine r_lsw (pc := 1) C (42:Int32) 153 dX2_joined_1 rfl rfl (by decide) h (fun h => ?_) (fun n1 h => ?_)
  · refine r_iload_n (pc := 153) C dX2_joined_153 rfl 1 rfl ?_
    refine r_iload_n (pc := 154) C dX2_joined_154 rfl 2 rfl ?_
    refine r_imul (pc := 155) C dX2_joined_155 ?_
    exact r_iretP (pc := 156) C dX2_joined_156 h
  refine r_lsw (pc := 1) C (43:Int32) 145 dX2_joined_1 rfl rfl (by decide) h (fun h => ?_) (fun n2 h => ?_)
  · refine r_iload_n (pc := 145) C dX2_joined_145 rfl 1 rfl ?_
    refine r_iload_n (pc := 146) C dX2_joined_146 rfl 2 rfl ?_
    refine r_iadd (pc := 147) C dX2_joined_147 ?_
    exact r_iretP (pc := 148) C dX2_joined_148 h
  refine r_lsw (pc := 1) C (45:Int32) 149 dX2_joined_1 rfl rfl (by decide) h (fun h => ?_) (fun n3 h => ?_)
  · refine r_iload_n (pc := 149) C dX2_joined_149 rfl 1 rfl ?_
    refine r_iload_n (pc := 150) C dX2_joined_150 rfl 2 rfl ?_
    refine r_isub (pc := 151) C dX2_joined_151 ?_
    exact r_iretP (pc := 152) C dX2_joined_152 h
  refine r_lsw (pc := 1) C (47:Int32) 157 dX2_joined_1 rfl rfl (by decide) h (fun h => ?_) (fun n4 h => ?_)
  · refine r_iload_n (pc := 157) C dX2_joined_157 rfl 2 rfl ?_
    refine r_if_ne (pc := 158) C 165 dX2_joined_158 (by decide) h (fun h => ?_) (fun h => ?_)
    · refine r_iload_n (pc := 165) C dX2_joined_165 rfl 1 rfl ?_
      refine r_iload_n (pc := 166) C dX2_joined_166 rfl 2 rfl ?_
      refine r_nz_div (pc := 167) C dX2_joined_167 h (fun h => ?_)
      exact r_iretP (pc := 168) C dX2_joined_168 h
    · refine r_iconst (v := (0:Int32)) (pc := 161) C dX2_joined_161 (by decide) ?_
      refine r_goto (pc := 162) C 168 dX2_joined_162 (by decide) ?_
      exact r_iretP (pc := 168) C dX2_joined_168 h
  refine r_lsw (pc := 1) C (60:Int32) 112 dX2_joined_1 rfl rfl (by decide) h (fun h => ?_) (fun n5 h => ?_)
  · refine r_iload_n (pc := 112) C dX2_joined_112 rfl 1 rfl ?_
    refine r_iload_n (pc := 113) C dX2_joined_113 rfl 2 rfl ?_
    refine r_icmp_ge (pc := 114) C 121 dX2_joined_114 (by decide) h (fun h => ?_) (fun h => ?_)
    · refine r_iconst (v := (0:Int32)) (pc := 121) C dX2_joined_121 (by decide) ?_
      exact r_iretP (pc := 122) C dX2_joined_122 h
    · refine r_iconst (v := (1:Int32)) (pc := 117) C dX2_joined_117 (by decide) ?_
      refine r_goto (pc := 118) C 122 dX2_joined_118 (by decide) ?_
      exact r_iretP (pc := 122) C dX2_joined_122 h
  refine r_lsw (pc := 1) C (61:Int32) 123 dX2_joined_1 rfl rfl (by decide) h (fun h => ?_) (fun n6 h => ?_)
  · refine r_iload_n (pc := 123) C dX2_joined_123 rfl 1 rfl ?_
    refine r_iload_n (pc := 124) C dX2_joined_124 rfl 2 rfl ?_
    refine r_icmp_ne (pc := 125) C 132 dX2_joined_125 (by decide) h (fun h => ?_) (fun h => ?_)
    · refine r_iconst (v := (0:Int32)) (pc := 132) C dX2_joined_132 (by decide) ?_
      exact r_iretP (pc := 133) C dX2_joined_133 h
    · refine r_iconst (v := (1:Int32)) (pc := 128) C dX2_joined_128 (by decide) ?_
      refine r_goto (pc := 129) C 133 dX2_joined_129 (by decide) ?_
      exact r_iretP (pc := 133) C dX2_joined_133 h
  refine r_lsw (pc := 1) C (62:Int32) 134 dX2_joined_1 rfl rfl (by decide) h (fun h => ?_) (fun n7 h => ?_)
  · refine r_iload_n (pc := 134) C dX2_joined_134 rfl 1 rfl ?_
    refine r_iload_n (pc := 135) C dX2_joined_135 rfl 2 rfl ?_
    refine r_icmp_le (pc := 136) C 143 dX2_joined_136 (by decide) h (fun h => ?_) (fun h => ?_)
    · refine r_iconst (v := (0:Int32)) (pc := 143) C dX2_joined_143 (by decide) ?_
      exact r_iretP (pc := 144) C dX2_joined_144 h
    · refine r_iconst (v := (1:Int32)) (pc := 139) C dX2_joined_139 (by decide) ?_
      refine r_goto (pc := 140) C 144 dX2_joined_140 (by decide) ?_
      exact r_iretP (pc := 144) C dX2_joined_144 h
  refine r_lsw (pc := 1) C (124:Int32) 84 dX2_joined_1 rfl rfl (by decide) h (fun h => ?_) (fun n8 h => ?_)
  · refine r_iload_n (pc := 84) C dX2_joined_84 rfl 1 rfl ?_
    refine r_if_ne (pc := 85) C 92 dX2_joined_85 (by decide) h (fun h => ?_) (fun h => ?_)
    · exact r_sub C [] rfl (b_X2_joined_92 C h)
    · refine r_iload_n (pc := 88) C dX2_joined_88 rfl 2 rfl ?_
      refine r_if_eq (pc := 89) C 96 dX2_joined_89 (by decide) h (fun h => ?_) (fun h => ?_)
      · refine r_iconst (v := (0:Int32)) (pc := 96) C dX2_joined_96 (by decide) ?_
        exact r_iretP (pc := 97) C dX2_joined_97 h
      · exact r_sub C [] rfl (b_X2_joined_92 C h)
  refine r_lswD (pc := 1) C 169 dX2_joined_1 rfl (by have z0 := toInt_ne n0; have z1 := toInt_ne n1; have z2 := toInt_ne n2; have z3 := toInt_ne n3; have z4 := toInt_ne n4; have z5 := toInt_ne n5; have z6 := toInt_ne n6; have z7 := toInt_ne n7; have z8 := toInt_ne n8; exact lsw_dflt (by intro q hq; simp only [List.mem_cons, List.not_mem_nil, or_false] at hq; rcases hq with rfl | rfl | rfl | rfl | rfl | rfl | rfl | rfl | rfl <;> (intro e; simp only [Int32.reduceToInt, ne_eq] at *; omega))) (by decide) ?_
  refine r_iload_n (pc := 169) C dX2_joined_169 rfl 2 rfl ?_
  refine r_if_ne (pc := 170) C 177 dX2_joined_170 (by decide) h (fun h => ?_) (fun h => ?_)
  · refine r_iload_n (pc := 177) C dX2_joined_177 rfl 1 rfl ?_
    refine r_iload_n (pc := 178) C dX2_joined_178 rfl 2 rfl ?_
    refine r_nz_rem (pc := 179) C dX2_joined_179 h (fun h => ?_)
    exact r_iretP (pc := 180) C dX2_joined_180 h
  · refine r_iconst (v := (0:Int32)) (pc := 173) C dX2_joined_173 (by decide) ?_
    refine r_goto (pc := 174) C 180 dX2_joined_174 (by decide) ?_
    exact r_iretP (pc := 180) C dX2_joined_180 h
theorem c_X2_joined {G : Gv} {p0 : Int32} {p1 : Int32} {p2 : Int32} {w : Wd} {res : Int32} (h : f_X2_joined p0 p1 p2 = some res) (l : Launch) : MC l yX2_joined cX2_joined 3 (some FieldType.int) 1 G SX w [.int p0, .int p1, .int p2] (some (.int res)) w := mc_of (by decide +kernel) rfl (Nat.le_of_ble_eq_true rfl) rfl (fun V C => b_X2_joined_E C h) l
theorem cv_X2_50 {cc : ByteArray} {G : Gv} {n hc : Nat} {rt : Option FieldType} {rv : Option Value} {w0 : Wd} {V : Vt} {w : Wd} {pc : Nat} {L : List (Nat × Value)} {rest : List Value} {α : Type} {res : α} {b0 : Nat} {K : Wd → Option α} (C : CX cc RX2 G SX n hc rt rv w0 V) (hd : decode cc pc = .ok (.invokevirtual 50, 3)) (hb0 : isRo b0 = true) (h : bd (f_X4_clear b0 w) K = some res) (hR : 1 + 1 ≤ hc) (hr : (rest.map fun v => v.category).sum ≤ 8) (kk : ∀ q, K q = some res → V q (pc + 3) L (rest)) : V w pc L (.ref (G.2 b0) :: rest) := r_callV (As := []) (rest := rest) (rvf := fun q => none) (wf := fun q => q) C hd h ql_X2_50 qi_X4_clear qs_X4_clear qn_X4 qc_X4_clear ⟨rfl, by decide +kernel, by decide +kernel, (by decide +kernel : (parseMethodDescriptor yX4_clear.desc).map (fun d => d.parameters.length) = some 0)⟩ ⟨hR, by decide⟩ (cRo_0 hb0) rfl (fun q hq l => c_X4_clear hb0 hq l) rfl hr kk
theorem cv_X2_57 {cc : ByteArray} {G : Gv} {n hc : Nat} {rt : Option FieldType} {rv : Option Value} {w0 : Wd} {V : Vt} {w : Wd} {pc : Nat} {L : List (Nat × Value)} {rest : List Value} {α : Type} {res : α} {b0 : Nat} {p1 : Int32} {K : Wd → Option α} (C : CX cc RX2 G SX n hc rt rv w0 V) (hd : decode cc pc = .ok (.invokevirtual 57, 3)) (hb0 : isRo b0 = true) (h : bd (f_X4_add b0 p1 w) K = some res) (hR : 1 + 1 ≤ hc) (hr : (rest.map fun v => v.category).sum ≤ 8) (kk : ∀ q, K q = some res → V q (pc + 3) L (rest)) : V w pc L (.int p1 :: .ref (G.2 b0) :: rest) := r_callV (As := [.int p1]) (rest := rest) (rvf := fun q => none) (wf := fun q => q) C hd h ql_X2_57 qi_X4_add qs_X4_add qn_X4 qc_X4_add ⟨rfl, by decide +kernel, by decide +kernel, (by decide +kernel : (parseMethodDescriptor yX4_add.desc).map (fun d => d.parameters.length) = some 1)⟩ ⟨hR, by decide⟩ (cRo_0 hb0) rfl (fun q hq l => c_X4_add hb0 hq l) rfl hr kk
theorem cv_X2_60 {cc : ByteArray} {G : Gv} {n hc : Nat} {rt : Option FieldType} {rv : Option Value} {w0 : Wd} {V : Vt} {w : Wd} {pc : Nat} {L : List (Nat × Value)} {rest : List Value} {α : Type} {res : α} {p0 : Int32} {p1 : Int32} {p2 : Int32} {K : Int32 → Option α} (C : CX cc RX2 G SX n hc rt rv w0 V) (hd : decode cc pc = .ok (.invokestatic 60, 3)) (h : bd (f_X2_joined p0 p1 p2) K = some res) (hR : 1 + 1 ≤ hc) (hr : (rest.map fun v => v.category).sum ≤ 8) (kk : ∀ q, K q = some res → V w (pc + 3) L (.int q :: rest)) : V w pc L (.int p2 :: .int p1 :: .int p0 :: rest) := r_callS (As := [.int p0, .int p1, .int p2]) (rest := rest) (rvf := fun q => (some (.int q))) (wf := fun q => w) C hd h ql_X2_60 qt_X2_joined qn_X2 qc_X2_joined ⟨by decide +kernel, by decide +kernel, (by decide +kernel : (parseMethodDescriptor yX2_joined.desc).map (fun d => d.parameters.length) = some 3)⟩ ⟨hR, by decide⟩ (fun q hq l => c_X2_joined hq l) rfl hr kk
def f_X2_worked_205 (b0 : Nat) (w : Wd) : Option (Int32 × Wd) := (if (w (b0 + 3) 1) ≤ 0 then some ((0:Int32), w) else ald w (b0 + 4) 50 (0:Int32) (fun v1 => some (v1, w)))
set_option maxRecDepth 20000 in
theorem b_X2_worked_205 {G : Gv} {V : Vt} {b0 : Nat} {res : Int32 × Wd} (hb0 : isLa b0 = true)  (C : CX cX2_worked RX2 G SX 7 2 (some FieldType.int) (some (.int res.1)) res.2 V) {w : Wd} (h : f_X2_worked_205 b0 w = some res) : V w 205 [(0, .ref (G.2 b0))] [] := by
  unfold f_X2_worked_205 at h
  refine r_aload_n (pc := 205) C dX2_worked_205 rfl 0 rfl ?_
  refine gr_X2_20 (pc := 206) (b0 + 3) C dX2_worked_206 (cLa_0 hb0) rfl ?_
  refine gi_X2_31 (pc := 209) C dX2_worked_209 (cLa_3 hb0) rfl ?_
  refine r_if_le (pc := 212) C 227 dX2_worked_212 (by decide) h (fun h => ?_) (fun h => ?_)
  · refine r_iconst (v := (0:Int32)) (pc := 227) C dX2_worked_227 (by decide) ?_
    exact r_iretE (pc := 228) C dX2_worked_228 h
  · refine r_aload_n (pc := 215) C dX2_worked_215 rfl 0 rfl ?_
    refine gr_X2_20 (pc := 216) (b0 + 3) C dX2_worked_216 (cLa_0 hb0) rfl ?_
    refine gr_X2_53 (pc := 219) (b0 + 4) C dX2_worked_219 (cLa_3 hb0) rfl ?_
    refine r_iconst (v := (0:Int32)) (pc := 222) C dX2_worked_222 (by decide) ?_
    refine r_ald (pc := 223) C dX2_worked_223 h (cLa_4 hb0) (fun v1 h => ?_)
    refine r_goto (pc := 224) C 228 dX2_worked_224 (by decide) ?_
    exact r_iretE (pc := 228) C dX2_worked_228 h
def f_X2_worked_199 (b0 : Nat) (rec10 : Int32 → Int32 → Int32 → Int32 → Wd → Option (Int32 × Wd)) (x1 : Int32) (x2 : Int32) (x3 : Int32) (x4 : Int32) (w : Wd) : Option (Int32 × Wd) := rec10 x1 x2 x3 (x4 + (1:Int32)) w
set_option maxRecDepth 20000 in
theorem b_X2_worked_199 {G : Gv} {V : Vt} {b0 : Nat} {rec10 : Int32 → Int32 → Int32 → Int32 → Wd → Option (Int32 × Wd)} {res : Int32 × Wd} (hb0 : isLa b0 = true)  (C : CX cX2_worked RX2 G SX 7 2 (some FieldType.int) (some (.int res.1)) res.2 V) (hrec10 : ∀ (x1 : Int32) (x2 : Int32) (x3 : Int32) (x4 : Int32) (w : Wd), rec10 x1 x2 x3 x4 w = some res → V w 10 [(0, .ref (G.2 b0)), (1, .int x1), (2, .int x2), (3, .int x3), (4, .int x4)] []) {x1 : Int32} {x2 : Int32} {x3 : Int32} {x4 : Int32} {w : Wd} (h : f_X2_worked_199 b0 rec10 x1 x2 x3 x4 w = some res) : V w 199 [(0, .ref (G.2 b0)), (1, .int x1), (2, .int x2), (3, .int x3), (4, .int x4)] [] := by
  unfold f_X2_worked_199 at h
  refine r_iinc (v := (x4 + (1:Int32))) (L' := [(4, .int (x4 + (1:Int32))), (0, .ref (G.2 b0)), (1, .int x1), (2, .int x2), (3, .int x3)]) (pc := 199) C dX2_worked_199 4 rfl rfl (by decide) rfl ?_
  refine r_goto (pc := 202) C 10 dX2_worked_202 (by decide) ?_
  exact r_sub C [1, 2, 3, 4, 0] rfl (hrec10 _ _ _ _ _ h)
def f_X2_worked_144 (b0 : Nat) (rec10 : Int32 → Int32 → Int32 → Int32 → Wd → Option (Int32 × Wd)) (x1 : Int32) (x2 : Int32) (x3 : Int32) (x4 : Int32) (x5 : Int32) (x6 : Int32) (w : Wd) : Option (Int32 × Wd) := (if x6 < (1:Int32) then f_X2_worked_199 b0 rec10 x1 x2 x3 x4 w else ald w (b0 + 4) 50 (x6 - (1:Int32)) (fun v1 => ald w (b0 + 4) 50 x6 (fun v2 => bd (f_X2_joined (-x5) v1 v2) (fun q3 => ast w (b0 + 4) 50 (x6 - (1:Int32)) q3 (fun w4 => wl (updW w4 (b0 + 3) 1 x6) (fun w5 => f_X2_worked_199 b0 rec10 x1 x2 x3 x4 w5))))))
set_option maxRecDepth 20000 in
theorem b_X2_worked_144 {G : Gv} {V : Vt} {b0 : Nat} {rec10 : Int32 → Int32 → Int32 → Int32 → Wd → Option (Int32 × Wd)} {res : Int32 × Wd} (hb0 : isLa b0 = true)  (C : CX cX2_worked RX2 G SX 7 2 (some FieldType.int) (some (.int res.1)) res.2 V) (hrec10 : ∀ (x1 : Int32) (x2 : Int32) (x3 : Int32) (x4 : Int32) (w : Wd), rec10 x1 x2 x3 x4 w = some res → V w 10 [(0, .ref (G.2 b0)), (1, .int x1), (2, .int x2), (3, .int x3), (4, .int x4)] []) {x1 : Int32} {x2 : Int32} {x3 : Int32} {x4 : Int32} {x5 : Int32} {x6 : Int32} {w : Wd} (h : f_X2_worked_144 b0 rec10 x1 x2 x3 x4 x5 x6 w = some res) : V w 144 [(0, .ref (G.2 b0)), (1, .int x1), (2, .int x2), (3, .int x3), (4, .int x4), (5, .int x5), (6, .int x6)] [] := by
  unfold f_X2_worked_144 at h
  refine r_iload (pc := 144) C dX2_worked_144 6 rfl ?_
  refine r_iconst (v := (1:Int32)) (pc := 146) C dX2_worked_146 (by decide) ?_
  refine r_icmp_lt (pc := 147) C 199 dX2_worked_147 (by decide) h (fun h => ?_) (fun h => ?_)
  · exact r_sub C [0, 1, 2, 3, 4] rfl (b_X2_worked_199 hb0 C hrec10 h)
  · refine r_aload_n (pc := 150) C dX2_worked_150 rfl 0 rfl ?_
    refine gr_X2_20 (pc := 151) (b0 + 3) C dX2_worked_151 (cLa_0 hb0) rfl ?_
    refine gr_X2_53 (pc := 154) (b0 + 4) C dX2_worked_154 (cLa_3 hb0) rfl ?_
    refine r_iload (pc := 157) C dX2_worked_157 6 rfl ?_
    refine r_iconst (v := (1:Int32)) (pc := 159) C dX2_worked_159 (by decide) ?_
    refine r_isub (pc := 160) C dX2_worked_160 ?_
    refine r_iload (pc := 161) C dX2_worked_161 5 rfl ?_
    refine r_ineg (pc := 163) C dX2_worked_163 ?_
    refine r_aload_n (pc := 164) C dX2_worked_164 rfl 0 rfl ?_
    refine gr_X2_20 (pc := 165) (b0 + 3) C dX2_worked_165 (cLa_0 hb0) rfl ?_
    refine gr_X2_53 (pc := 168) (b0 + 4) C dX2_worked_168 (cLa_3 hb0) rfl ?_
    refine r_iload (pc := 171) C dX2_worked_171 6 rfl ?_
    refine r_iconst (v := (1:Int32)) (pc := 173) C dX2_worked_173 (by decide) ?_
    refine r_isub (pc := 174) C dX2_worked_174 ?_
    refine r_ald (pc := 175) C dX2_worked_175 h (cLa_4 hb0) (fun v1 h => ?_)
    refine r_aload_n (pc := 176) C dX2_worked_176 rfl 0 rfl ?_
    refine gr_X2_20 (pc := 177) (b0 + 3) C dX2_worked_177 (cLa_0 hb0) rfl ?_
    refine gr_X2_53 (pc := 180) (b0 + 4) C dX2_worked_180 (cLa_3 hb0) rfl ?_
    refine r_iload (pc := 183) C dX2_worked_183 6 rfl ?_
    refine r_ald (pc := 185) C dX2_worked_185 h (cLa_4 hb0) (fun v2 h => ?_)
    refine cv_X2_60 (pc := 186) C dX2_worked_186  h (by decide) (Nat.le_of_ble_eq_true rfl) (fun q3 h => ?_)
    refine r_ast (pc := 189) C dX2_worked_189 h (cLa_4 hb0) (fun w4 h => ?_)
    refine r_aload_n (pc := 190) C dX2_worked_190 rfl 0 rfl ?_
    refine gr_X2_20 (pc := 191) (b0 + 3) C dX2_worked_191 (cLa_0 hb0) rfl ?_
    refine r_iload (pc := 194) C dX2_worked_194 6 rfl ?_
    refine pi_X2_31 (pc := 196) C dX2_worked_196 (cLa_3 hb0) rfl h (fun w5 h => ?_)
    exact r_sub C [0, 1, 2, 3, 4] rfl (b_X2_worked_199 hb0 C hrec10 h)
def f_X2_worked_140 (b0 : Nat) (rec10 : Int32 → Int32 → Int32 → Int32 → Wd → Option (Int32 × Wd)) (x1 : Int32) (x2 : Int32) (x3 : Int32) (x4 : Int32) (t0 : Int32) (t1 : Int32) (w : Wd) : Option (Int32 × Wd) := ast w (b0 + 4) 50 t1 t0 (fun w1 => f_X2_worked_199 b0 rec10 x1 x2 x3 x4 w1)
set_option maxRecDepth 20000 in
theorem b_X2_worked_140 {G : Gv} {V : Vt} {b0 : Nat} {rec10 : Int32 → Int32 → Int32 → Int32 → Wd → Option (Int32 × Wd)} {res : Int32 × Wd} (hb0 : isLa b0 = true)  (C : CX cX2_worked RX2 G SX 7 2 (some FieldType.int) (some (.int res.1)) res.2 V) (hrec10 : ∀ (x1 : Int32) (x2 : Int32) (x3 : Int32) (x4 : Int32) (w : Wd), rec10 x1 x2 x3 x4 w = some res → V w 10 [(0, .ref (G.2 b0)), (1, .int x1), (2, .int x2), (3, .int x3), (4, .int x4)] []) {x1 : Int32} {x2 : Int32} {x3 : Int32} {x4 : Int32} {t0 : Int32} {t1 : Int32} {w : Wd} (h : f_X2_worked_140 b0 rec10 x1 x2 x3 x4 t0 t1 w = some res) : V w 140 [(0, .ref (G.2 b0)), (1, .int x1), (2, .int x2), (3, .int x3), (4, .int x4)] [.int t0, .int t1, .ref (G.2 (b0 + 4))] := by
  unfold f_X2_worked_140 at h
  refine r_ast (pc := 140) C dX2_worked_140 h (cLa_4 hb0) (fun w1 h => ?_)
  refine r_goto (pc := 141) C 199 dX2_worked_141 (by decide) ?_
  exact r_sub C [0, 1, 2, 3, 4] rfl (b_X2_worked_199 hb0 C hrec10 h)
def f_X2_worked_95 (b0 : Nat) (rec10 : Int32 → Int32 → Int32 → Int32 → Wd → Option (Int32 × Wd)) (x1 : Int32) (x2 : Int32) (x3 : Int32) (x4 : Int32) (t0 : Int32) (w : Wd) : Option (Int32 × Wd) := bd (f_X4_add (b0 + 3) t0 w) (fun q1 => f_X2_worked_199 b0 rec10 x1 x2 x3 x4 q1)
set_option maxRecDepth 20000 in
theorem b_X2_worked_95 {G : Gv} {V : Vt} {b0 : Nat} {rec10 : Int32 → Int32 → Int32 → Int32 → Wd → Option (Int32 × Wd)} {res : Int32 × Wd} (hb0 : isLa b0 = true)  (C : CX cX2_worked RX2 G SX 7 2 (some FieldType.int) (some (.int res.1)) res.2 V) (hrec10 : ∀ (x1 : Int32) (x2 : Int32) (x3 : Int32) (x4 : Int32) (w : Wd), rec10 x1 x2 x3 x4 w = some res → V w 10 [(0, .ref (G.2 b0)), (1, .int x1), (2, .int x2), (3, .int x3), (4, .int x4)] []) {x1 : Int32} {x2 : Int32} {x3 : Int32} {x4 : Int32} {t0 : Int32} {w : Wd} (h : f_X2_worked_95 b0 rec10 x1 x2 x3 x4 t0 w = some res) : V w 95 [(0, .ref (G.2 b0)), (1, .int x1), (2, .int x2), (3, .int x3), (4, .int x4)] [.int t0, .ref (G.2 (b0 + 3))] := by
  unfold f_X2_worked_95 at h
  refine cv_X2_57 (pc := 95) C dX2_worked_95 (sLa_3 hb0) h (by decide) (Nat.le_of_ble_eq_true rfl) (fun q1 h => ?_)
  refine r_goto (pc := 98) C 199 dX2_worked_98 (by decide) ?_
  exact r_sub C [0, 1, 2, 3, 4] rfl (b_X2_worked_199 hb0 C hrec10 h)
def fb_X2_worked_10 (b0 : Nat) (rec10 : Int32 → Int32 → Int32 → Int32 → Wd → Option (Int32 × Wd)) (x1 : Int32) (x2 : Int32) (x3 : Int32) (x4 : Int32) (w : Wd) : Option (Int32 × Wd) := (if (w (b0 + 1) 1) ≤ x4 then f_X2_worked_205 b0 w else ald w (b0 + 2) 50 x4 (fun v1 => lv ((w (b0 + 3) 1) - (1:Int32)) (fun v2 => (if v1 < 0 then (if v1 < (-3:Int32) then (if ¬ v1 = (-33:Int32) then f_X2_worked_144 b0 rec10 x1 x2 x3 x4 v1 v2 w else (if v2 < 0 then f_X2_worked_144 b0 rec10 x1 x2 x3 x4 v1 v2 w else ald w (b0 + 4) 50 v2 (fun v3 => (if ¬ v3 = 0 then f_X2_worked_140 b0 rec10 x1 x2 x3 x4 (0:Int32) v2 w else f_X2_worked_140 b0 rec10 x1 x2 x3 x4 (1:Int32) v2 w)))) else (if ¬ v1 = (-1:Int32) then (if ¬ v1 = (-2:Int32) then f_X2_worked_95 b0 rec10 x1 x2 x3 x4 x3 w else f_X2_worked_95 b0 rec10 x1 x2 x3 x4 x2 w) else f_X2_worked_95 b0 rec10 x1 x2 x3 x4 x1 w)) else bd (f_X4_add (b0 + 3) v1 w) (fun q4 => f_X2_worked_199 b0 rec10 x1 x2 x3 x4 q4)))))
set_option maxRecDepth 20000 in
theorem bb_X2_worked_10 {G : Gv} {V : Vt} {b0 : Nat} {rec10 : Int32 → Int32 → Int32 → Int32 → Wd → Option (Int32 × Wd)} {res : Int32 × Wd} (hb0 : isLa b0 = true)  (C : CX cX2_worked RX2 G SX 7 2 (some FieldType.int) (some (.int res.1)) res.2 V) (hrec10 : ∀ (x1 : Int32) (x2 : Int32) (x3 : Int32) (x4 : Int32) (w : Wd), rec10 x1 x2 x3 x4 w = some res → V w 10 [(0, .ref (G.2 b0)), (1, .int x1), (2, .int x2), (3, .int x3), (4, .int x4)] []) {x1 : Int32} {x2 : Int32} {x3 : Int32} {x4 : Int32} {w : Wd} (h : fb_X2_worked_10 b0 rec10 x1 x2 x3 x4 w = some res) : V w 10 [(0, .ref (G.2 b0)), (1, .int x1), (2, .int x2), (3, .int x3), (4, .int x4)] [] := by
  unfold fb_X2_worked_10 at h
  refine r_iload (pc := 10) C dX2_worked_10 4 rfl ?_
  refine r_aload_n (pc := 12) C dX2_worked_12 rfl 0 rfl ?_
  refine gr_X2_14 (pc := 13) (b0 + 1) C dX2_worked_13 (cLa_0 hb0) rfl ?_
  refine gi_X2_31 (pc := 16) C dX2_worked_16 (cLa_1 hb0) rfl ?_
  refine r_icmp_ge (pc := 19) C 205 dX2_worked_19 (by decide) h (fun h => ?_) (fun h => ?_)
  · exact r_sub C [0] rfl (b_X2_worked_205 hb0 C h)
  · refine r_aload_n (pc := 22) C dX2_worked_22 rfl 0 rfl ?_
    refine gr_X2_14 (pc := 23) (b0 + 1) C dX2_worked_23 (cLa_0 hb0) rfl ?_
    refine gr_X2_53 (pc := 26) (b0 + 2) C dX2_worked_26 (cLa_1 hb0) rfl ?_
    refine r_iload (pc := 29) C dX2_worked_29 4 rfl ?_
    refine r_ald (pc := 31) C dX2_worked_31 h (cLa_2 hb0) (fun v1 h => ?_)
    refine r_istore (L' := [(5, .int v1), (0, .ref (G.2 b0)), (1, .int x1), (2, .int x2), (3, .int x3), (4, .int x4)]) (pc := 32) C dX2_worked_32 (by decide) rfl ?_
    refine r_aload_n (pc := 34) C dX2_worked_34 rfl 1 rfl ?_
    refine gr_X2_20 (pc := 35) (b0 + 3) C dX2_worked_35 (cLa_0 hb0) rfl ?_
    refine gi_X2_31 (pc := 38) C dX2_worked_38 (cLa_3 hb0) rfl ?_
    refine r_iconst (v := (1:Int32)) (pc := 41) C dX2_worked_41 (by decide) ?_
    refine r_isub (pc := 42) C dX2_worked_42 ?_
    refine r_lv h (fun v2 h => ?_)
    refine r_istore (L' := [(6, .int v2), (5, .int v1), (0, .ref (G.2 b0)), (1, .int x1), (2, .int x2), (3, .int x3), (4, .int x4)]) (pc := 43) C dX2_worked_43 (by decide) rfl ?_
    refine r_iload (pc := 45) C dX2_worked_45 1 rfl ?_
    refine r_if_lt (pc := 47) C 62 dX2_worked_47 (by decide) h (fun h => ?_) (fun h => ?_)
    · refine r_iload (pc := 62) C dX2_worked_62 1 rfl ?_
      refine r_bipush (v := (-3:Int32)) (pc := 64) C dX2_worked_64 (by decide) ?_
      refine r_icmp_lt (pc := 66) C 101 dX2_worked_66 (by decide) h (fun h => ?_) (fun h => ?_)
      · refine r_iload (pc := 101) C dX2_worked_101 1 rfl ?_
        refine r_bipush (v := (-33:Int32)) (pc := 103) C dX2_worked_103 (by decide) ?_
        refine r_icmp_ne (pc := 105) C 144 dX2_worked_105 (by decide) h (fun h => ?_) (fun h => ?_)
        · exact r_sub C [2, 3, 4, 5, 6, 1, 0] rfl (b_X2_worked_144 hb0 C hrec10 h)
        · refine r_iload (pc := 108) C dX2_worked_108 0 rfl ?_
          refine r_if_lt (pc := 110) C 144 dX2_worked_110 (by decide) h (fun h => ?_) (fun h => ?_)
          · exact r_sub C [2, 3, 4, 5, 6, 1, 0] rfl (b_X2_worked_144 hb0 C hrec10 h)
          · refine r_aload_n (pc := 113) C dX2_worked_113 rfl 2 rfl ?_
            refine gr_X2_20 (pc := 114) (b0 + 3) C dX2_worked_114 (cLa_0 hb0) rfl ?_
            refine gr_X2_53 (pc := 117) (b0 + 4) C dX2_worked_117 (cLa_3 hb0) rfl ?_
            refine r_iload (pc := 120) C dX2_worked_120 0 rfl ?_
            refine r_aload_n (pc := 122) C dX2_worked_122 rfl 2 rfl ?_
            refine gr_X2_20 (pc := 123) (b0 + 3) C dX2_worked_123 (cLa_0 hb0) rfl ?_
            refine gr_X2_53 (pc := 126) (b0 + 4) C dX2_worked_126 (cLa_3 hb0) rfl ?_
            refine r_iload (pc := 129) C dX2_worked_129 0 rfl ?_
            refine r_ald (pc := 131) C dX2_worked_131 h (cLa_4 hb0) (fun v3 h => ?_)
            refine r_if_ne (pc := 132) C 139 dX2_worked_132 (by decide) h (fun h => ?_) (fun h => ?_)
            · refine r_iconst (v := (0:Int32)) (pc := 139) C dX2_worked_139 (by decide) ?_
              exact r_sub C [2, 3, 4, 5, 6] rfl (b_X2_worked_140 hb0 C hrec10 h)
            · refine r_iconst (v := (1:Int32)) (pc := 135) C dX2_worked_135 (by decide) ?_
              refine r_goto (pc := 136) C 140 dX2_worked_136 (by decide) ?_
              exact r_sub C [2, 3, 4, 5, 6] rfl (b_X2_worked_140 hb0 C hrec10 h)
      · refine r_aload_n (pc := 69) C dX2_worked_69 rfl 2 rfl ?_
        refine gr_X2_20 (pc := 70) (b0 + 3) C dX2_worked_70 (cLa_0 hb0) rfl ?_
        refine r_iload (pc := 73) C dX2_worked_73 1 rfl ?_
        refine r_iconst (v := (-1:Int32)) (pc := 75) C dX2_worked_75 (by decide) ?_
        refine r_icmp_ne (pc := 76) C 83 dX2_worked_76 (by decide) h (fun h => ?_) (fun h => ?_)
        · refine r_iload (pc := 83) C dX2_worked_83 1 rfl ?_
          refine r_bipush (v := (-2:Int32)) (pc := 85) C dX2_worked_85 (by decide) ?_
          refine r_icmp_ne (pc := 87) C 94 dX2_worked_87 (by decide) h (fun h => ?_) (fun h => ?_)
          · refine r_iload_n (pc := 94) C dX2_worked_94 rfl 5 rfl ?_
            exact r_sub C [2, 3, 4, 5, 6] rfl (b_X2_worked_95 hb0 C hrec10 h)
          · refine r_iload_n (pc := 90) C dX2_worked_90 rfl 4 rfl ?_
            refine r_goto (pc := 91) C 95 dX2_worked_91 (by decide) ?_
            exact r_sub C [2, 3, 4, 5, 6] rfl (b_X2_worked_95 hb0 C hrec10 h)
        · refine r_iload_n (pc := 79) C dX2_worked_79 rfl 3 rfl ?_
          refine r_goto (pc := 80) C 95 dX2_worked_80 (by decide) ?_
          exact r_sub C [2, 3, 4, 5, 6] rfl (b_X2_worked_95 hb0 C hrec10 h)
    · refine r_aload_n (pc := 50) C dX2_worked_50 rfl 2 rfl ?_
      refine gr_X2_20 (pc := 51) (b0 + 3) C dX2_worked_51 (cLa_0 hb0) rfl ?_
      refine r_iload (pc := 54) C dX2_worked_54 1 rfl ?_
      refine cv_X2_57 (pc := 56) C dX2_worked_56 (sLa_3 hb0) h (by decide) (Nat.le_of_ble_eq_true rfl) (fun q4 h => ?_)
      refine r_goto (pc := 59) C 199 dX2_worked_59 (by decide) ?_
      exact r_sub C [2, 3, 4, 5, 6] rfl (b_X2_worked_199 hb0 C hrec10 h)
def f_X2_worked_10 (b0 : Nat) : Int32 → Int32 → Int32 → Int32 → Wd → Option (Int32 × Wd) := lp (fun _ _ _ _ _ => none) (fun rec => fb_X2_worked_10 b0 rec) FU
theorem b_X2_worked_10 {G : Gv} {V : Vt} {b0 : Nat} {res : Int32 × Wd} (hb0 : isLa b0 = true)  (C : CX cX2_worked RX2 G SX 7 2 (some FieldType.int) (some (.int res.1)) res.2 V) : ∀ (x1 : Int32) (x2 : Int32) (x3 : Int32) (x4 : Int32) (w : Wd), (f_X2_worked_10 b0) x1 x2 x3 x4 w = some res → V w 10 [(0, .ref (G.2 b0)), (1, .int x1), (2, .int x2), (3, .int x3), (4, .int x4)] [] :=
  lp_ind (P := fun (g : Int32 → Int32 → Int32 → Int32 → Wd → Option (Int32 × Wd)) => ∀ (x1 : Int32) (x2 : Int32) (x3 : Int32) (x4 : Int32) (w : Wd), g x1 x2 x3 x4 w = some res → V w 10 [(0, .ref (G.2 b0)), (1, .int x1), (2, .int x2), (3, .int x3), (4, .int x4)] []) (fun _ _ _ _ _ h => by cases h) (fun g hg _ _ _ _ _ h => bb_X2_worked_10 hb0 C hg h) FU
def f_X2_worked (b0 : Nat) (p1 : Int32) (p2 : Int32) (p3 : Int32) (w : Wd) : Option (Int32 × Wd) := bd (f_X4_clear (b0 + 3) w) (fun q1 => f_X2_worked_10 b0 p1 p2 p3 (0:Int32) q1)
set_option maxRecDepth 20000 in
theorem b_X2_worked_E {G : Gv} {V : Vt} {b0 : Nat} {res : Int32 × Wd} (hb0 : isLa b0 = true)  (C : CX cX2_worked RX2 G SX 7 2 (some FieldType.int) (some (.int res.1)) res.2 V) {p1 : Int32} {p2 : Int32} {p3 : Int32} {w : Wd} (h : f_X2_worked b0 p1 p2 p3 w = some res) : V w 0 [(0, .ref (G.2 b0)), (1, .int p1), (2, .int p2), (3, .int p3)] [] := by
  unfold f_X2_worked at h
  refine r_aload_n (pc := 0) C dX2_worked_0 rfl 0 rfl ?_
  refine gr_X2_20 (pc := 1) (b0 + 3) C dX2_worked_1 (cLa_0 hb0) rfl ?_
  refine cv_X2_50 (pc := 4) C dX2_worked_4 (sLa_3 hb0) h (by decide) (Nat.le_of_ble_eq_true rfl) (fun q1 h => ?_)
  refine r_iconst (v := (0:Int32)) (pc := 7) C dX2_worked_7 (by decide) ?_
  refine r_istore (L' := [(4, .int (0:Int32)), (0, .ref (G.2 b0)), (1, .int p1), (2, .int p2), (3, .int p3)]) (pc := 8) C dX2_worked_8 (by decide) rfl ?_
  exact r_sub C [1, 2, 3, 4, 0] rfl (b_X2_worked_10 hb0 C _ _ _ _ _ h)
theorem c_X2_worked {G : Gv} {b0 : Nat} {p1 : Int32} {p2 : Int32} {p3 : Int32} {w : Wd} {res : Int32 × Wd} (hb0 : isLa b0 = true) (h : f_X2_worked b0 p1 p2 p3 w = some res) (l : Launch) : MC l yX2_worked cX2_worked 7 (some FieldType.int) 2 G SX w [.ref (G.2 b0), .int p1, .int p2, .int p3] (some (.int res.1)) res.2 := mc_of (by decide +kernel) rfl (Nat.le_of_ble_eq_true rfl) rfl (fun V C => b_X2_worked_E hb0 C h) l
theorem cv_X2_34 {cc : ByteArray} {G : Gv} {n hc : Nat} {rt : Option FieldType} {rv : Option Value} {w0 : Wd} {V : Vt} {w : Wd} {pc : Nat} {L : List (Nat × Value)} {rest : List Value} {α : Type} {res : α} {b0 : Nat} {p1 : Int32} {p2 : Int32} {K : Int32 → Option α} (C : CX cc RX2 G SX n hc rt rv w0 V) (hd : decode cc pc = .ok (.invokevirtual 34, 3)) (hb0 : isLa b0 = true) (h : bd (f_X2_withoutText b0 w p1 p2) K = some res) (hR : 1 + 1 ≤ hc) (hr : (rest.map fun v => v.category).sum ≤ 8) (kk : ∀ q, K q = some res → V w (pc + 3) L (.int q :: rest)) : V w pc L (.int p2 :: .int p1 :: .ref (G.2 b0) :: rest) := r_callV (As := [.int p1, .int p2]) (rest := rest) (rvf := fun q => (some (.int q))) (wf := fun q => w) C hd h ql_X2_34 qi_X2_withoutText qs_X2_withoutText qn_X2 qc_X2_withoutText ⟨rfl, by decide +kernel, by decide +kernel, (by decide +kernel : (parseMethodDescriptor yX2_withoutText.desc).map (fun d => d.parameters.length) = some 2)⟩ ⟨hR, by decide⟩ (cLa_0 hb0) rfl (fun q hq l => c_X2_withoutText hb0 hq l) rfl hr kk
theorem cv_X2_38 {cc : ByteArray} {G : Gv} {n hc : Nat} {rt : Option FieldType} {rv : Option Value} {w0 : Wd} {V : Vt} {w : Wd} {pc : Nat} {L : List (Nat × Value)} {rest : List Value} {α : Type} {res : α} {b0 : Nat} {p1 : Int32} {p2 : Int32} {p3 : Int32} {K : Int32 × Wd → Option α} (C : CX cc RX2 G SX n hc rt rv w0 V) (hd : decode cc pc = .ok (.invokevirtual 38, 3)) (hb0 : isLa b0 = true) (h : bd (f_X2_worked b0 p1 p2 p3 w) K = some res) (hR : 2 + 1 ≤ hc) (hr : (rest.map fun v => v.category).sum ≤ 8) (kk : ∀ q, K q = some res → V q.2 (pc + 3) L (.int q.1 :: rest)) : V w pc L (.int p3 :: .int p2 :: .int p1 :: .ref (G.2 b0) :: rest) := r_callV (As := [.int p1, .int p2, .int p3]) (rest := rest) (rvf := fun q => (some (.int q.1))) (wf := fun q => q.2) C hd h ql_X2_38 qi_X2_worked qs_X2_worked qn_X2 qc_X2_worked ⟨rfl, by decide +kernel, by decide +kernel, (by decide +kernel : (parseMethodDescriptor yX2_worked.desc).map (fun d => d.parameters.length) = some 3)⟩ ⟨hR, by decide⟩ (cLa_0 hb0) rfl (fun q hq l => c_X2_worked hb0 hq l) rfl hr kk
def f_X2_gives_43 (b0 : Nat) (x4 : Int32) (t0 : Int32) (w : Wd) : Option (Int32 × Wd) := some ((mmax (0:Int32) (mmin t0 x4)), w)
set_option maxRecDepth 20000 in
theorem b_X2_gives_43 {G : Gv} {V : Vt} {b0 : Nat} {res : Int32 × Wd} (hb0 : isLa b0 = true)  (C : CX cX2_gives RX2 G SX 6 3 (some FieldType.int) (some (.int res.1)) res.2 V) {x4 : Int32} {t0 : Int32} {w : Wd} (h : f_X2_gives_43 b0 x4 t0 w = some res) : V w 43 [(4, .int x4)] [.int t0] := by
  unfold f_X2_gives_43 at h
  refine r_istore (L' := [(5, .int t0), (4, .int x4)]) (pc := 43) C dX2_gives_43 (by decide) rfl ?_
  refine r_iconst (v := (0:Int32)) (pc := 45) C dX2_gives_45 (by decide) ?_
  refine r_iload (pc := 46) C dX2_gives_46 0 rfl ?_
  refine r_iload (pc := 48) C dX2_gives_48 1 rfl ?_
  refine r_mmin (pc := 50) C dX2_gives_50 ql_X2_42 qt_Math_min qn_J9 qc_Math_min (Nat.le_of_ble_eq_true rfl) ?_
  refine r_mmax (pc := 53) C dX2_gives_53 ql_X2_47 qt_Math_max qn_J9 qc_Math_max (Nat.le_of_ble_eq_true rfl) ?_
  exact r_iretE (pc := 56) C dX2_gives_56 h
def f_X2_gives_15 (b0 : Nat) (x1 : Int32) (x2 : Int32) (x3 : Int32) (t0 : Int32) (w : Wd) : Option (Int32 × Wd) := (if ¬ (w (b0 + 1) 1) = 0 then bd (f_X2_worked b0 x1 x2 x3 w) (fun q1 => f_X2_gives_43 b0 t0 q1.1 q1.2) else bd (f_X2_withoutText b0 w x1 x3) (fun q2 => f_X2_gives_43 b0 t0 q2 w))
set_option maxRecDepth 20000 in
theorem b_X2_gives_15 {G : Gv} {V : Vt} {b0 : Nat} {res : Int32 × Wd} (hb0 : isLa b0 = true)  (C : CX cX2_gives RX2 G SX 6 3 (some FieldType.int) (some (.int res.1)) res.2 V) {x1 : Int32} {x2 : Int32} {x3 : Int32} {t0 : Int32} {w : Wd} (h : f_X2_gives_15 b0 x1 x2 x3 t0 w = some res) : V w 15 [(0, .ref (G.2 b0)), (1, .int x1), (2, .int x2), (3, .int x3)] [.int t0] := by
  unfold f_X2_gives_15 at h
  refine r_istore (L' := [(4, .int t0), (0, .ref (G.2 b0)), (1, .int x1), (2, .int x2), (3, .int x3)]) (pc := 15) C dX2_gives_15 (by decide) rfl ?_
  refine r_aload_n (pc := 17) C dX2_gives_17 rfl 1 rfl ?_
  refine gr_X2_14 (pc := 18) (b0 + 1) C dX2_gives_18 (cLa_0 hb0) rfl ?_
  refine gi_X2_31 (pc := 21) C dX2_gives_21 (cLa_1 hb0) rfl ?_
  refine r_if_ne (pc := 24) C 36 dX2_gives_24 (by decide) h (fun h => ?_) (fun h => ?_)
  · refine r_aload_n (pc := 36) C dX2_gives_36 rfl 1 rfl ?_
    refine r_iload_n (pc := 37) C dX2_gives_37 rfl 2 rfl ?_
    refine r_iload_n (pc := 38) C dX2_gives_38 rfl 3 rfl ?_
    refine r_iload_n (pc := 39) C dX2_gives_39 rfl 4 rfl ?_
    refine cv_X2_38 (pc := 40) C dX2_gives_40 hb0 h (by decide) (Nat.le_of_ble_eq_true rfl) (fun q1 h => ?_)
    exact r_sub C [0] rfl (b_X2_gives_43 hb0 C h)
  · refine r_aload_n (pc := 27) C dX2_gives_27 rfl 1 rfl ?_
    refine r_iload_n (pc := 28) C dX2_gives_28 rfl 2 rfl ?_
    refine r_iload_n (pc := 29) C dX2_gives_29 rfl 4 rfl ?_
    refine cv_X2_34 (pc := 30) C dX2_gives_30 hb0 h (by decide) (Nat.le_of_ble_eq_true rfl) (fun q2 h => ?_)
    refine r_goto (pc := 33) C 43 dX2_gives_33 (by decide) ?_
    exact r_sub C [0] rfl (b_X2_gives_43 hb0 C h)
def f_X2_gives (b0 : Nat) (p1 : Int32) (p2 : Int32) (p3 : Int32) (w : Wd) : Option (Int32 × Wd) := (if ¬ (w b0 0) = 0 then f_X2_gives_15 b0 p1 p2 p3 (99:Int32) w else f_X2_gives_15 b0 p1 p2 p3 (999:Int32) w)
set_option maxRecDepth 20000 in
theorem b_X2_gives_E {G : Gv} {V : Vt} {b0 : Nat} {res : Int32 × Wd} (hb0 : isLa b0 = true)  (C : CX cX2_gives RX2 G SX 6 3 (some FieldType.int) (some (.int res.1)) res.2 V) {p1 : Int32} {p2 : Int32} {p3 : Int32} {w : Wd} (h : f_X2_gives b0 p1 p2 p3 w = some res) : V w 0 [(0, .ref (G.2 b0)), (1, .int p1), (2, .int p2), (3, .int p3)] [] := by
  unfold f_X2_gives at h
  refine r_aload_n (pc := 0) C dX2_gives_0 rfl 0 rfl ?_
  refine gi_X2_23 (pc := 1) C dX2_gives_1 (cLa_0 hb0) rfl ?_
  refine r_if_ne (pc := 4) C 13 dX2_gives_4 (by decide) h (fun h => ?_) (fun h => ?_)
  · refine r_bipush (v := (99:Int32)) (pc := 13) C dX2_gives_13 (by decide) ?_
    exact r_sub C [0, 1, 2, 3] rfl (b_X2_gives_15 hb0 C h)
  · refine r_sipush (v := (999:Int32)) (pc := 7) C dX2_gives_7 (by decide) ?_
    refine r_goto (pc := 10) C 15 dX2_gives_10 (by decide) ?_
    exact r_sub C [0, 1, 2, 3] rfl (b_X2_gives_15 hb0 C h)
theorem c_X2_gives {G : Gv} {b0 : Nat} {p1 : Int32} {p2 : Int32} {p3 : Int32} {w : Wd} {res : Int32 × Wd} (hb0 : isLa b0 = true) (h : f_X2_gives b0 p1 p2 p3 w = some res) (l : Launch) : MC l yX2_gives cX2_gives 6 (some FieldType.int) 3 G SX w [.ref (G.2 b0), .int p1, .int p2, .int p3] (some (.int res.1)) res.2 := mc_of (by decide +kernel) rfl (Nat.le_of_ble_eq_true rfl) rfl (fun V C => b_X2_gives_E hb0 C h) l
def f_X3_sign (w : Wd) : Option (Int32) := (if (w 81 1) ≤ (w 64 1) then some (-1:Int32) else ald w 82 50 (w 64 1) (fun v1 => some v1))
set_option maxRecDepth 20000 in
theorem b_X3_sign_E {G : Gv} {V : Vt} {w : Wd} {res : Int32}  (C : CX cX3_sign RX3 G SX 1 1 (some FieldType.int) (some (.int res)) w V) (h : f_X3_sign w = some res) : V w 0 [(0, .ref (G.2 64))] [] := by
  unfold f_X3_sign at h
  refine r_aload_n (pc := 0) C dX3_sign_0 rfl 0 rfl ?_
  refine gi_X3_35 (pc := 1) C dX3_sign_1 kx_64 rfl ?_
  refine r_aload_n (pc := 4) C dX3_sign_4 rfl 0 rfl ?_
  refine gr_X3_20 (pc := 5) 81 C dX3_sign_5 kx_64 rfl ?_
  refine gi_X3_46 (pc := 8) C dX3_sign_8 kx_81 rfl ?_
  refine r_icmp_ge (pc := 11) C 29 dX3_sign_11 (by decide) h (fun h => ?_) (fun h => ?_)
  · refine r_iconst (v := (-1:Int32)) (pc := 29) C dX3_sign_29 (by decide) ?_
    exact r_iretP (pc := 30) C dX3_sign_30 h
  · refine r_aload_n (pc := 14) C dX3_sign_14 rfl 0 rfl ?_
    refine gr_X3_20 (pc := 15) 81 C dX3_sign_15 kx_64 rfl ?_
    refine gr_X3_49 (pc := 18) 82 C dX3_sign_18 kx_81 rfl ?_
    refine r_aload_n (pc := 21) C dX3_sign_21 rfl 0 rfl ?_
    refine gi_X3_35 (pc := 22) C dX3_sign_22 kx_64 rfl ?_
    refine r_ald (pc := 25) C dX3_sign_25 h kx_82 (fun v1 h => ?_)
    refine r_goto (pc := 26) C 30 dX3_sign_26 (by decide) ?_
    exact r_iretP (pc := 30) C dX3_sign_30 h
theorem c_X3_sign {G : Gv} {w : Wd} {res : Int32} (h : f_X3_sign w = some res) (l : Launch) : MC l yX3_sign cX3_sign 1 (some FieldType.int) 1 G SX w [.ref (G.2 64)] (some (.int res)) w := mc_of (by decide +kernel) rfl (Nat.le_of_ble_eq_true rfl) rfl (fun V C => b_X3_sign_E C h) l
def f_X3_levelOf (p0 : Int32) : Option (Int32) := (if p0 = (37:Int32) then some (4:Int32) else (if p0 = (38:Int32) then some (1:Int32) else (if p0 = (42:Int32) then some (4:Int32) else (if p0 = (43:Int32) then some (3:Int32) else (if p0 = (45:Int32) then some (3:Int32) else (if p0 = (47:Int32) then some (4:Int32) else (if p0 = (60:Int32) then some (2:Int32) else (if p0 = (61:Int32) then some (2:Int32) else (if p0 = (62:Int32) then some (2:Int32) else (if p0 = (124:Int32) then some (0:Int32) else some (-1:Int32)))))))))))
set_option maxRecDepth 20000 in
theorem b_X3_levelOf_E {G : Gv} {V : Vt} {w : Wd} {res : Int32}  (C : CX cX3_levelOf RX3 G SX 1 1 (some FieldType.int) (some (.int res)) w V) {p0 : Int32} (h : f_X3_levelOf p0 = some res) : V w 0 [(0, .int p0)] [] := by
  unfold f_X3_levelOf at h
  refine r_iload_n (pc := 0) C dX3_levelOf_0 rfl 0 rfl ?_
  refine r_lsw (pc := 1) C (37:Int32) 100 dX3_levelOf_1 rfl rfl (by decide) h (fun h => ?_) (fun n0 h => ?_)
  · refine r_iconst (v := (4:Int32)) (pc := 100) C dX3_levelOf_100 (by decide) ?_
    exact r_iretP (pc := 101) C dX3_levelOf_101 h
  refine r_lsw (pc := 1) C (38:Int32) 94 dX3_levelOf_1 rfl rfl (by decide) h (fun h => ?_) (fun n1 h => ?_)
  · refine r_iconst (v := (1:Int32)) (pc := 94) C dX3_levelOf_94 (by decide) ?_
    exact r_iretP (pc := 95) C dX3_levelOf_95 h
  refine r_lsw (pc := 1) C (42:Int32) 100 dX3_levelOf_1 rfl rfl (by decide) h (fun h => ?_) (fun n2 h => ?_)
  · refine r_iconst (v := (4:Int32)) (pc := 100) C dX3_levelOf_100 (by decide) ?_
    exact r_iretP (pc := 101) C dX3_levelOf_101 h
  refine r_lsw (pc := 1) C (43:Int32) 98 dX3_levelOf_1 rfl rfl (by decide) h (fun h => ?_) (fun n3 h => ?_)
  · refine r_iconst (v := (3:Int32)) (pc := 98) C dX3_levelOf_98 (by decide) ?_
    exact r_iretP (pc := 99) C dX3_levelOf_99 h
  refine r_lsw (pc := 1) C (45:Int32) 98 dX3_levelOf_1 rfl rfl (by decide) h (fun h => ?_) (fun n4 h => ?_)
  · refine r_iconst (v := (3:Int32)) (pc := 98) C dX3_levelOf_98 (by decide) ?_
    exact r_iretP (pc := 99) C dX3_levelOf_99 h
  refine r_lsw (pc := 1) C (47:Int32) 100 dX3_levelOf_1 rfl rfl (by decide) h (fun h => ?_) (fun n5 h => ?_)
  · refine r_iconst (v := (4:Int32)) (pc := 100) C dX3_levelOf_100 (by decide) ?_
    exact r_iretP (pc := 101) C dX3_levelOf_101 h
  refine r_lsw (pc := 1) C (60:Int32) 96 dX3_levelOf_1 rfl rfl (by decide) h (fun h => ?_) (fun n6 h => ?_)
  · refine r_iconst (v := (2:Int32)) (pc := 96) C dX3_levelOf_96 (by decide) ?_
    exact r_iretP (pc := 97) C dX3_levelOf_97 h
  refine r_lsw (pc := 1) C (61:Int32) 96 dX3_levelOf_1 rfl rfl (by decide) h (fun h => ?_) (fun n7 h => ?_)
  · refine r_iconst (v := (2:Int32)) (pc := 96) C dX3_levelOf_96 (by decide) ?_
    exact r_iretP (pc := 97) C dX3_levelOf_97 h
  refine r_lsw (pc := 1) C (62:Int32) 96 dX3_levelOf_1 rfl rfl (by decide) h (fun h => ?_) (fun n8 h => ?_)
  · refine r_iconst (v := (2:Int32)) (pc := 96) C dX3_levelOf_96 (by decide) ?_
    exact r_iretP (pc := 97) C dX3_levelOf_97 h
  refine r_lsw (pc := 1) C (124:Int32) 92 dX3_levelOf_1 rfl rfl (by decide) h (fun h => ?_) (fun n9 h => ?_)
  · refine r_iconst (v := (0:Int32)) (pc := 92) C dX3_levelOf_92 (by decide) ?_
    exact r_iretP (pc := 93) C dX3_levelOf_93 h
  refine r_lswD (pc := 1) C 102 dX3_levelOf_1 rfl (by have z0 := toInt_ne n0; have z1 := toInt_ne n1; have z2 := toInt_ne n2; have z3 := toInt_ne n3; have z4 := toInt_ne n4; have z5 := toInt_ne n5; have z6 := toInt_ne n6; have z7 := toInt_ne n7; have z8 := toInt_ne n8; have z9 := toInt_ne n9; exact lsw_dflt (by intro q hq; simp only [List.mem_cons, List.not_mem_nil, or_false] at hq; rcases hq with rfl | rfl | rfl | rfl | rfl | rfl | rfl | rfl | rfl | rfl <;> (intro e; simp only [Int32.reduceToInt, ne_eq] at *; omega))) (by decide) ?_
  refine r_iconst (v := (-1:Int32)) (pc := 102) C dX3_levelOf_102 (by decide) ?_
  exact r_iretP (pc := 103) C dX3_levelOf_103 h
theorem c_X3_levelOf {G : Gv} {p0 : Int32} {w : Wd} {res : Int32} (h : f_X3_levelOf p0 = some res) (l : Launch) : MC l yX3_levelOf cX3_levelOf 1 (some FieldType.int) 1 G SX w [.int p0] (some (.int res)) w := mc_of (by decide +kernel) rfl (Nat.le_of_ble_eq_true rfl) rfl (fun V C => b_X3_levelOf_E C h) l
def f_X3_isDigit (p0 : Int32) : Option (Int32) := (if p0 < (48:Int32) then some (0:Int32) else (if (57:Int32) < p0 then some (0:Int32) else some (1:Int32)))
set_option maxRecDepth 20000 in
theorem b_X3_isDigit_E {G : Gv} {V : Vt} {w : Wd} {res : Int32}  (C : CX cX3_isDigit RX3 G SX 1 1 (some FieldType.boolean) (some (.int res)) w V) {p0 : Int32} (h : f_X3_isDigit p0 = some res) : V w 0 [(0, .int p0)] [] := by
  unfold f_X3_isDigit at h
  refine r_iload_n (pc := 0) C dX3_isDigit_0 rfl 0 rfl ?_
  refine r_bipush (v := (48:Int32)) (pc := 1) C dX3_isDigit_1 (by decide) ?_
  refine r_icmp_lt (pc := 3) C 16 dX3_isDigit_3 (by decide) h (fun h => ?_) (fun h => ?_)
  · refine r_iconst (v := (0:Int32)) (pc := 16) C dX3_isDigit_16 (by decide) ?_
    exact r_zretP (pc := 17) C rfl dX3_isDigit_17 h
  · refine r_iload_n (pc := 6) C dX3_isDigit_6 rfl 0 rfl ?_
    refine r_bipush (v := (57:Int32)) (pc := 7) C dX3_isDigit_7 (by decide) ?_
    refine r_icmp_gt (pc := 9) C 16 dX3_isDigit_9 (by decide) h (fun h => ?_) (fun h => ?_)
    · refine r_iconst (v := (0:Int32)) (pc := 16) C dX3_isDigit_16 (by decide) ?_
      exact r_zretP (pc := 17) C rfl dX3_isDigit_17 h
    · refine r_iconst (v := (1:Int32)) (pc := 12) C dX3_isDigit_12 (by decide) ?_
      refine r_goto (pc := 13) C 17 dX3_isDigit_13 (by decide) ?_
      exact r_zretP (pc := 17) C rfl dX3_isDigit_17 h
theorem c_X3_isDigit {G : Gv} {p0 : Int32} {w : Wd} {res : Int32} (h : f_X3_isDigit p0 = some res) (l : Launch) : MC l yX3_isDigit cX3_isDigit 1 (some FieldType.boolean) 1 G SX w [.int p0] (some (.int res)) w := mc_of (by decide +kernel) rfl (Nat.le_of_ble_eq_true rfl) rfl (fun V C => b_X3_isDigit_E C h) l
theorem cv_X3_57 {cc : ByteArray} {G : Gv} {n hc : Nat} {rt : Option FieldType} {rv : Option Value} {w0 : Wd} {V : Vt} {w : Wd} {pc : Nat} {L : List (Nat × Value)} {rest : List Value} {α : Type} {res : α} {K : Int32 → Option α} (C : CX cc RX3 G SX n hc rt rv w0 V) (hd : decode cc pc = .ok (.invokevirtual 57, 3)) (h : bd (f_X3_sign w) K = some res) (hR : 1 + 1 ≤ hc) (hr : (rest.map fun v => v.category).sum ≤ 8) (kk : ∀ q, K q = some res → V w (pc + 3) L (.int q :: rest)) : V w pc L (.ref (G.2 64) :: rest) := r_callV (As := []) (rest := rest) (rvf := fun q => (some (.int q))) (wf := fun q => w) C hd h ql_X3_57 qi_X3_sign qs_X3_sign qn_X3 qc_X3_sign ⟨rfl, by decide +kernel, by decide +kernel, (by decide +kernel : (parseMethodDescriptor yX3_sign.desc).map (fun d => d.parameters.length) = some 0)⟩ ⟨hR, by decide⟩ kx_64 rfl (fun q hq l => c_X3_sign hq l) rfl hr kk
theorem cv_X3_65 {cc : ByteArray} {G : Gv} {n hc : Nat} {rt : Option FieldType} {rv : Option Value} {w0 : Wd} {V : Vt} {w : Wd} {pc : Nat} {L : List (Nat × Value)} {rest : List Value} {α : Type} {res : α} {b0 : Nat} {p1 : Int32} {K : Wd → Option α} (C : CX cc RX3 G SX n hc rt rv w0 V) (hd : decode cc pc = .ok (.invokevirtual 65, 3)) (hb0 : isRo b0 = true) (h : bd (f_X4_add b0 p1 w) K = some res) (hR : 1 + 1 ≤ hc) (hr : (rest.map fun v => v.category).sum ≤ 8) (kk : ∀ q, K q = some res → V q (pc + 3) L (rest)) : V w pc L (.int p1 :: .ref (G.2 b0) :: rest) := r_callV (As := [.int p1]) (rest := rest) (rvf := fun q => none) (wf := fun q => q) C hd h ql_X3_65 qi_X4_add qs_X4_add qn_X4 qc_X4_add ⟨rfl, by decide +kernel, by decide +kernel, (by decide +kernel : (parseMethodDescriptor yX4_add.desc).map (fun d => d.parameters.length) = some 1)⟩ ⟨hR, by decide⟩ (cRo_0 hb0) rfl (fun q hq l => c_X4_add hb0 hq l) rfl hr kk
theorem cv_X3_68 {cc : ByteArray} {G : Gv} {n hc : Nat} {rt : Option FieldType} {rv : Option Value} {w0 : Wd} {V : Vt} {w : Wd} {pc : Nat} {L : List (Nat × Value)} {rest : List Value} {α : Type} {res : α} {p0 : Int32} {K : Int32 → Option α} (C : CX cc RX3 G SX n hc rt rv w0 V) (hd : decode cc pc = .ok (.invokestatic 68, 3)) (h : bd (f_X3_isDigit p0) K = some res) (hR : 1 + 1 ≤ hc) (hr : (rest.map fun v => v.category).sum ≤ 8) (kk : ∀ q, K q = some res → V w (pc + 3) L (.int q :: rest)) : V w pc L (.int p0 :: rest) := r_callS (As := [.int p0]) (rest := rest) (rvf := fun q => (some (.int q))) (wf := fun q => w) C hd h ql_X3_68 qt_X3_isDigit qn_X3 qc_X3_isDigit ⟨by decide +kernel, by decide +kernel, (by decide +kernel : (parseMethodDescriptor yX3_isDigit.desc).map (fun d => d.parameters.length) = some 1)⟩ ⟨hR, by decide⟩ (fun q hq l => c_X3_isDigit hq l) rfl hr kk
def f_X3_readNumber_48 (x1 : Int32) (w : Wd) : Option (Wd) := bd (f_X4_add 65 x1 w) (fun q1 => some q1)
set_option maxRecDepth 20000 in
theorem b_X3_readNumber_48 {G : Gv} {V : Vt} {res : Wd}  (C : CX cX3_readNumber RX3 G SX 3 2 none none res V) {x1 : Int32} {w : Wd} (h : f_X3_readNumber_48 x1 w = some res) : V w 48 [(0, .ref (G.2 64)), (1, .int x1)] [] := by
  unfold f_X3_readNumber_48 at h
  refine r_aload_n (pc := 48) C dX3_readNumber_48 rfl 0 rfl ?_
  refine gr_X3_14 (pc := 49) 65 C dX3_readNumber_49 kx_64 rfl ?_
  refine r_iload_n (pc := 52) C dX3_readNumber_52 rfl 1 rfl ?_
  refine cv_X3_65 (pc := 53) C dX3_readNumber_53 isRo_65 h (by decide) (Nat.le_of_ble_eq_true rfl) (fun q1 h => ?_)
  exact r_vretE (pc := 56) C dX3_readNumber_56 h
def fb_X3_readNumber_4 (rec4 : Int32 → Int32 → Wd → Option (Wd)) (x1 : Int32) (x2 : Int32) (w : Wd) : Option (Wd) := (if (4:Int32) ≤ x2 then f_X3_readNumber_48 x1 w else bd (f_X3_sign w) (fun q1 => bd (f_X3_isDigit q1) (fun q2 => (if q2 = 0 then f_X3_readNumber_48 x1 w else bd (f_X3_sign w) (fun q3 => lv (((x1 * (10:Int32)) + q3) - (48:Int32)) (fun v4 => wl (updW w 64 1 ((w 64 1) + (1:Int32))) (fun w5 => rec4 v4 (x2 + (1:Int32)) w5)))))))
set_option maxRecDepth 20000 in
theorem bb_X3_readNumber_4 {G : Gv} {V : Vt} {rec4 : Int32 → Int32 → Wd → Option (Wd)} {res : Wd}  (C : CX cX3_readNumber RX3 G SX 3 2 none none res V) (hrec4 : ∀ (x1 : Int32) (x2 : Int32) (w : Wd), rec4 x1 x2 w = some res → V w 4 [(0, .ref (G.2 64)), (1, .int x1), (2, .int x2)] []) {x1 : Int32} {x2 : Int32} {w : Wd} (h : fb_X3_readNumber_4 rec4 x1 x2 w = some res) : V w 4 [(0, .ref (G.2 64)), (1, .int x1), (2, .int x2)] [] := by
  unfold fb_X3_readNumber_4 at h
  refine r_iload_n (pc := 4) C dX3_readNumber_4 rfl 2 rfl ?_
  refine r_iconst (v := (4:Int32)) (pc := 5) C dX3_readNumber_5 (by decide) ?_
  refine r_icmp_ge (pc := 6) C 48 dX3_readNumber_6 (by decide) h (fun h => ?_) (fun h => ?_)
  · exact r_sub C [0, 1] rfl (b_X3_readNumber_48 C h)
  · refine r_aload_n (pc := 9) C dX3_readNumber_9 rfl 0 rfl ?_
    refine cv_X3_57 (pc := 10) C dX3_readNumber_10  h (by decide) (Nat.le_of_ble_eq_true rfl) (fun q1 h => ?_)
    refine cv_X3_68 (pc := 13) C dX3_readNumber_13  h (by decide) (Nat.le_of_ble_eq_true rfl) (fun q2 h => ?_)
    refine r_if_eq (pc := 16) C 48 dX3_readNumber_16 (by decide) h (fun h => ?_) (fun h => ?_)
    · exact r_sub C [0, 1] rfl (b_X3_readNumber_48 C h)
    · refine r_iload_n (pc := 19) C dX3_readNumber_19 rfl 1 rfl ?_
      refine r_bipush (v := (10:Int32)) (pc := 20) C dX3_readNumber_20 (by decide) ?_
      refine r_imul (pc := 22) C dX3_readNumber_22 ?_
      refine r_aload_n (pc := 23) C dX3_readNumber_23 rfl 0 rfl ?_
      refine cv_X3_57 (pc := 24) C dX3_readNumber_24  h (by decide) (Nat.le_of_ble_eq_true rfl) (fun q3 h => ?_)
      refine r_iadd (pc := 27) C dX3_readNumber_27 ?_
      refine r_bipush (v := (48:Int32)) (pc := 28) C dX3_readNumber_28 (by decide) ?_
      refine r_isub (pc := 30) C dX3_readNumber_30 ?_
      refine r_lv h (fun v4 h => ?_)
      refine r_istore_n (L' := [(1, .int v4), (0, .ref (G.2 64)), (2, .int x2)]) (pc := 31) C dX3_readNumber_31 rfl (by decide) rfl ?_
      refine r_aload_n (pc := 32) C dX3_readNumber_32 rfl 1 rfl ?_
      refine r_dup (pc := 33) C dX3_readNumber_33 rfl ?_
      refine gi_X3_35 (pc := 34) C dX3_readNumber_34 kx_64 rfl ?_
      refine r_iconst (v := (1:Int32)) (pc := 37) C dX3_readNumber_37 (by decide) ?_
      refine r_iadd (pc := 38) C dX3_readNumber_38 ?_
      refine pi_X3_35 (pc := 39) C dX3_readNumber_39 kx_64 rfl h (fun w5 h => ?_)
      refine r_iinc (v := (x2 + (1:Int32))) (L' := [(2, .int (x2 + (1:Int32))), (1, .int v4), (0, .ref (G.2 64))]) (pc := 42) C dX3_readNumber_42 2 rfl rfl (by decide) rfl ?_
      refine r_goto (pc := 45) C 4 dX3_readNumber_45 (by decide) ?_
      exact r_sub C [2, 1, 0] rfl (hrec4 _ _ _ h)
def f_X3_readNumber_4 : Int32 → Int32 → Wd → Option (Wd) := lp (fun _ _ _ => none) (fun rec => fb_X3_readNumber_4 rec) FU
theorem b_X3_readNumber_4 {G : Gv} {V : Vt} {res : Wd}  (C : CX cX3_readNumber RX3 G SX 3 2 none none res V) : ∀ (x1 : Int32) (x2 : Int32) (w : Wd), (f_X3_readNumber_4) x1 x2 w = some res → V w 4 [(0, .ref (G.2 64)), (1, .int x1), (2, .int x2)] [] :=
  lp_ind (P := fun (g : Int32 → Int32 → Wd → Option (Wd)) => ∀ (x1 : Int32) (x2 : Int32) (w : Wd), g x1 x2 w = some res → V w 4 [(0, .ref (G.2 64)), (1, .int x1), (2, .int x2)] []) (fun _ _ _ h => by cases h) (fun g hg _ _ _ h => bb_X3_readNumber_4 C hg h) FU
def f_X3_readNumber (w : Wd) : Option (Wd) := f_X3_readNumber_4 (0:Int32) (0:Int32) w
set_option maxRecDepth 20000 in
theorem b_X3_readNumber_E {G : Gv} {V : Vt} {res : Wd}  (C : CX cX3_readNumber RX3 G SX 3 2 none none res V) {w : Wd} (h : f_X3_readNumber w = some res) : V w 0 [(0, .ref (G.2 64))] [] := by
  unfold f_X3_readNumber at h
  refine r_iconst (v := (0:Int32)) (pc := 0) C dX3_readNumber_0 (by decide) ?_
  refine r_istore_n (L' := [(1, .int (0:Int32)), (0, .ref (G.2 64))]) (pc := 1) C dX3_readNumber_1 rfl (by decide) rfl ?_
  refine r_iconst (v := (0:Int32)) (pc := 2) C dX3_readNumber_2 (by decide) ?_
  refine r_istore_n (L' := [(2, .int (0:Int32)), (1, .int (0:Int32)), (0, .ref (G.2 64))]) (pc := 3) C dX3_readNumber_3 rfl (by decide) rfl ?_
  exact r_sub C [2, 1, 0] rfl (b_X3_readNumber_4 C _ _ _ h)
theorem c_X3_readNumber {G : Gv} {w : Wd} {res : Wd} (h : f_X3_readNumber w = some res) (l : Launch) : MC l yX3_readNumber cX3_readNumber 3 none 2 G SX w [.ref (G.2 64)] none res := mc_of (by decide +kernel) rfl (Nat.le_of_ble_eq_true rfl) rfl (fun V C => b_X3_readNumber_E C h) l
