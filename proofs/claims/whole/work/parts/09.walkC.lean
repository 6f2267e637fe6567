theorem cv_X8_61 {cc : ByteArray} {G : Gv} {n hc : Nat} {rt : Option FieldType} {rv : Option Value} {w0 : Wd} {V : Vt} {w : Wd} {pc : Nat} {L : List (Nat × Value)} {rest : List Value} {α : Type} {res : α} {p0 : Int32} {K : Int32 → Option α} (C : CX cc RX8 G SX n hc rt rv w0 V) (hd : decode cc pc = .ok (.invokestatic 61, 3)) (h : bd (f_X8_isKindWithMark p0) K = some res) (hR : 2 + 1 ≤ hc) (hr : (rest.map fun v => v.category).sum ≤ 8) (kk : ∀ q, K q = some res → V w (pc + 3) L (.int q :: rest)) : V w pc L (.int p0 :: rest) := r_callS (As := [.int p0]) (rest := rest) (rvf := fun q => (some (.int q))) (wf := fun q => w) C hd h ql_X8_61 qt_X8_isKindWithMark qn_X8 qc_X8_isKindWithMark ⟨by decide +kernel, by decide +kernel, (by decide +kernel : (parseMethodDescriptor yX8_isKindWithMark.desc).map (fun d => d.parameters.length) = some 1)⟩ ⟨hR, by decide⟩ (fun q hq l => c_X8_isKindWithMark hq l) rfl hr kk
theorem cv_X8_69 {cc : ByteArray} {G : Gv} {n hc : Nat} {rt : Option FieldType} {rv : Option Value} {w0 : Wd} {V : Vt} {w : Wd} {pc : Nat} {L : List (Nat × Value)} {rest : List Value} {α : Type} {res : α} {p1 : Int32} {K : Int32 × Wd → Option α} (C : CX cc RX8 G SX n hc rt rv w0 V) (hd : decode cc pc = .ok (.invokevirtual 69, 3)) (h : bd (f_X8_error p1 w) K = some res) (hR : 1 + 1 ≤ hc) (hr : (rest.map fun v => v.category).sum ≤ 8) (kk : ∀ q, K q = some res → V q.2 (pc + 3) L (.int q.1 :: rest)) : V w pc L (.int p1 :: .ref (G.2 0) :: rest) := r_callV (As := [.int p1]) (rest := rest) (rvf := fun q => (some (.int q.1))) (wf := fun q => q.2) C hd h ql_X8_69 qi_X8_error qs_X8_error qn_X8 qc_X8_error ⟨rfl, by decide +kernel, by decide +kernel, (by decide +kernel : (parseMethodDescriptor yX8_error.desc).map (fun d => d.parameters.length) = some 1)⟩ ⟨hR, by decide⟩ kx_0 rfl (fun q hq l => c_X8_error hq l) rfl hr kk
theorem cv_X8_80 {cc : ByteArray} {G : Gv} {n hc : Nat} {rt : Option FieldType} {rv : Option Value} {w0 : Wd} {V : Vt} {w : Wd} {pc : Nat} {L : List (Nat × Value)} {rest : List Value} {α : Type} {res : α} {b0 : Nat} {p1 : Int32} {p2 : Int32} {K : Int32 × Wd → Option α} (C : CX cc RX8 G SX n hc rt rv w0 V) (hd : decode cc pc = .ok (.invokevirtual 80, 3)) (hb0 : isTr b0 = true) (h : bd (f_X6_addPart b0 p1 p2 w) K = some res) (hR : 2 + 1 ≤ hc) (hr : (rest.map fun v => v.category).sum ≤ 8) (kk : ∀ q, K q = some res → V q.2 (pc + 3) L (.int q.1 :: rest)) : V w pc L (.int p2 :: .int p1 :: .ref (G.2 b0) :: rest) := r_callV (As := [.int p1, .int p2]) (rest := rest) (rvf := fun q => (some (.int q.1))) (wf := fun q => q.2) C hd h ql_X8_80 qi_X6_addPart qs_X6_addPart qn_X6 qc_X6_addPart ⟨rfl, by decide +kernel, by decide +kernel, (by decide +kernel : (parseMethodDescriptor yX6_addPart.desc).map (fun d => d.parameters.length) = some 2)⟩ ⟨hR, by decide⟩ (cTr_0 hb0) rfl (fun q hq l => c_X6_addPart hb0 hq l) rfl hr kk
def f_X8_part_17 (w : Wd) : Option (Int32 × Wd) := bd (f_X8_error (1:Int32) w) (fun q1 => some (q1.1, q1.2))
set_option maxRecDepth 20000 in
theorem b_X8_part_17 {G : Gv} {V : Vt} {res : Int32 × Wd}  (C : CX cX8_part RX8 G SX 3 3 (some FieldType.int) (some (.int res.1)) res.2 V) {w : Wd} (h : f_X8_part_17 w = some res) : V w 17 [(0, .ref (G.2 0))] [] := by
  unfold f_X8_part_17 at h
  refine r_aload_n (pc := 17) C dX8_part_17 rfl 0 rfl ?_
  refine r_iconst (v := (1:Int32)) (pc := 18) C dX8_part_18 (by decide) ?_
  refine cv_X8_69 (pc := 19) C dX8_part_19  h (by decide) (Nat.le_of_ble_eq_true rfl) (fun q1 h => ?_)
  exact r_iretE (pc := 22) C dX8_part_22 h
def f_X8_part (p1 : Int32) (p2 : Int32) (w : Wd) : Option (Int32 × Wd) := bd (f_X8_isKindWithMark p1) (fun q1 => (if q1 = 0 then f_X8_part_17 w else bd (f_X8_isWithin p2 (0:Int32) (99:Int32)) (fun q2 => (if ¬ q2 = 0 then (if (w 2 0) < (5:Int32) then bd (f_X6_addPart 2 p1 p2 w) (fun q3 => some (q3.1, q3.2)) else bd (f_X8_error (4:Int32) w) (fun q4 => some (q4.1, q4.2))) else f_X8_part_17 w))))
set_option maxRecDepth 20000 in
theorem b_X8_part_E {G : Gv} {V : Vt} {res : Int32 × Wd}  (C : CX cX8_part RX8 G SX 3 3 (some FieldType.int) (some (.int res.1)) res.2 V) {p1 : Int32} {p2 : Int32} {w : Wd} (h : f_X8_part p1 p2 w = some res) : V w 0 [(0, .ref (G.2 0)), (1, .int p1), (2, .int p2)] [] := by
  unfold f_X8_part at h
  refine r_iload_n (pc := 0) C dX8_part_0 rfl 1 rfl ?_
  refine cv_X8_61 (pc := 1) C dX8_part_1  h (by decide) (Nat.le_of_ble_eq_true rfl) (fun q1 h => ?_)
  refine r_if_eq (pc := 4) C 17 dX8_part_4 (by decide) h (fun h => ?_) (fun h => ?_)
  · exact r_sub C [0] rfl (b_X8_part_17 C h)
  · refine r_iload_n (pc := 7) C dX8_part_7 rfl 2 rfl ?_
    refine r_iconst (v := (0:Int32)) (pc := 8) C dX8_part_8 (by decide) ?_
    refine r_bipush (v := (99:Int32)) (pc := 9) C dX8_part_9 (by decide) ?_
    refine cv_X8_65 (pc := 11) C dX8_part_11  h (by decide) (Nat.le_of_ble_eq_true rfl) (fun q2 h => ?_)
    refine r_if_ne (pc := 14) C 23 dX8_part_14 (by decide) h (fun h => ?_) (fun h => ?_)
    · refine r_aload_n (pc := 23) C dX8_part_23 rfl 0 rfl ?_
      refine gr_X8_10 (pc := 24) 1 C dX8_part_24 kx_0 rfl ?_
      refine gr_X8_73 (pc := 27) 2 C dX8_part_27 kx_1 rfl ?_
      refine gi_X8_76 (pc := 30) C dX8_part_30 kx_2 rfl ?_
      refine r_iconst (v := (5:Int32)) (pc := 33) C dX8_part_33 (by decide) ?_
      refine r_icmp_lt (pc := 34) C 43 dX8_part_34 (by decide) h (fun h => ?_) (fun h => ?_)
      · refine r_aload_n (pc := 43) C dX8_part_43 rfl 0 rfl ?_
        refine gr_X8_10 (pc := 44) 1 C dX8_part_44 kx_0 rfl ?_
        refine gr_X8_73 (pc := 47) 2 C dX8_part_47 kx_1 rfl ?_
        refine r_iload_n (pc := 50) C dX8_part_50 rfl 1 rfl ?_
        refine r_iload_n (pc := 51) C dX8_part_51 rfl 2 rfl ?_
        refine cv_X8_80 (pc := 52) C dX8_part_52 isTr_2 h (by decide) (Nat.le_of_ble_eq_true rfl) (fun q3 h => ?_)
        exact r_iretE (pc := 55) C dX8_part_55 h
      · refine r_aload_n (pc := 37) C dX8_part_37 rfl 0 rfl ?_
        refine r_iconst (v := (4:Int32)) (pc := 38) C dX8_part_38 (by decide) ?_
        refine cv_X8_69 (pc := 39) C dX8_part_39  h (by decide) (Nat.le_of_ble_eq_true rfl) (fun q4 h => ?_)
        exact r_iretE (pc := 42) C dX8_part_42 h
    · exact r_sub C [0] rfl (b_X8_part_17 C h)
theorem c_X8_part {G : Gv} {p1 : Int32} {p2 : Int32} {w : Wd} {res : Int32 × Wd} (h : f_X8_part p1 p2 w = some res) (l : Launch) : MC l yX8_part cX8_part 3 (some FieldType.int) 3 G SX w [.ref (G.2 0), .int p1, .int p2] (some (.int res.1)) res.2 := mc_of (by decide +kernel) rfl (Nat.le_of_ble_eq_true rfl) rfl (fun V C => b_X8_part_E C h) l
theorem cv_X8_84 {cc : ByteArray} {G : Gv} {n hc : Nat} {rt : Option FieldType} {rv : Option Value} {w0 : Wd} {V : Vt} {w : Wd} {pc : Nat} {L : List (Nat × Value)} {rest : List Value} {α : Type} {res : α} {b0 : Nat} {p1 : Int32} {K : Int32 → Option α} (C : CX cc RX8 G SX n hc rt rv w0 V) (hd : decode cc pc = .ok (.invokevirtual 84, 3)) (hb0 : isTr b0 = true) (h : bd (f_X6_hasPart b0 w p1) K = some res) (hR : 1 + 1 ≤ hc) (hr : (rest.map fun v => v.category).sum ≤ 8) (kk : ∀ q, K q = some res → V w (pc + 3) L (.int q :: rest)) : V w pc L (.int p1 :: .ref (G.2 b0) :: rest) := r_callV (As := [.int p1]) (rest := rest) (rvf := fun q => (some (.int q))) (wf := fun q => w) C hd h ql_X8_84 qi_X6_hasPart qs_X6_hasPart qn_X6 qc_X6_hasPart ⟨rfl, by decide +kernel, by decide +kernel, (by decide +kernel : (parseMethodDescriptor yX6_hasPart.desc).map (fun d => d.parameters.length) = some 1)⟩ ⟨hR, by decide⟩ (cTr_0 hb0) rfl (fun q hq l => c_X6_hasPart hb0 hq l) rfl hr kk
theorem cv_X8_99 {cc : ByteArray} {G : Gv} {n hc : Nat} {rt : Option FieldType} {rv : Option Value} {w0 : Wd} {V : Vt} {w : Wd} {pc : Nat} {L : List (Nat × Value)} {rest : List Value} {α : Type} {res : α} {b0 : Nat} {p1 : Int32} {K : Int32 → Option α} (C : CX cc RX8 G SX n hc rt rv w0 V) (hd : decode cc pc = .ok (.invokevirtual 99, 3)) (hb0 : isTr b0 = true) (h : bd (f_X6_isEmpty b0 w p1) K = some res) (hR : 1 + 1 ≤ hc) (hr : (rest.map fun v => v.category).sum ≤ 8) (kk : ∀ q, K q = some res → V w (pc + 3) L (.int q :: rest)) : V w pc L (.int p1 :: .ref (G.2 b0) :: rest) := r_callV (As := [.int p1]) (rest := rest) (rvf := fun q => (some (.int q))) (wf := fun q => w) C hd h ql_X8_99 qi_X6_isEmpty qs_X6_isEmpty qn_X6 qc_X6_isEmpty ⟨rfl, by decide +kernel, by decide +kernel, (by decide +kernel : (parseMethodDescriptor yX6_isEmpty.desc).map (fun d => d.parameters.length) = some 1)⟩ ⟨hR, by decide⟩ (cTr_0 hb0) rfl (fun q hq l => c_X6_isEmpty hb0 hq l) rfl hr kk
theorem cv_X8_102 {cc : ByteArray} {G : Gv} {n hc : Nat} {rt : Option FieldType} {rv : Option Value} {w0 : Wd} {V : Vt} {w : Wd} {pc : Nat} {L : List (Nat × Value)} {rest : List Value} {α : Type} {res : α} {b0 : Nat} {p1 : Int32} {K : Int32 → Option α} (C : CX cc RX8 G SX n hc rt rv w0 V) (hd : decode cc pc = .ok (.invokevirtual 102, 3)) (hb0 : isTr b0 = true) (h : bd (f_X6_whoMay b0 w p1) K = some res) (hR : 3 + 1 ≤ hc) (hr : (rest.map fun v => v.category).sum ≤ 8) (kk : ∀ q, K q = some res → V w (pc + 3) L (.int q :: rest)) : V w pc L (.int p1 :: .ref (G.2 b0) :: rest) := r_callV (As := [.int p1]) (rest := rest) (rvf := fun q => (some (.int q))) (wf := fun q => w) C hd h ql_X8_102 qi_X6_whoMay qs_X6_whoMay qn_X6 qc_X6_whoMay ⟨rfl, by decide +kernel, by decide +kernel, (by decide +kernel : (parseMethodDescriptor yX6_whoMay.desc).map (fun d => d.parameters.length) = some 1)⟩ ⟨hR, by decide⟩ (cTr_0 hb0) rfl (fun q hq l => c_X6_whoMay hb0 hq l) rfl hr kk
theorem cv_X8_105 {cc : ByteArray} {G : Gv} {n hc : Nat} {rt : Option FieldType} {rv : Option Value} {w0 : Wd} {V : Vt} {w : Wd} {pc : Nat} {L : List (Nat × Value)} {rest : List Value} {α : Type} {res : α} {b0 : Nat} {p1 : Int32} {K : Int32 → Option α} (C : CX cc RX8 G SX n hc rt rv w0 V) (hd : decode cc pc = .ok (.invokevirtual 105, 3)) (hb0 : isTr b0 = true) (h : bd (f_X6_whoKnow b0 w p1) K = some res) (hR : 2 + 1 ≤ hc) (hr : (rest.map fun v => v.category).sum ≤ 8) (kk : ∀ q, K q = some res → V w (pc + 3) L (.int q :: rest)) : V w pc L (.int p1 :: .ref (G.2 b0) :: rest) := r_callV (As := [.int p1]) (rest := rest) (rvf := fun q => (some (.int q))) (wf := fun q => w) C hd h ql_X8_105 qi_X6_whoKnow qs_X6_whoKnow qn_X6 qc_X6_whoKnow ⟨rfl, by decide +kernel, by decide +kernel, (by decide +kernel : (parseMethodDescriptor yX6_whoKnow.desc).map (fun d => d.parameters.length) = some 1)⟩ ⟨hR, by decide⟩ (cTr_0 hb0) rfl (fun q hq l => c_X6_whoKnow hb0 hq l) rfl hr kk
def f_X8_ofPart (p1 : Int32) (p2 : Int32) (w : Wd) : Option (Int32 × Wd) := bd (f_X6_hasPart 2 w p1) (fun q1 => (if ¬ q1 = 0 then (if p2 = (0:Int32) then ald w 3 5 p1 (fun v2 => some (v2, w)) else (if p2 = (1:Int32) then ald w 4 5 p1 (fun v3 => some (v3, w)) else (if p2 = (2:Int32) then ald w 5 5 p1 (fun v4 => some (v4, w)) else (if p2 = (3:Int32) then ald w 6 5 p1 (fun v5 => some (v5, w)) else (if p2 = (4:Int32) then bd (f_X6_isEmpty 2 w p1) (fun q6 => (if q6 = 0 then some ((0:Int32), w) else some ((1:Int32), w))) else (if p2 = (5:Int32) then bd (f_X6_whoMay 2 w p1) (fun q7 => some (q7, w)) else (if p2 = (6:Int32) then bd (f_X6_whoKnow 2 w p1) (fun q8 => some (q8, w)) else bd (f_X8_error (1:Int32) w) (fun q9 => some (q9.1, q9.2))))))))) else bd (f_X8_error (1:Int32) w) (fun q10 => some (q10.1, q10.2))))
set_option maxRecDepth 20000 in
theorem b_X8_ofPart_E {G : Gv} {V : Vt} {res : Int32 × Wd}  (C : CX cX8_ofPart RX8 G SX 4 4 (some FieldType.int) (some (.int res.1)) res.2 V) {p1 : Int32} {p2 : Int32} {w : Wd} (h : f_X8_ofPart p1 p2 w = some res) : V w 0 [(0, .ref (G.2 0)), (1, .int p1), (2, .int p2)] [] := by
  unfold f_X8_ofPart at h
  refine r_aload_n (pc := 0) C dX8_ofPart_0 rfl 0 rfl ?_
  refine gr_X8_10 (pc := 1) 1 C dX8_ofPart_1 kx_0 rfl ?_
  refine gr_X8_73 (pc := 4) 2 C dX8_ofPart_4 kx_1 rfl ?_
  refine r_astore_n (L' := [(3, .ref (G.2 2)), (0, .ref (G.2 0)), (1, .int p1), (2, .int p2)]) (pc := 7) C dX8_ofPart_7 rfl (by decide) rfl ?_
  refine r_aload_n (pc := 8) C dX8_ofPart_8 rfl 0 rfl ?_
  refine r_iload_n (pc := 9) C dX8_ofPart_9 rfl 2 rfl ?_
  refine cv_X8_84 (pc := 10) C dX8_ofPart_10 isTr_2 h (by decide) (Nat.le_of_ble_eq_true rfl) (fun q1 h => ?_)
  refine r_if_ne (pc := 13) C 22 dX8_ofPart_13 (by decide) h (fun h => ?_) (fun h => ?_)
  · refine r_iload_n (pc := 22) C dX8_ofPart_22 rfl 3 rfl ?_
    refine r_tsw (pc := 23) C (0:Int32) 64 dX8_ofPart_23 (by decide) (by decide) rfl (by decide) h (fun h => ?_) (fun n0 h => ?_)
    · refine r_aload_n (pc := 64) C dX8_ofPart_64 rfl 0 rfl ?_
      refine gr_X8_87 (pc := 65) 3 C dX8_ofPart_65 kx_2 rfl ?_
      refine r_iload_n (pc := 68) C dX8_ofPart_68 rfl 2 rfl ?_
      refine r_ald (pc := 69) C dX8_ofPart_69 h kx_3 (fun v2 h => ?_)
      exact r_iretE (pc := 70) C dX8_ofPart_70 h
    refine r_tsw (pc := 23) C (1:Int32) 71 dX8_ofPart_23 (by decide) (by decide) rfl (by decide) h (fun h => ?_) (fun n1 h => ?_)
    · refine r_aload_n (pc := 71) C dX8_ofPart_71 rfl 0 rfl ?_
      refine gr_X8_90 (pc := 72) 4 C dX8_ofPart_72 kx_2 rfl ?_
      refine r_iload_n (pc := 75) C dX8_ofPart_75 rfl 2 rfl ?_
      refine r_ald (pc := 76) C dX8_ofPart_76 h kx_4 (fun v3 h => ?_)
      exact r_iretE (pc := 77) C dX8_ofPart_77 h
    refine r_tsw (pc := 23) C (2:Int32) 78 dX8_ofPart_23 (by decide) (by decide) rfl (by decide) h (fun h => ?_) (fun n2 h => ?_)
    · refine r_aload_n (pc := 78) C dX8_ofPart_78 rfl 0 rfl ?_
      refine gr_X8_93 (pc := 79) 5 C dX8_ofPart_79 kx_2 rfl ?_
      refine r_iload_n (pc := 82) C dX8_ofPart_82 rfl 2 rfl ?_
      refine r_ald (pc := 83) C dX8_ofPart_83 h kx_5 (fun v4 h => ?_)
      exact r_iretE (pc := 84) C dX8_ofPart_84 h
    refine r_tsw (pc := 23) C (3:Int32) 85 dX8_ofPart_23 (by decide) (by decide) rfl (by decide) h (fun h => ?_) (fun n3 h => ?_)
    · refine r_aload_n (pc := 85) C dX8_ofPart_85 rfl 0 rfl ?_
      refine gr_X8_96 (pc := 86) 6 C dX8_ofPart_86 kx_2 rfl ?_
      refine r_iload_n (pc := 89) C dX8_ofPart_89 rfl 2 rfl ?_
      refine r_ald (pc := 90) C dX8_ofPart_90 h kx_6 (fun v5 h => ?_)
      exact r_iretE (pc := 91) C dX8_ofPart_91 h
    refine r_tsw (pc := 23) C (4:Int32) 92 dX8_ofPart_23 (by decide) (by decide) rfl (by decide) h (fun h => ?_) (fun n4 h => ?_)
    · refine r_aload_n (pc := 92) C dX8_ofPart_92 rfl 0 rfl ?_
      refine r_iload_n (pc := 93) C dX8_ofPart_93 rfl 2 rfl ?_
      refine cv_X8_99 (pc := 94) C dX8_ofPart_94 isTr_2 h (by decide) (Nat.le_of_ble_eq_true rfl) (fun q6 h => ?_)
      refine r_if_eq (pc := 97) C 104 dX8_ofPart_97 (by decide) h (fun h => ?_) (fun h => ?_)
      · refine r_iconst (v := (0:Int32)) (pc := 104) C dX8_ofPart_104 (by decide) ?_
        exact r_iretE (pc := 105) C dX8_ofPart_105 h
      · refine r_iconst (v := (1:Int32)) (pc := 100) C dX8_ofPart_100 (by decide) ?_
        refine r_goto (pc := 101) C 105 dX8_ofPart_101 (by decide) ?_
        exact r_iretE (pc := 105) C dX8_ofPart_105 h
    refine r_tsw (pc := 23) C (5:Int32) 106 dX8_ofPart_23 (by decide) (by decide) rfl (by decide) h (fun h => ?_) (fun n5 h => ?_)
    · refine r_aload_n (pc := 106) C dX8_ofPart_106 rfl 0 rfl ?_
      refine r_iload_n (pc := 107) C dX8_ofPart_107 rfl 2 rfl ?_
      refine cv_X8_102 (pc := 108) C dX8_ofPart_108 isTr_2 h (by decide) (Nat.le_of_ble_eq_true rfl) (fun q7 h => ?_)
      exact r_iretE (pc := 111) C dX8_ofPart_111 h
    refine r_tsw (pc := 23) C (6:Int32) 112 dX8_ofPart_23 (by decide) (by decide) rfl (by decide) h (fun h => ?_) (fun n6 h => ?_)
    · refine r_aload_n (pc := 112) C dX8_ofPart_112 rfl 0 rfl ?_
      refine r_iload_n (pc := 113) C dX8_ofPart_113 rfl 2 rfl ?_
      refine cv_X8_105 (pc := 114) C dX8_ofPart_114 isTr_2 h (by decide) (Nat.le_of_ble_eq_true rfl) (fun q8 h => ?_)
      exact r_iretE (pc := 117) C dX8_ofPart_117 h
    refine r_tswD (pc := 23) C 118 dX8_ofPart_23 (by have z0 := toInt_ne n0; have z1 := toInt_ne n1; have z2 := toInt_ne n2; have z3 := toInt_ne n3; have z4 := toInt_ne n4; have z5 := toInt_ne n5; have z6 := toInt_ne n6; simp only [Int32.reduceToInt, ne_eq] at *; omega) (by decide) ?_
    refine r_aload_n (pc := 118) C dX8_ofPart_118 rfl 1 rfl ?_
    refine r_iconst (v := (1:Int32)) (pc := 119) C dX8_ofPart_119 (by decide) ?_
    refine cv_X8_69 (pc := 120) C dX8_ofPart_120  h (by decide) (Nat.le_of_ble_eq_true rfl) (fun q9 h => ?_)
    exact r_iretE (pc := 123) C dX8_ofPart_123 h
  · refine r_aload_n (pc := 16) C dX8_ofPart_16 rfl 1 rfl ?_
    refine r_iconst (v := (1:Int32)) (pc := 17) C dX8_ofPart_17 (by decide) ?_
    refine cv_X8_69 (pc := 18) C dX8_ofPart_18  h (by decide) (Nat.le_of_ble_eq_true rfl) (fun q10 h => ?_)
    exact r_iretE (pc := 21) C dX8_ofPart_21 h
theorem c_X8_ofPart {G : Gv} {p1 : Int32} {p2 : Int32} {w : Wd} {res : Int32 × Wd} (h : f_X8_ofPart p1 p2 w = some res) (l : Launch) : MC l yX8_ofPart cX8_ofPart 4 (some FieldType.int) 4 G SX w [.ref (G.2 0), .int p1, .int p2] (some (.int res.1)) res.2 := mc_of (by decide +kernel) rfl (Nat.le_of_ble_eq_true rfl) rfl (fun V C => b_X8_ofPart_E C h) l
def f_X8_lines_24 (w : Wd) : Option (Int32 × Wd) := bd (f_X8_error (1:Int32) w) (fun q1 => some (q1.1, q1.2))
set_option maxRecDepth 20000 in
theorem b_X8_lines_24 {G : Gv} {V : Vt} {res : Int32 × Wd}  (C : CX cX8_lines RX8 G SX 4 2 (some FieldType.int) (some (.int res.1)) res.2 V) {w : Wd} (h : f_X8_lines_24 w = some res) : V w 24 [(0, .ref (G.2 0))] [] := by
  unfold f_X8_lines_24 at h
  refine r_aload_n (pc := 24) C dX8_lines_24 rfl 0 rfl ?_
  refine r_iconst (v := (1:Int32)) (pc := 25) C dX8_lines_25 (by decide) ?_
  refine cv_X8_69 (pc := 26) C dX8_lines_26  h (by decide) (Nat.le_of_ble_eq_true rfl) (fun q1 h => ?_)
  exact r_iretE (pc := 29) C dX8_lines_29 h
def f_X8_lines (p1 : Int32) (p2 : Int32) (w : Wd) : Option (Int32 × Wd) := bd (f_X6_hasPart 2 w p1) (fun q1 => (if q1 = 0 then f_X8_lines_24 w else bd (f_X8_isWithin p2 (0:Int32) (99:Int32)) (fun q2 => (if ¬ q2 = 0 then ald w 5 5 p1 (fun v3 => ast w 5 5 p1 p2 (fun w4 => some (v3, w4))) else f_X8_lines_24 w))))
set_option maxRecDepth 20000 in
theorem b_X8_lines_E {G : Gv} {V : Vt} {res : Int32 × Wd}  (C : CX cX8_lines RX8 G SX 4 2 (some FieldType.int) (some (.int res.1)) res.2 V) {p1 : Int32} {p2 : Int32} {w : Wd} (h : f_X8_lines p1 p2 w = some res) : V w 0 [(0, .ref (G.2 0)), (1, .int p1), (2, .int p2)] [] := by
  unfold f_X8_lines at h
  refine r_aload_n (pc := 0) C dX8_lines_0 rfl 0 rfl ?_
  refine gr_X8_10 (pc := 1) 1 C dX8_lines_1 kx_0 rfl ?_
  refine gr_X8_73 (pc := 4) 2 C dX8_lines_4 kx_1 rfl ?_
  refine r_iload_n (pc := 7) C dX8_lines_7 rfl 1 rfl ?_
  refine cv_X8_84 (pc := 8) C dX8_lines_8 isTr_2 h (by decide) (Nat.le_of_ble_eq_true rfl) (fun q1 h => ?_)
  refine r_if_eq (pc := 11) C 24 dX8_lines_11 (by decide) h (fun h => ?_) (fun h => ?_)
  · exact r_sub C [0] rfl (b_X8_lines_24 C h)
  · refine r_iload_n (pc := 14) C dX8_lines_14 rfl 2 rfl ?_
    refine r_iconst (v := (0:Int32)) (pc := 15) C dX8_lines_15 (by decide) ?_
    refine r_bipush (v := (99:Int32)) (pc := 16) C dX8_lines_16 (by decide) ?_
    refine cv_X8_65 (pc := 18) C dX8_lines_18  h (by decide) (Nat.le_of_ble_eq_true rfl) (fun q2 h => ?_)
    refine r_if_ne (pc := 21) C 30 dX8_lines_21 (by decide) h (fun h => ?_) (fun h => ?_)
    · refine r_aload_n (pc := 30) C dX8_lines_30 rfl 0 rfl ?_
      refine gr_X8_10 (pc := 31) 1 C dX8_lines_31 kx_0 rfl ?_
      refine gr_X8_73 (pc := 34) 2 C dX8_lines_34 kx_1 rfl ?_
      refine gr_X8_93 (pc := 37) 5 C dX8_lines_37 kx_2 rfl ?_
      refine r_iload_n (pc := 40) C dX8_lines_40 rfl 1 rfl ?_
      refine r_ald (pc := 41) C dX8_lines_41 h kx_5 (fun v3 h => ?_)
      refine r_istore_n (L' := [(3, .int v3), (0, .ref (G.2 0)), (1, .int p1), (2, .int p2)]) (pc := 42) C dX8_lines_42 rfl (by decide) rfl ?_
      refine r_aload_n (pc := 43) C dX8_lines_43 rfl 1 rfl ?_
      refine gr_X8_10 (pc := 44) 1 C dX8_lines_44 kx_0 rfl ?_
      refine gr_X8_73 (pc := 47) 2 C dX8_lines_47 kx_1 rfl ?_
      refine gr_X8_93 (pc := 50) 5 C dX8_lines_50 kx_2 rfl ?_
      refine r_iload_n (pc := 53) C dX8_lines_53 rfl 2 rfl ?_
      refine r_iload_n (pc := 54) C dX8_lines_54 rfl 3 rfl ?_
      refine r_ast (pc := 55) C dX8_lines_55 h kx_5 (fun w4 h => ?_)
      refine r_iload_n (pc := 56) C dX8_lines_56 rfl 0 rfl ?_
      exact r_iretE (pc := 57) C dX8_lines_57 h
    · exact r_sub C [0] rfl (b_X8_lines_24 C h)
theorem c_X8_lines {G : Gv} {p1 : Int32} {p2 : Int32} {w : Wd} {res : Int32 × Wd} (h : f_X8_lines p1 p2 w = some res) (l : Launch) : MC l yX8_lines cX8_lines 4 (some FieldType.int) 2 G SX w [.ref (G.2 0), .int p1, .int p2] (some (.int res.1)) res.2 := mc_of (by decide +kernel) rfl (Nat.le_of_ble_eq_true rfl) rfl (fun V C => b_X8_lines_E C h) l
theorem cv_X8_108 {cc : ByteArray} {G : Gv} {n hc : Nat} {rt : Option FieldType} {rv : Option Value} {w0 : Wd} {V : Vt} {w : Wd} {pc : Nat} {L : List (Nat × Value)} {rest : List Value} {α : Type} {res : α} {b0 : Nat} {p1 : Int32} {p2 : Int32} {K : Wd → Option α} (C : CX cc RX8 G SX n hc rt rv w0 V) (hd : decode cc pc = .ok (.invokevirtual 108, 3)) (hb0 : isTr b0 = true) (h : bd (f_X6_shape b0 p1 p2 w) K = some res) (hR : 1 + 1 ≤ hc) (hr : (rest.map fun v => v.category).sum ≤ 8) (kk : ∀ q, K q = some res → V q (pc + 3) L (rest)) : V w pc L (.int p2 :: .int p1 :: .ref (G.2 b0) :: rest) := r_callV (As := [.int p1, .int p2]) (rest := rest) (rvf := fun q => none) (wf := fun q => q) C hd h ql_X8_108 qi_X6_shape qs_X6_shape qn_X6 qc_X6_shape ⟨rfl, by decide +kernel, by decide +kernel, (by decide +kernel : (parseMethodDescriptor yX6_shape.desc).map (fun d => d.parameters.length) = some 2)⟩ ⟨hR, by decide⟩ (cTr_0 hb0) rfl (fun q hq l => c_X6_shape hb0 hq l) rfl hr kk
def f_X8_become_21 (w : Wd) : Option (Int32 × Wd) := bd (f_X8_error (1:Int32) w) (fun q1 => some (q1.1, q1.2))
set_option maxRecDepth 20000 in
theorem b_X8_become_21 {G : Gv} {V : Vt} {res : Int32 × Wd}  (C : CX cX8_become RX8 G SX 4 3 (some FieldType.int) (some (.int res.1)) res.2 V) {w : Wd} (h : f_X8_become_21 w = some res) : V w 21 [(0, .ref (G.2 0))] [] := by
  unfold f_X8_become_21 at h
  refine r_aload_n (pc := 21) C dX8_become_21 rfl 0 rfl ?_
  refine r_iconst (v := (1:Int32)) (pc := 22) C dX8_become_22 (by decide) ?_
  refine cv_X8_69 (pc := 23) C dX8_become_23  h (by decide) (Nat.le_of_ble_eq_true rfl) (fun q1 h => ?_)
  exact r_iretE (pc := 26) C dX8_become_26 h
def f_X8_become (p1 : Int32) (p2 : Int32) (w : Wd) : Option (Int32 × Wd) := bd (f_X6_hasPart 2 w p1) (fun q1 => (if q1 = 0 then f_X8_become_21 w else bd (f_X8_isKindWithMark p2) (fun q2 => (if ¬ q2 = 0 then ald w 3 5 p1 (fun v3 => bd (f_X6_shape 2 p1 p2 w) (fun q4 => some (v3, q4))) else f_X8_become_21 w))))
set_option maxRecDepth 20000 in
theorem b_X8_become_E {G : Gv} {V : Vt} {res : Int32 × Wd}  (C : CX cX8_become RX8 G SX 4 3 (some FieldType.int) (some (.int res.1)) res.2 V) {p1 : Int32} {p2 : Int32} {w : Wd} (h : f_X8_become p1 p2 w = some res) : V w 0 [(0, .ref (G.2 0)), (1, .int p1), (2, .int p2)] [] := by
  unfold f_X8_become at h
  refine r_aload_n (pc := 0) C dX8_become_0 rfl 0 rfl ?_
  refine gr_X8_10 (pc := 1) 1 C dX8_become_1 kx_0 rfl ?_
  refine gr_X8_73 (pc := 4) 2 C dX8_become_4 kx_1 rfl ?_
  refine r_iload_n (pc := 7) C dX8_become_7 rfl 1 rfl ?_
  refine cv_X8_84 (pc := 8) C dX8_become_8 isTr_2 h (by decide) (Nat.le_of_ble_eq_true rfl) (fun q1 h => ?_)
  refine r_if_eq (pc := 11) C 21 dX8_become_11 (by decide) h (fun h => ?_) (fun h => ?_)
  · exact r_sub C [0] rfl (b_X8_become_21 C h)
  · refine r_iload_n (pc := 14) C dX8_become_14 rfl 2 rfl ?_
    refine cv_X8_61 (pc := 15) C dX8_become_15  h (by decide) (Nat.le_of_ble_eq_true rfl) (fun q2 h => ?_)
    refine r_if_ne (pc := 18) C 27 dX8_become_18 (by decide) h (fun h => ?_) (fun h => ?_)
    · refine r_aload_n (pc := 27) C dX8_become_27 rfl 0 rfl ?_
      refine gr_X8_10 (pc := 28) 1 C dX8_become_28 kx_0 rfl ?_
      refine gr_X8_73 (pc := 31) 2 C dX8_become_31 kx_1 rfl ?_
      refine gr_X8_87 (pc := 34) 3 C dX8_become_34 kx_2 rfl ?_
      refine r_iload_n (pc := 37) C dX8_become_37 rfl 1 rfl ?_
      refine r_ald (pc := 38) C dX8_become_38 h kx_3 (fun v3 h => ?_)
      refine r_istore_n (L' := [(3, .int v3), (0, .ref (G.2 0)), (1, .int p1), (2, .int p2)]) (pc := 39) C dX8_become_39 rfl (by decide) rfl ?_
      refine r_aload_n (pc := 40) C dX8_become_40 rfl 1 rfl ?_
      refine gr_X8_10 (pc := 41) 1 C dX8_become_41 kx_0 rfl ?_
      refine gr_X8_73 (pc := 44) 2 C dX8_become_44 kx_1 rfl ?_
      refine r_iload_n (pc := 47) C dX8_become_47 rfl 2 rfl ?_
      refine r_iload_n (pc := 48) C dX8_become_48 rfl 3 rfl ?_
      refine cv_X8_108 (pc := 49) C dX8_become_49 isTr_2 h (by decide) (Nat.le_of_ble_eq_true rfl) (fun q4 h => ?_)
      refine r_iload_n (pc := 52) C dX8_become_52 rfl 0 rfl ?_
      exact r_iretE (pc := 53) C dX8_become_53 h
    · exact r_sub C [0] rfl (b_X8_become_21 C h)
theorem c_X8_become {G : Gv} {p1 : Int32} {p2 : Int32} {w : Wd} {res : Int32 × Wd} (h : f_X8_become p1 p2 w = some res) (l : Launch) : MC l yX8_become cX8_become 4 (some FieldType.int) 3 G SX w [.ref (G.2 0), .int p1, .int p2] (some (.int res.1)) res.2 := mc_of (by decide +kernel) rfl (Nat.le_of_ble_eq_true rfl) rfl (fun V C => b_X8_become_E C h) l
theorem cv_X8_112 {cc : ByteArray} {G : Gv} {n hc : Nat} {rt : Option FieldType} {rv : Option Value} {w0 : Wd} {V : Vt} {w : Wd} {pc : Nat} {L : List (Nat × Value)} {rest : List Value} {α : Type} {res : α} {p0 : Int32} {p1 : Int32} {K : Int32 → Option α} (C : CX cc RX8 G SX n hc rt rv w0 V) (hd : decode cc pc = .ok (.invokestatic 112, 3)) (h : bd (f_X8_isUnder w p0 p1) K = some res) (hR : 1 + 1 ≤ hc) (hr : (rest.map fun v => v.category).sum ≤ 8) (kk : ∀ q, K q = some res → V w (pc + 3) L (.int q :: rest)) : V w pc L (.int p1 :: .int p0 :: rest) := r_callS (As := [.int p0, .int p1]) (rest := rest) (rvf := fun q => (some (.int q))) (wf := fun q => w) C hd h ql_X8_112 qt_X8_isUnder qn_X8 qc_X8_isUnder ⟨by decide +kernel, by decide +kernel, (by decide +kernel : (parseMethodDescriptor yX8_isUnder.desc).map (fun d => d.parameters.length) = some 2)⟩ ⟨hR, by decide⟩ (fun q hq l => c_X8_isUnder hq l) rfl hr kk
def f_X8_as_24 (w : Wd) : Option (Int32 × Wd) := bd (f_X8_error (1:Int32) w) (fun q1 => some (q1.1, q1.2))
set_option maxRecDepth 20000 in
theorem b_X8_as_24 {G : Gv} {V : Vt} {res : Int32 × Wd}  (C : CX cX8_as RX8 G SX 3 2 (some FieldType.int) (some (.int res.1)) res.2 V) {w : Wd} (h : f_X8_as_24 w = some res) : V w 24 [(0, .ref (G.2 0))] [] := by
  unfold f_X8_as_24 at h
  refine r_aload_n (pc := 24) C dX8_as_24 rfl 0 rfl ?_
  refine r_iconst (v := (1:Int32)) (pc := 25) C dX8_as_25 (by decide) ?_
  refine cv_X8_69 (pc := 26) C dX8_as_26  h (by decide) (Nat.le_of_ble_eq_true rfl) (fun q1 h => ?_)
  exact r_iretE (pc := 29) C dX8_as_29 h
def f_X8_as (p1 : Int32) (p2 : Int32) (w : Wd) : Option (Int32 × Wd) := bd (f_X6_hasPart 2 w p1) (fun q1 => (if q1 = 0 then f_X8_as_24 w else bd (f_X8_isWithin p2 (0:Int32) (6:Int32)) (fun q2 => (if ¬ q2 = 0 then ald w 3 5 p1 (fun v3 => bd (f_X8_isUnder w v3 p2) (fun q4 => (if ¬ q4 = 0 then ald w 4 5 p1 (fun v5 => some (v5, w)) else bd (f_X8_error (5:Int32) w) (fun q6 => some (q6.1, q6.2))))) else f_X8_as_24 w))))
set_option maxRecDepth 20000 in
theorem b_X8_as_E {G : Gv} {V : Vt} {res : Int32 × Wd}  (C : CX cX8_as RX8 G SX 3 2 (some FieldType.int) (some (.int res.1)) res.2 V) {p1 : Int32} {p2 : Int32} {w : Wd} (h : f_X8_as p1 p2 w = some res) : V w 0 [(0, .ref (G.2 0)), (1, .int p1), (2, .int p2)] [] := by
  unfold f_X8_as at h
  refine r_aload_n (pc := 0) C dX8_as_0 rfl 0 rfl ?_
  refine gr_X8_10 (pc := 1) 1 C dX8_as_1 kx_0 rfl ?_
  refine gr_X8_73 (pc := 4) 2 C dX8_as_4 kx_1 rfl ?_
  refine r_iload_n (pc := 7) C dX8_as_7 rfl 1 rfl ?_
  refine cv_X8_84 (pc := 8) C dX8_as_8 isTr_2 h (by decide) (Nat.le_of_ble_eq_true rfl) (fun q1 h => ?_)
  refine r_if_eq (pc := 11) C 24 dX8_as_11 (by decide) h (fun h => ?_) (fun h => ?_)
  · exact r_sub C [0] rfl (b_X8_as_24 C h)
  · refine r_iload_n (pc := 14) C dX8_as_14 rfl 2 rfl ?_
    refine r_iconst (v := (0:Int32)) (pc := 15) C dX8_as_15 (by decide) ?_
    refine r_bipush (v := (6:Int32)) (pc := 16) C dX8_as_16 (by decide) ?_
    refine cv_X8_65 (pc := 18) C dX8_as_18  h (by decide) (Nat.le_of_ble_eq_true rfl) (fun q2 h => ?_)
    refine r_if_ne (pc := 21) C 30 dX8_as_21 (by decide) h (fun h => ?_) (fun h => ?_)
    · refine r_aload_n (pc := 30) C dX8_as_30 rfl 0 rfl ?_
      refine gr_X8_10 (pc := 31) 1 C dX8_as_31 kx_0 rfl ?_
      refine gr_X8_73 (pc := 34) 2 C dX8_as_34 kx_1 rfl ?_
      refine gr_X8_87 (pc := 37) 3 C dX8_as_37 kx_2 rfl ?_
      refine r_iload_n (pc := 40) C dX8_as_40 rfl 1 rfl ?_
      refine r_ald (pc := 41) C dX8_as_41 h kx_3 (fun v3 h => ?_)
      refine r_iload_n (pc := 42) C dX8_as_42 rfl 2 rfl ?_
      refine cv_X8_112 (pc := 43) C dX8_as_43  h (by decide) (Nat.le_of_ble_eq_true rfl) (fun q4 h => ?_)
      refine r_if_ne (pc := 46) C 55 dX8_as_46 (by decide) h (fun h => ?_) (fun h => ?_)
      · refine r_aload_n (pc := 55) C dX8_as_55 rfl 0 rfl ?_
        refine gr_X8_10 (pc := 56) 1 C dX8_as_56 kx_0 rfl ?_
        refine gr_X8_73 (pc := 59) 2 C dX8_as_59 kx_1 rfl ?_
        refine gr_X8_90 (pc := 62) 4 C dX8_as_62 kx_2 rfl ?_
        refine r_iload_n (pc := 65) C dX8_as_65 rfl 1 rfl ?_
        refine r_ald (pc := 66) C dX8_as_66 h kx_4 (fun v5 h => ?_)
        exact r_iretE (pc := 67) C dX8_as_67 h
      · refine r_aload_n (pc := 49) C dX8_as_49 rfl 0 rfl ?_
        refine r_iconst (v := (5:Int32)) (pc := 50) C dX8_as_50 (by decide) ?_
        refine cv_X8_69 (pc := 51) C dX8_as_51  h (by decide) (Nat.le_of_ble_eq_true rfl) (fun q6 h => ?_)
        exact r_iretE (pc := 54) C dX8_as_54 h
    · exact r_sub C [0] rfl (b_X8_as_24 C h)
theorem c_X8_as {G : Gv} {p1 : Int32} {p2 : Int32} {w : Wd} {res : Int32 × Wd} (h : f_X8_as p1 p2 w = some res) (l : Launch) : MC l yX8_as cX8_as 3 (some FieldType.int) 2 G SX w [.ref (G.2 0), .int p1, .int p2] (some (.int res.1)) res.2 := mc_of (by decide +kernel) rfl (Nat.le_of_ble_eq_true rfl) rfl (fun V C => b_X8_as_E C h) l
theorem cv_X8_119 {cc : ByteArray} {G : Gv} {n hc : Nat} {rt : Option FieldType} {rv : Option Value} {w0 : Wd} {V : Vt} {w : Wd} {pc : Nat} {L : List (Nat × Value)} {rest : List Value} {α : Type} {res : α} {b0 : Nat} {p1 : Int32} {p2 : Int32} {K : Int32 × Wd → Option α} (C : CX cc RX8 G SX n hc rt rv w0 V) (hd : decode cc pc = .ok (.invokevirtual 119, 3)) (hb0 : isTr b0 = true) (h : bd (f_X6_addPlayer b0 p1 p2 w) K = some res) (hR : 1 + 1 ≤ hc) (hr : (rest.map fun v => v.category).sum ≤ 8) (kk : ∀ q, K q = some res → V q.2 (pc + 3) L (.int q.1 :: rest)) : V w pc L (.int p2 :: .int p1 :: .ref (G.2 b0) :: rest) := r_callV (As := [.int p1, .int p2]) (rest := rest) (rvf := fun q => (some (.int q.1))) (wf := fun q => q.2) C hd h ql_X8_119 qi_X6_addPlayer qs_X6_addPlayer qn_X6 qc_X6_addPlayer ⟨rfl, by decide +kernel, by decide +kernel, (by decide +kernel : (parseMethodDescriptor yX6_addPlayer.desc).map (fun d => d.parameters.length) = some 2)⟩ ⟨hR, by decide⟩ (cTr_0 hb0) rfl (fun q hq l => c_X6_addPlayer hb0 hq l) rfl hr kk
def f_X8_player_65 (t0 : Int32) (t1 : Int32) (w : Wd) : Option (Int32 × Wd) := bd (f_X6_addPlayer 2 t1 t0 w) (fun q1 => some (q1.1, q1.2))
set_option maxRecDepth 20000 in
theorem b_X8_player_65 {G : Gv} {V : Vt} {res : Int32 × Wd}  (C : CX cX8_player RX8 G SX 2 2 (some FieldType.int) (some (.int res.1)) res.2 V) {t0 : Int32} {t1 : Int32} {w : Wd} (h : f_X8_player_65 t0 t1 w = some res) : V w 65 [] [.int t0, .int t1, .ref (G.2 2)] := by
  unfold f_X8_player_65 at h
  refine cv_X8_119 (pc := 65) C dX8_player_65 isTr_2 h (by decide) (Nat.le_of_ble_eq_true rfl) (fun q1 h => ?_)
  exact r_iretE (pc := 68) C dX8_player_68 h
def f_X8_player_25 (x1 : Int32) (w : Wd) : Option (Int32 × Wd) := (if (w 2 5) < (6:Int32) then (if 0 ≤ x1 then f_X8_player_65 ((1:Int32) <<< (x1 &&& 31)) x1 w else f_X8_player_65 (0:Int32) x1 w) else bd (f_X8_error (4:Int32) w) (fun q1 => some (q1.1, q1.2)))
set_option maxRecDepth 20000 in
theorem b_X8_player_25 {G : Gv} {V : Vt} {res : Int32 × Wd}  (C : CX cX8_player RX8 G SX 2 2 (some FieldType.int) (some (.int res.1)) res.2 V) {x1 : Int32} {w : Wd} (h : f_X8_player_25 x1 w = some res) : V w 25 [(0, .ref (G.2 0)), (1, .int x1)] [] := by
  unfold f_X8_player_25 at h
  refine r_aload_n (pc := 25) C dX8_player_25 rfl 0 rfl ?_
  refine gr_X8_10 (pc := 26) 1 C dX8_player_26 kx_0 rfl ?_
  refine gr_X8_73 (pc := 29) 2 C dX8_player_29 kx_1 rfl ?_
  refine gi_X8_116 (pc := 32) C dX8_player_32 kx_2 rfl ?_
  refine r_bipush (v := (6:Int32)) (pc := 35) C dX8_player_35 (by decide) ?_
  refine r_icmp_lt (pc := 37) C 46 dX8_player_37 (by decide) h (fun h => ?_) (fun h => ?_)
  · refine r_aload_n (pc := 46) C dX8_player_46 rfl 0 rfl ?_
    refine gr_X8_10 (pc := 47) 1 C dX8_player_47 kx_0 rfl ?_
    refine gr_X8_73 (pc := 50) 2 C dX8_player_50 kx_1 rfl ?_
    refine r_iload_n (pc := 53) C dX8_player_53 rfl 1 rfl ?_
    refine r_iload_n (pc := 54) C dX8_player_54 rfl 1 rfl ?_
    refine r_if_ge (pc := 55) C 62 dX8_player_55 (by decide) h (fun h => ?_) (fun h => ?_)
    · refine r_iconst (v := (1:Int32)) (pc := 62) C dX8_player_62 (by decide) ?_
      refine r_iload_n (pc := 63) C dX8_player_63 rfl 1 rfl ?_
      refine r_ishl (pc := 64) C dX8_player_64 ?_
      exact r_sub C [] rfl (b_X8_player_65 C h)
    · refine r_iconst (v := (0:Int32)) (pc := 58) C dX8_player_58 (by decide) ?_
      refine r_goto (pc := 59) C 65 dX8_player_59 (by decide) ?_
      exact r_sub C [] rfl (b_X8_player_65 C h)
  · refine r_aload_n (pc := 40) C dX8_player_40 rfl 0 rfl ?_
    refine r_iconst (v := (4:Int32)) (pc := 41) C dX8_player_41 (by decide) ?_
    refine cv_X8_69 (pc := 42) C dX8_player_42  h (by decide) (Nat.le_of_ble_eq_true rfl) (fun q1 h => ?_)
    exact r_iretE (pc := 45) C dX8_player_45 h
def f_X8_player (p1 : Int32) (w : Wd) : Option (Int32 × Wd) := (if p1 = (-1:Int32) then f_X8_player_25 p1 w else bd (f_X6_hasPart 2 w p1) (fun q1 => (if ¬ q1 = 0 then f_X8_player_25 p1 w else bd (f_X8_error (1:Int32) w) (fun q2 => some (q2.1, q2.2)))))
set_option maxRecDepth 20000 in
theorem b_X8_player_E {G : Gv} {V : Vt} {res : Int32 × Wd}  (C : CX cX8_player RX8 G SX 2 2 (some FieldType.int) (some (.int res.1)) res.2 V) {p1 : Int32} {w : Wd} (h : f_X8_player p1 w = some res) : V w 0 [(0, .ref (G.2 0)), (1, .int p1)] [] := by
  unfold f_X8_player at h
  refine r_iload_n (pc := 0) C dX8_player_0 rfl 1 rfl ?_
  refine r_iconst (v := (-1:Int32)) (pc := 1) C dX8_player_1 (by decide) ?_
  refine r_icmp_eq (pc := 2) C 25 dX8_player_2 (by decide) h (fun h => ?_) (fun h => ?_)
  · exact r_sub C [0, 1] rfl (b_X8_player_25 C h)
  · refine r_aload_n (pc := 5) C dX8_player_5 rfl 0 rfl ?_
    refine gr_X8_10 (pc := 6) 1 C dX8_player_6 kx_0 rfl ?_
    refine gr_X8_73 (pc := 9) 2 C dX8_player_9 kx_1 rfl ?_
    refine r_iload_n (pc := 12) C dX8_player_12 rfl 1 rfl ?_
    refine cv_X8_84 (pc := 13) C dX8_player_13 isTr_2 h (by decide) (Nat.le_of_ble_eq_true rfl) (fun q1 h => ?_)
    refine r_if_ne (pc := 16) C 25 dX8_player_16 (by decide) h (fun h => ?_) (fun h => ?_)
    · exact r_sub C [0, 1] rfl (b_X8_player_25 C h)
    · refine r_aload_n (pc := 19) C dX8_player_19 rfl 0 rfl ?_
      refine r_iconst (v := (1:Int32)) (pc := 20) C dX8_player_20 (by decide) ?_
      refine cv_X8_69 (pc := 21) C dX8_player_21  h (by decide) (Nat.le_of_ble_eq_true rfl) (fun q2 h => ?_)
      exact r_iretE (pc := 24) C dX8_player_24 h
theorem c_X8_player {G : Gv} {p1 : Int32} {w : Wd} {res : Int32 × Wd} (h : f_X8_player p1 w = some res) (l : Launch) : MC l yX8_player cX8_player 2 (some FieldType.int) 2 G SX w [.ref (G.2 0), .int p1] (some (.int res.1)) res.2 := mc_of (by decide +kernel) rfl (Nat.le_of_ble_eq_true rfl) rfl (fun V C => b_X8_player_E C h) l
theorem cv_X8_122 {cc : ByteArray} {G : Gv} {n hc : Nat} {rt : Option FieldType} {rv : Option Value} {w0 : Wd} {V : Vt} {w : Wd} {pc : Nat} {L : List (Nat × Value)} {rest : List Value} {α : Type} {res : α} {b0 : Nat} {p1 : Int32} {K : Int32 → Option α} (C : CX cc RX8 G SX n hc rt rv w0 V) (hd : decode cc pc = .ok (.invokevirtual 122, 3)) (hb0 : isTr b0 = true) (h : bd (f_X6_hasPlayer b0 w p1) K = some res) (hR : 1 + 1 ≤ hc) (hr : (rest.map fun v => v.category).sum ≤ 8) (kk : ∀ q, K q = some res → V w (pc + 3) L (.int q :: rest)) : V w pc L (.int p1 :: .ref (G.2 b0) :: rest) := r_callV (As := [.int p1]) (rest := rest) (rvf := fun q => (some (.int q))) (wf := fun q => w) C hd h ql_X8_122 qi_X6_hasPlayer qs_X6_hasPlayer qn_X6 qc_X6_hasPlayer ⟨rfl, by decide +kernel, by decide +kernel, (by decide +kernel : (parseMethodDescriptor yX6_hasPlayer.desc).map (fun d => d.parameters.length) = some 1)⟩ ⟨hR, by decide⟩ (cTr_0 hb0) rfl (fun q hq l => c_X6_hasPlayer hb0 hq l) rfl hr kk
theorem cv_X8_140 {cc : ByteArray} {G : Gv} {n hc : Nat} {rt : Option FieldType} {rv : Option Value} {w0 : Wd} {V : Vt} {w : Wd} {pc : Nat} {L : List (Nat × Value)} {rest : List Value} {α : Type} {res : α} {b0 : Nat} {p1 : Int32} {K : Int32 → Option α} (C : CX cc RX8 G SX n hc rt rv w0 V) (hd : decode cc pc = .ok (.invokevirtual 140, 3)) (hb0 : isTr b0 = true) (h : bd (f_X6_whatMay b0 w p1) K = some res) (hR : 4 + 1 ≤ hc) (hr : (rest.map fun v => v.category).sum ≤ 8) (kk : ∀ q, K q = some res → V w (pc + 3) L (.int q :: rest)) : V w pc L (.int p1 :: .ref (G.2 b0) :: rest) := r_callV (As := [.int p1]) (rest := rest) (rvf := fun q => (some (.int q))) (wf := fun q => w) C hd h ql_X8_140 qi_X6_whatMay qs_X6_whatMay qn_X6 qc_X6_whatMay ⟨rfl, by decide +kernel, by decide +kernel, (by decide +kernel : (parseMethodDescriptor yX6_whatMay.desc).map (fun d => d.parameters.length) = some 1)⟩ ⟨hR, by decide⟩ (cTr_0 hb0) rfl (fun q hq l => c_X6_whatMay hb0 hq l) rfl hr kk
def f_X8_ofPlayer (p1 : Int32) (p2 : Int32) (w : Wd) : Option (Int32 × Wd) := bd (f_X6_hasPlayer 2 w p1) (fun q1 => (if ¬ q1 = 0 then (if p2 = (0:Int32) then ald w 7 6 p1 (fun v2 => some (v2, w)) else (if p2 = (1:Int32) then ald w 8 6 p1 (fun v3 => some (v3, w)) else (if p2 = (2:Int32) then ald w 9 6 p1 (fun v4 => some (v4, w)) else (if p2 = (3:Int32) then ald w 10 6 p1 (fun v5 => some (v5, w)) else (if p2 = (4:Int32) then some ((((w 2 10) >>> (p1 &&& 31)) &&& (1:Int32)), w) else (if p2 = (5:Int32) then bd (f_X6_whatMay 2 w p1) (fun q6 => some (q6, w)) else bd (f_X8_error (1:Int32) w) (fun q7 => some (q7.1, q7.2)))))))) else bd (f_X8_error (1:Int32) w) (fun q8 => some (q8.1, q8.2))))
set_option maxRecDepth 20000 in
theorem b_X8_ofPlayer_E {G : Gv} {V : Vt} {res : Int32 × Wd}  (C : CX cX8_ofPlayer RX8 G SX 4 5 (some FieldType.int) (some (.int res.1)) res.2 V) {p1 : Int32} {p2 : Int32} {w : Wd} (h : f_X8_ofPlayer p1 p2 w = some res) : V w 0 [(0, .ref (G.2 0)), (1, .int p1), (2, .int p2)] [] := by
  unfold f_X8_ofPlayer at h
  refine r_aload_n (pc := 0) C dX8_ofPlayer_0 rfl 0 rfl ?_
  refine gr_X8_10 (pc := 1) 1 C dX8_ofPlayer_1 kx_0 rfl ?_
  refine gr_X8_73 (pc := 4) 2 C dX8_ofPlayer_4 kx_1 rfl ?_
  refine r_astore_n (L' := [(3, .ref (G.2 2)), (0, .ref (G.2 0)), (1, .int p1), (2, .int p2)]) (pc := 7) C dX8_ofPlayer_7 rfl (by decide) rfl ?_
  refine r_aload_n (pc := 8) C dX8_ofPlayer_8 rfl 0 rfl ?_
  refine r_iload_n (pc := 9) C dX8_ofPlayer_9 rfl 2 rfl ?_
  refine cv_X8_122 (pc := 10) C dX8_ofPlayer_10 isTr_2 h (by decide) (Nat.le_of_ble_eq_true rfl) (fun q1 h => ?_)
  refine r_if_ne (pc := 13) C 22 dX8_ofPlayer_13 (by decide) h (fun h => ?_) (fun h => ?_)
  · refine r_iload_n (pc := 22) C dX8_ofPlayer_22 rfl 3 rfl ?_
    refine r_tsw (pc := 23) C (0:Int32) 60 dX8_ofPlayer_23 (by decide) (by decide) rfl (by decide) h (fun h => ?_) (fun n0 h => ?_)
    · refine r_aload_n (pc := 60) C dX8_ofPlayer_60 rfl 0 rfl ?_
      refine gr_X8_125 (pc := 61) 7 C dX8_ofPlayer_61 kx_2 rfl ?_
      refine r_iload_n (pc := 64) C dX8_ofPlayer_64 rfl 2 rfl ?_
      refine r_ald (pc := 65) C dX8_ofPlayer_65 h kx_7 (fun v2 h => ?_)
      exact r_iretE (pc := 66) C dX8_ofPlayer_66 h
    refine r_tsw (pc := 23) C (1:Int32) 67 dX8_ofPlayer_23 (by decide) (by decide) rfl (by decide) h (fun h => ?_) (fun n1 h => ?_)
    · refine r_aload_n (pc := 67) C dX8_ofPlayer_67 rfl 0 rfl ?_
      refine gr_X8_128 (pc := 68) 8 C dX8_ofPlayer_68 kx_2 rfl ?_
      refine r_iload_n (pc := 71) C dX8_ofPlayer_71 rfl 2 rfl ?_
      refine r_ald (pc := 72) C dX8_ofPlayer_72 h kx_8 (fun v3 h => ?_)
      exact r_iretE (pc := 73) C dX8_ofPlayer_73 h
    refine r_tsw (pc := 23) C (2:Int32) 74 dX8_ofPlayer_23 (by decide) (by decide) rfl (by decide) h (fun h => ?_) (fun n2 h => ?_)
    · refine r_aload_n (pc := 74) C dX8_ofPlayer_74 rfl 0 rfl ?_
      refine gr_X8_131 (pc := 75) 9 C dX8_ofPlayer_75 kx_2 rfl ?_
      refine r_iload_n (pc := 78) C dX8_ofPlayer_78 rfl 2 rfl ?_
      refine r_ald (pc := 79) C dX8_ofPlayer_79 h kx_9 (fun v4 h => ?_)
      exact r_iretE (pc := 80) C dX8_ofPlayer_80 h
    refine r_tsw (pc := 23) C (3:Int32) 81 dX8_ofPlayer_23 (by decide) (by decide) rfl (by decide) h (fun h => ?_) (fun n3 h => ?_)
    · refine r_aload_n (pc := 81) C dX8_ofPlayer_81 rfl 0 rfl ?_
      refine gr_X8_134 (pc := 82) 10 C dX8_ofPlayer_82 kx_2 rfl ?_
      refine r_iload_n (pc := 85) C dX8_ofPlayer_85 rfl 2 rfl ?_
      refine r_ald (pc := 86) C dX8_ofPlayer_86 h kx_10 (fun v5 h => ?_)
      exact r_iretE (pc := 87) C dX8_ofPlayer_87 h
    refine r_tsw (pc := 23) C (4:Int32) 88 dX8_ofPlayer_23 (by decide) (by decide) rfl (by decide) h (fun h => ?_) (fun n4 h => ?_)
    · refine r_aload_n (pc := 88) C dX8_ofPlayer_88 rfl 0 rfl ?_
      refine gi_X8_137 (pc := 89) C dX8_ofPlayer_89 kx_2 rfl ?_
      refine r_iload_n (pc := 92) C dX8_ofPlayer_92 rfl 2 rfl ?_
      refine r_ishr (pc := 93) C dX8_ofPlayer_93 ?_
      refine r_iconst (v := (1:Int32)) (pc := 94) C dX8_ofPlayer_94 (by decide) ?_
      refine r_iand (pc := 95) C dX8_ofPlayer_95 ?_
      exact r_iretE (pc := 96) C dX8_ofPlayer_96 h
    refine r_tsw (pc := 23) C (5:Int32) 97 dX8_ofPlayer_23 (by decide) (by decide) rfl (by decide) h (fun h => ?_) (fun n5 h => ?_)
    · refine r_aload_n (pc := 97) C dX8_ofPlayer_97 rfl 0 rfl ?_
      refine r_iload_n (pc := 98) C dX8_ofPlayer_98 rfl 2 rfl ?_
      refine cv_X8_140 (pc := 99) C dX8_ofPlayer_99 isTr_2 h (by decide) (Nat.le_of_ble_eq_true rfl) (fun q6 h => ?_)
      exact r_iretE (pc := 102) C dX8_ofPlayer_102 h
    refine r_tswD (pc := 23) C 103 dX8_ofPlayer_23 (by have z0 := toInt_ne n0; have z1 := toInt_ne n1; have z2 := toInt_ne n2; have z3 := toInt_ne n3; have z4 := toInt_ne n4; have z5 := toInt_ne n5; simp only [Int32.reduceToInt, ne_eq] at *; omega) (by decide) ?_
    refine r_aload_n (pc := 103) C dX8_ofPlayer_103 rfl 1 rfl ?_
    refine r_iconst (v := (1:Int32)) (pc := 104) C dX8_ofPlayer_104 (by decide) ?_
    refine cv_X8_69 (pc := 105) C dX8_ofPlayer_105  h (by decide) (Nat.le_of_ble_eq_true rfl) (fun q7 h => ?_)
    exact r_iretE (pc := 108) C dX8_ofPlayer_108 h
  · refine r_aload_n (pc := 16) C dX8_ofPlayer_16 rfl 1 rfl ?_
    refine r_iconst (v := (1:Int32)) (pc := 17) C dX8_ofPlayer_17 (by decide) ?_
    refine cv_X8_69 (pc := 18) C dX8_ofPlayer_18  h (by decide) (Nat.le_of_ble_eq_true rfl) (fun q8 h => ?_)
    exact r_iretE (pc := 21) C dX8_ofPlayer_21 h
theorem c_X8_ofPlayer {G : Gv} {p1 : Int32} {p2 : Int32} {w : Wd} {res : Int32 × Wd} (h : f_X8_ofPlayer p1 p2 w = some res) (l : Launch) : MC l yX8_ofPlayer cX8_ofPlayer 4 (some FieldType.int) 5 G SX w [.ref (G.2 0), .int p1, .int p2] (some (.int res.1)) res.2 := mc_of (by decide +kernel) rfl (Nat.le_of_ble_eq_true rfl) rfl (fun V C => b_X8_ofPlayer_E C h) l
def f_X8_swap (b0 : Nat) (p1 : Int32) (p2 : Int32) (w : Wd) : Option (Int32 × Wd) := ald w b0 (lenX b0) p1 (fun v1 => ast w b0 (lenX b0) p1 p2 (fun w2 => some (v1, w2)))
set_option maxRecDepth 20000 in
theorem b_X8_swap_E {G : Gv} {V : Vt} {b0 : Nat} {res : Int32 × Wd} (hb0 : isAr b0 = true)  (C : CX cX8_swap RX8 G SX 4 1 (some FieldType.int) (some (.int res.1)) res.2 V) {p1 : Int32} {p2 : Int32} {w : Wd} (h : f_X8_swap b0 p1 p2 w = some res) : V w 0 [(0, .ref (G.2 b0)), (1, .int p1), (2, .int p2)] [] := by
  unfold f_X8_swap at h
  refine r_aload_n (pc := 0) C dX8_swap_0 rfl 0 rfl ?_
  refine r_iload_n (pc := 1) C dX8_swap_1 rfl 1 rfl ?_
  refine r_ald (pc := 2) C dX8_swap_2 h (cAr_0 hb0) (fun v1 h => ?_)
  refine r_istore_n (L' := [(3, .int v1), (0, .ref (G.2 b0)), (1, .int p1), (2, .int p2)]) (pc := 3) C dX8_swap_3 rfl (by decide) rfl ?_
  refine r_aload_n (pc := 4) C dX8_swap_4 rfl 1 rfl ?_
  refine r_iload_n (pc := 5) C dX8_swap_5 rfl 2 rfl ?_
  refine r_iload_n (pc := 6) C dX8_swap_6 rfl 3 rfl ?_
  refine r_ast (pc := 7) C dX8_swap_7 h (cAr_0 hb0) (fun w2 h => ?_)
  refine r_iload_n (pc := 8) C dX8_swap_8 rfl 0 rfl ?_
  exact r_iretE (pc := 9) C dX8_swap_9 h
theorem c_X8_swap {G : Gv} {b0 : Nat} {p1 : Int32} {p2 : Int32} {w : Wd} {res : Int32 × Wd} (hb0 : isAr b0 = true) (h : f_X8_swap b0 p1 p2 w = some res) (l : Launch) : MC l yX8_swap cX8_swap 4 (some FieldType.int) 1 G SX w [.ref (G.2 b0), .int p1, .int p2] (some (.int res.1)) res.2 := mc_of (by decide +kernel) rfl (Nat.le_of_ble_eq_true rfl) rfl (fun V C => b_X8_swap_E hb0 C h) l
theorem cv_X8_143 {cc : ByteArray} {G : Gv} {n hc : Nat} {rt : Option FieldType} {rv : Option Value} {w0 : Wd} {V : Vt} {w : Wd} {pc : Nat} {L : List (Nat × Value)} {rest : List Value} {α : Type} {res : α} {b0 : Nat} {K : Int32 → Option α} (C : CX cc RX8 G SX n hc rt rv w0 V) (hd : decode cc pc = .ok (.invokevirtual 143, 3)) (hb0 : isTr b0 = true) (h : bd (f_X6_allParts b0 w) K = some res) (hR : 1 + 1 ≤ hc) (hr : (rest.map fun v => v.category).sum ≤ 8) (kk : ∀ q, K q = some res → V w (pc + 3) L (.int q :: rest)) : V w pc L (.ref (G.2 b0) :: rest) := r_callV (As := []) (rest := rest) (rvf := fun q => (some (.int q))) (wf := fun q => w) C hd h ql_X8_143 qi_X6_allParts qs_X6_allParts qn_X6 qc_X6_allParts ⟨rfl, by decide +kernel, by decide +kernel, (by decide +kernel : (parseMethodDescriptor yX6_allParts.desc).map (fun d => d.parameters.length) = some 0)⟩ ⟨hR, by decide⟩ (cTr_0 hb0) rfl (fun q hq l => c_X6_allParts hb0 hq l) rfl hr kk
theorem cv_X8_147 {cc : ByteArray} {G : Gv} {n hc : Nat} {rt : Option FieldType} {rv : Option Value} {w0 : Wd} {V : Vt} {w : Wd} {pc : Nat} {L : List (Nat × Value)} {rest : List Value} {α : Type} {res : α} {b0 : Nat} {p1 : Int32} {p2 : Int32} {K : Int32 × Wd → Option α} (C : CX cc RX8 G SX n hc rt rv w0 V) (hd : decode cc pc = .ok (.invokestatic 147, 3)) (hb0 : isAr b0 = true) (h : bd (f_X8_swap b0 p1 p2 w) K = some res) (hR : 1 + 1 ≤ hc) (hr : (rest.map fun v => v.category).sum ≤ 8) (kk : ∀ q, K q = some res → V q.2 (pc + 3) L (.int q.1 :: rest)) : V w pc L (.int p2 :: .int p1 :: .ref (G.2 b0) :: rest) := r_callS (As := [.ref (G.2 b0), .int p1, .int p2]) (rest := rest) (rvf := fun q => (some (.int q.1))) (wf := fun q => q.2) C hd h ql_X8_147 qt_X8_swap qn_X8 qc_X8_swap ⟨by decide +kernel, by decide +kernel, (by decide +kernel : (parseMethodDescriptor yX8_swap.desc).map (fun d => d.parameters.length) = some 3)⟩ ⟨hR, by decide⟩ (fun q hq l => c_X8_swap hb0 hq l) rfl hr kk
theorem cv_X8_151 {cc : ByteArray} {G : Gv} {n hc : Nat} {rt : Option FieldType} {rv : Option Value} {w0 : Wd} {V : Vt} {w : Wd} {pc : Nat} {L : List (Nat × Value)} {rest : List Value} {α : Type} {res : α} {b0 : Nat} {p1 : Int32} {p2 : Int32} {K : Int32 × Wd → Option α} (C : CX cc RX8 G SX n hc rt rv w0 V) (hd : decode cc pc = .ok (.invokevirtual 151, 3)) (hb0 : isTr b0 = true) (h : bd (f_X6_swapIll b0 p1 p2 w) K = some res) (hR : 1 + 1 ≤ hc) (hr : (rest.map fun v => v.category).sum ≤ 8) (kk : ∀ q, K q = some res → V q.2 (pc + 3) L (.int q.1 :: rest)) : V w pc L (.int p2 :: .int p1 :: .ref (G.2 b0) :: rest) := r_callV (As := [.int p1, .int p2]) (rest := rest) (rvf := fun q => (some (.int q.1))) (wf := fun q => q.2) C hd h ql_X8_151 qi_X6_swapIll qs_X6_swapIll qn_X6 qc_X6_swapIll ⟨rfl, by decide +kernel, by decide +kernel, (by decide +kernel : (parseMethodDescriptor yX6_swapIll.desc).map (fun d => d.parameters.length) = some 2)⟩ ⟨hR, by decide⟩ (cTr_0 hb0) rfl (fun q hq l => c_X6_swapIll hb0 hq l) rfl hr kk
def f_X8_change (p1 : Int32) (p2 : Int32) (p3 : Int32) (w : Wd) : Option (Int32 × Wd) := bd (f_X6_hasPlayer 2 w p1) (fun q1 => (if ¬ q1 = 0 then (if p2 = (0:Int32) then bd (f_X6_allParts 2 w) (fun q2 => bd (f_X8_isWithin p3 (0:Int32) q2) (fun q3 => (if q3 = 0 then bd (f_X8_error (1:Int32) w) (fun q4 => some (q4.1, q4.2)) else bd (f_X8_swap 7 p1 p3 w) (fun q5 => some (q5.1, q5.2))))) else (if p2 = (1:Int32) then bd (f_X6_allParts 2 w) (fun q6 => bd (f_X8_isWithin p3 (0:Int32) q6) (fun q7 => (if q7 = 0 then bd (f_X8_error (1:Int32) w) (fun q8 => some (q8.1, q8.2)) else bd (f_X8_swap 8 p1 p3 w) (fun q9 => some (q9.1, q9.2))))) else (if p2 = (2:Int32) then bd (f_X8_isWithin p3 (-1:Int32) ((w 2 0) - (1:Int32))) (fun q10 => (if q10 = 0 then bd (f_X8_error (1:Int32) w) (fun q11 => some (q11.1, q11.2)) else bd (f_X8_swap 9 p1 p3 w) (fun q12 => some (q12.1, q12.2)))) else (if p2 = (3:Int32) then bd (f_X8_isWithin p3 (0:Int32) (1:Int32)) (fun q13 => (if q13 = 0 then bd (f_X8_error (1:Int32) w) (fun q14 => some (q14.1, q14.2)) else bd (f_X6_swapIll 2 p1 p3 w) (fun q15 => some (q15.1, q15.2)))) else bd (f_X8_error (1:Int32) w) (fun q16 => some (q16.1, q16.2)))))) else bd (f_X8_error (1:Int32) w) (fun q17 => some (q17.1, q17.2))))
set_option maxRecDepth 20000 in
theorem b_X8_change_E {G : Gv} {V : Vt} {res : Int32 × Wd}  (C : CX cX8_change RX8 G SX 5 2 (some FieldType.int) (some (.int res.1)) res.2 V) {p1 : Int32} {p2 : Int32} {p3 : Int32} {w : Wd} (h : f_X8_change p1 p2 p3 w = some res) : V w 0 [(0, .ref (G.2 0)), (1, .int p1), (2, .int p2), (3, .int p3)] [] := by
  unfold f_X8_change at h
  refine r_aload_n (pc := 0) C dX8_change_0 rfl 0 rfl ?_
  refine gr_X8_10 (pc := 1) 1 C dX8_change_1 kx_0 rfl ?_
  refine gr_X8_73 (pc := 4) 2 C dX8_change_4 kx_1 rfl ?_
  refine r_astore (L' := [(4, .ref (G.2 2)), (0, .ref (G.2 0)), (1, .int p1), (2, .int p2), (3, .int p3)]) (pc := 7) C dX8_change_7 (by decide) rfl ?_
  refine r_aload (pc := 9) C dX8_change_9 0 rfl ?_
  refine r_iload_n (pc := 11) C dX8_change_11 rfl 2 rfl ?_
  refine cv_X8_122 (pc := 12) C dX8_change_12 isTr_2 h (by decide) (Nat.le_of_ble_eq_true rfl) (fun q1 h => ?_)
  refine r_if_ne (pc := 15) C 24 dX8_change_15 (by decide) h (fun h => ?_) (fun h => ?_)
  · refine r_iload_n (pc := 24) C dX8_change_24 rfl 3 rfl ?_
    refine r_tsw (pc := 25) C (0:Int32) 56 dX8_change_25 (by decide) (by decide) rfl (by decide) h (fun h => ?_) (fun n0 h => ?_)
    · refine r_iload_n (pc := 56) C dX8_change_56 rfl 4 rfl ?_
      refine r_iconst (v := (0:Int32)) (pc := 57) C dX8_change_57 (by decide) ?_
      refine r_aload (pc := 58) C dX8_change_58 0 rfl ?_
      refine cv_X8_143 (pc := 60) C dX8_change_60 isTr_2 h (by decide) (Nat.le_of_ble_eq_true rfl) (fun q2 h => ?_)
      refine cv_X8_65 (pc := 63) C dX8_change_63  h (by decide) (Nat.le_of_ble_eq_true rfl) (fun q3 h => ?_)
      refine r_if_eq (pc := 66) C 82 dX8_change_66 (by decide) h (fun h => ?_) (fun h => ?_)
      · refine r_aload_n (pc := 82) C dX8_change_82 rfl 1 rfl ?_
        refine r_iconst (v := (1:Int32)) (pc := 83) C dX8_change_83 (by decide) ?_
        refine cv_X8_69 (pc := 84) C dX8_change_84  h (by decide) (Nat.le_of_ble_eq_true rfl) (fun q4 h => ?_)
        exact r_iretE (pc := 87) C dX8_change_87 h
      · refine r_aload (pc := 69) C dX8_change_69 0 rfl ?_
        refine gr_X8_125 (pc := 71) 7 C dX8_change_71 kx_2 rfl ?_
        refine r_iload_n (pc := 74) C dX8_change_74 rfl 2 rfl ?_
        refine r_iload_n (pc := 75) C dX8_change_75 rfl 4 rfl ?_
        refine cv_X8_147 (pc := 76) C dX8_change_76 isAr_7 h (by decide) (Nat.le_of_ble_eq_true rfl) (fun q5 h => ?_)
        refine r_goto (pc := 79) C 87 dX8_change_79 (by decide) ?_
        exact r_iretE (pc := 87) C dX8_change_87 h
    refine r_tsw (pc := 25) C (1:Int32) 88 dX8_change_25 (by decide) (by decide) rfl (by decide) h (fun h => ?_) (fun n1 h => ?_)
    · refine r_iload_n (pc := 88) C dX8_change_88 rfl 4 rfl ?_
      refine r_iconst (v := (0:Int32)) (pc := 89) C dX8_change_89 (by decide) ?_
      refine r_aload (pc := 90) C dX8_change_90 0 rfl ?_
      refine cv_X8_143 (pc := 92) C dX8_change_92 isTr_2 h (by decide) (Nat.le_of_ble_eq_true rfl) (fun q6 h => ?_)
      refine cv_X8_65 (pc := 95) C dX8_change_95  h (by decide) (Nat.le_of_ble_eq_true rfl) (fun q7 h => ?_)
      refine r_if_eq (pc := 98) C 114 dX8_change_98 (by decide) h (fun h => ?_) (fun h => ?_)
      · refine r_aload_n (pc := 114) C dX8_change_114 rfl 1 rfl ?_
        refine r_iconst (v := (1:Int32)) (pc := 115) C dX8_change_115 (by decide) ?_
        refine cv_X8_69 (pc := 116) C dX8_change_116  h (by decide) (Nat.le_of_ble_eq_true rfl) (fun q8 h => ?_)
        exact r_iretE (pc := 119) C dX8_change_119 h
      · refine r_aload (pc := 101) C dX8_change_101 0 rfl ?_
        refine gr_X8_128 (pc := 103) 8 C dX8_change_103 kx_2 rfl ?_
        refine r_iload_n (pc := 106) C dX8_change_106 rfl 2 rfl ?_
        refine r_iload_n (pc := 107) C dX8_change_107 rfl 4 rfl ?_
        refine cv_X8_147 (pc := 108) C dX8_change_108 isAr_8 h (by decide) (Nat.le_of_ble_eq_true rfl) (fun q9 h => ?_)
        refine r_goto (pc := 111) C 119 dX8_change_111 (by decide) ?_
        exact r_iretE (pc := 119) C dX8_change_119 h
    refine r_tsw (pc := 25) C (2:Int32) 120 dX8_change_25 (by decide) (by decide) rfl (by decide) h (fun h => ?_) (fun n2 h => ?_)
    · refine r_iload_n (pc := 120) C dX8_change_120 rfl 4 rfl ?_
      refine r_iconst (v := (-1:Int32)) (pc := 121) C dX8_change_121 (by decide) ?_
      refine r_aload (pc := 122) C dX8_change_122 0 rfl ?_
      refine gi_X8_76 (pc := 124) C dX8_change_124 kx_2 rfl ?_
      refine r_iconst (v := (1:Int32)) (pc := 127) C dX8_change_127 (by decide) ?_
      refine r_isub (pc := 128) C dX8_change_128 ?_
      refine cv_X8_65 (pc := 129) C dX8_change_129  h (by decide) (Nat.le_of_ble_eq_true rfl) (fun q10 h => ?_)
      refine r_if_eq (pc := 132) C 148 dX8_change_132 (by decide) h (fun h => ?_) (fun h => ?_)
      · refine r_aload_n (pc := 148) C dX8_change_148 rfl 1 rfl ?_
        refine r_iconst (v := (1:Int32)) (pc := 149) C dX8_change_149 (by decide) ?_
        refine cv_X8_69 (pc := 150) C dX8_change_150  h (by decide) (Nat.le_of_ble_eq_true rfl) (fun q11 h => ?_)
        exact r_iretE (pc := 153) C dX8_change_153 h
      · refine r_aload (pc := 135) C dX8_change_135 0 rfl ?_
        refine gr_X8_131 (pc := 137) 9 C dX8_change_137 kx_2 rfl ?_
        refine r_iload_n (pc := 140) C dX8_change_140 rfl 2 rfl ?_
        refine r_iload_n (pc := 141) C dX8_change_141 rfl 4 rfl ?_
        refine cv_X8_147 (pc := 142) C dX8_change_142 isAr_9 h (by decide) (Nat.le_of_ble_eq_true rfl) (fun q12 h => ?_)
        refine r_goto (pc := 145) C 153 dX8_change_145 (by decide) ?_
        exact r_iretE (pc := 153) C dX8_change_153 h
    refine r_tsw (pc := 25) C (3:Int32) 154 dX8_change_25 (by decide) (by decide) rfl (by decide) h (fun h => ?_) (fun n3 h => ?_)
    · refine r_iload_n (pc := 154) C dX8_change_154 rfl 4 rfl ?_
      refine r_iconst (v := (0:Int32)) (pc := 155) C dX8_change_155 (by decide) ?_
      refine r_iconst (v := (1:Int32)) (pc := 156) C dX8_change_156 (by decide) ?_
      refine cv_X8_65 (pc := 157) C dX8_change_157  h (by decide) (Nat.le_of_ble_eq_true rfl) (fun q13 h => ?_)
      refine r_if_eq (pc := 160) C 173 dX8_change_160 (by decide) h (fun h => ?_) (fun h => ?_)
      · refine r_aload_n (pc := 173) C dX8_change_173 rfl 1 rfl ?_
        refine r_iconst (v := (1:Int32)) (pc := 174) C dX8_change_174 (by decide) ?_
        refine cv_X8_69 (pc := 175) C dX8_change_175  h (by decide) (Nat.le_of_ble_eq_true rfl) (fun q14 h => ?_)
        exact r_iretE (pc := 178) C dX8_change_178 h
      · refine r_aload (pc := 163) C dX8_change_163 0 rfl ?_
        refine r_iload_n (pc := 165) C dX8_change_165 rfl 2 rfl ?_
        refine r_iload_n (pc := 166) C dX8_change_166 rfl 4 rfl ?_
        refine cv_X8_151 (pc := 167) C dX8_change_167 isTr_2 h (by decide) (Nat.le_of_ble_eq_true rfl) (fun q15 h => ?_)
        refine r_goto (pc := 170) C 178 dX8_change_170 (by decide) ?_
        exact r_iretE (pc := 178) C dX8_change_178 h
    refine r_tswD (pc := 25) C 179 dX8_change_25 (by have z0 := toInt_ne n0; have z1 := toInt_ne n1; have z2 := toInt_ne n2; have z3 := toInt_ne n3; simp only [Int32.reduceToInt, ne_eq] at *; omega) (by decide) ?_
    refine r_aload_n (pc := 179) C dX8_change_179 rfl 1 rfl ?_
    refine r_iconst (v := (1:Int32)) (pc := 180) C dX8_change_180 (by decide) ?_
    refine cv_X8_69 (pc := 181) C dX8_change_181  h (by decide) (Nat.le_of_ble_eq_true rfl) (fun q16 h => ?_)
    exact r_iretE (pc := 184) C dX8_change_184 h
  · refine r_aload_n (pc := 18) C dX8_change_18 rfl 1 rfl ?_
    refine r_iconst (v := (1:Int32)) (pc := 19) C dX8_change_19 (by decide) ?_
    refine cv_X8_69 (pc := 20) C dX8_change_20  h (by decide) (Nat.le_of_ble_eq_true rfl) (fun q17 h => ?_)
    exact r_iretE (pc := 23) C dX8_change_23 h
theorem c_X8_change {G : Gv} {p1 : Int32} {p2 : Int32} {p3 : Int32} {w : Wd} {res : Int32 × Wd} (h : f_X8_change p1 p2 p3 w = some res) (l : Launch) : MC l yX8_change cX8_change 5 (some FieldType.int) 2 G SX w [.ref (G.2 0), .int p1, .int p2, .int p3] (some (.int res.1)) res.2 := mc_of (by decide +kernel) rfl (Nat.le_of_ble_eq_true rfl) rfl (fun V C => b_X8_change_E C h) l
def f_X8_gala (p1 : Int32) (w : Wd) : Option (Int32 × Wd) := bd (f_X8_isWithin p1 (0:Int32) (1:Int32)) (fun q1 => (if ¬ q1 = 0 then lv (w 2 11) (fun v2 => wl (updW w 2 11 p1) (fun w3 => some (v2, w3))) else bd (f_X8_error (1:Int32) w) (fun q4 => some (q4.1, q4.2))))
set_option maxRecDepth 20000 in
theorem b_X8_gala_E {G : Gv} {V : Vt} {res : Int32 × Wd}  (C : CX cX8_gala RX8 G SX 3 2 (some FieldType.int) (some (.int res.1)) res.2 V) {p1 : Int32} {w : Wd} (h : f_X8_gala p1 w = some res) : V w 0 [(0, .ref (G.2 0)), (1, .int p1)] [] := by
  unfold f_X8_gala at h
  refine r_iload_n (pc := 0) C dX8_gala_0 rfl 1 rfl ?_
  refine r_iconst (v := (0:Int32)) (pc := 1) C dX8_gala_1 (by decide) ?_
  refine r_iconst (v := (1:Int32)) (pc := 2) C dX8_gala_2 (by decide) ?_
  refine cv_X8_65 (pc := 3) C dX8_gala_3  h (by decide) (Nat.le_of_ble_eq_true rfl) (fun q1 h => ?_)
  refine r_if_ne (pc := 6) C 15 dX8_gala_6 (by decide) h (fun h => ?_) (fun h => ?_)
  · refine r_aload_n (pc := 15) C dX8_gala_15 rfl 0 rfl ?_
    refine gr_X8_10 (pc := 16) 1 C dX8_gala_16 kx_0 rfl ?_
    refine gr_X8_73 (pc := 19) 2 C dX8_gala_19 kx_1 rfl ?_
    refine gi_X8_154 (pc := 22) C dX8_gala_22 kx_2 rfl ?_
    refine r_lv h (fun v2 h => ?_)
    refine r_istore_n (L' := [(2, .int v2), (0, .ref (G.2 0)), (1, .int p1)]) (pc := 25) C dX8_gala_25 rfl (by decide) rfl ?_
    refine r_aload_n (pc := 26) C dX8_gala_26 rfl 1 rfl ?_
    refine gr_X8_10 (pc := 27) 1 C dX8_gala_27 kx_0 rfl ?_
    refine gr_X8_73 (pc := 30) 2 C dX8_gala_30 kx_1 rfl ?_
    refine r_iload_n (pc := 33) C dX8_gala_33 rfl 2 rfl ?_
    refine pi_X8_154 (pc := 34) C dX8_gala_34 kx_2 rfl h (fun w3 h => ?_)
    refine r_iload_n (pc := 37) C dX8_gala_37 rfl 0 rfl ?_
    exact r_iretE (pc := 38) C dX8_gala_38 h
  · refine r_aload_n (pc := 9) C dX8_gala_9 rfl 0 rfl ?_
    refine r_iconst (v := (1:Int32)) (pc := 10) C dX8_gala_10 (by decide) ?_
    refine cv_X8_69 (pc := 11) C dX8_gala_11  h (by decide) (Nat.le_of_ble_eq_true rfl) (fun q4 h => ?_)
    exact r_iretE (pc := 14) C dX8_gala_14 h
theorem c_X8_gala {G : Gv} {p1 : Int32} {w : Wd} {res : Int32 × Wd} (h : f_X8_gala p1 w = some res) (l : Launch) : MC l yX8_gala cX8_gala 3 (some FieldType.int) 2 G SX w [.ref (G.2 0), .int p1] (some (.int res.1)) res.2 := mc_of (by decide +kernel) rfl (Nat.le_of_ble_eq_true rfl) rfl (fun V C => b_X8_gala_E C h) l
theorem cv_X8_166 {cc : ByteArray} {G : Gv} {n hc : Nat} {rt : Option FieldType} {rv : Option Value} {w0 : Wd} {V : Vt} {w : Wd} {pc : Nat} {L : List (Nat × Value)} {rest : List Value} {α : Type} {res : α} {b0 : Nat} {p1 : Int32} {K : Wd → Option α} (C : CX cc RX8 G SX n hc rt rv w0 V) (hd : decode cc pc = .ok (.invokevirtual 166, 3)) (hb0 : isRo b0 = true) (h : bd (f_X4_add b0 p1 w) K = some res) (hR : 1 + 1 ≤ hc) (hr : (rest.map fun v => v.category).sum ≤ 8) (kk : ∀ q, K q = some res → V q (pc + 3) L (rest)) : V w pc L (.int p1 :: .ref (G.2 b0) :: rest) := r_callV (As := [.int p1]) (rest := rest) (rvf := fun q => none) (wf := fun q => q) C hd h ql_X8_166 qi_X4_add qs_X4_add qn_X4 qc_X4_add ⟨rfl, by decide +kernel, by decide +kernel, (by decide +kernel : (parseMethodDescriptor yX4_add.desc).map (fun d => d.parameters.length) = some 1)⟩ ⟨hR, by decide⟩ (cRo_0 hb0) rfl (fun q hq l => c_X4_add hb0 hq l) rfl hr kk
def fb_X8_feed_42 (rec42 : Int64 → Int32 → Int32 → Wd → Option (Int32 × Wd)) (x1 : Int64) (x3 : Int32) (x4 : Int32) (w : Wd) : Option (Int32 × Wd) := (if x3 ≤ x4 then some ((w 21 1), w) else bd (f_X4_add 21 ((((lushr x1 ((8:Int32) * x4))).toInt32) &&& (255:Int32)) w) (fun q1 => rec42 x1 x3 (x4 + (1:Int32)) q1))
set_option maxRecDepth 20000 in
theorem bb_X8_feed_42 {G : Gv} {V : Vt} {rec42 : Int64 → Int32 → Int32 → Wd → Option (Int32 × Wd)} {res : Int32 × Wd}  (C : CX cX8_feed RX8 G SX 5 2 (some FieldType.int) (some (.int res.1)) res.2 V) (hrec42 : ∀ (x1 : Int64) (x3 : Int32) (x4 : Int32) (w : Wd), rec42 x1 x3 x4 w = some res → V w 42 [(0, .ref (G.2 0)), (1, .long x1), (3, .int x3), (4, .int x4)] []) {x1 : Int64} {x3 : Int32} {x4 : Int32} {w : Wd} (h : fb_X8_feed_42 rec42 x1 x3 x4 w = some res) : V w 42 [(0, .ref (G.2 0)), (1, .long x1), (3, .int x3), (4, .int x4)] [] := by
  unfold fb_X8_feed_42 at h
  refine r_iload (pc := 42) C dX8_feed_42 3 rfl ?_
  refine r_iload_n (pc := 44) C dX8_feed_44 rfl 2 rfl ?_
  refine r_icmp_ge (pc := 45) C 76 dX8_feed_45 (by decide) h (fun h => ?_) (fun h => ?_)
  · refine r_aload_n (pc := 76) C dX8_feed_76 rfl 0 rfl ?_
    refine gr_X8_10 (pc := 77) 1 C dX8_feed_77 kx_0 rfl ?_
    refine gr_X8_157 (pc := 80) 21 C dX8_feed_80 kx_1 rfl ?_
    refine gi_X8_161 (pc := 83) C dX8_feed_83 kx_21 rfl ?_
    exact r_iretE (pc := 86) C dX8_feed_86 h
  · refine r_aload_n (pc := 48) C dX8_feed_48 rfl 0 rfl ?_
    refine gr_X8_10 (pc := 49) 1 C dX8_feed_49 kx_0 rfl ?_
    refine gr_X8_157 (pc := 52) 21 C dX8_feed_52 kx_1 rfl ?_
    refine r_lload_n (pc := 55) C dX8_feed_55 rfl 1 rfl ?_
    refine r_bipush (v := (8:Int32)) (pc := 56) C dX8_feed_56 (by decide) ?_
    refine r_iload (pc := 58) C dX8_feed_58 3 rfl ?_
    refine r_imul (pc := 60) C dX8_feed_60 ?_
    refine r_lushr (pc := 61) C dX8_feed_61 ?_
    refine r_l2i (pc := 62) C dX8_feed_62 ?_
    refine r_sipush (v := (255:Int32)) (pc := 63) C dX8_feed_63 (by decide) ?_
    refine r_iand (pc := 66) C dX8_feed_66 ?_
    refine cv_X8_166 (pc := 67) C dX8_feed_67 isRo_21 h (by decide) (Nat.le_of_ble_eq_true rfl) (fun q1 h => ?_)
    refine r_iinc (v := (x4 + (1:Int32))) (L' := [(4, .int (x4 + (1:Int32))), (0, .ref (G.2 0)), (1, .long x1), (3, .int x3)]) (pc := 70) C dX8_feed_70 3 rfl rfl (by decide) rfl ?_
    refine r_goto (pc := 73) C 42 dX8_feed_73 (by decide) ?_
    exact r_sub C [1, 2, 3, 0] rfl (hrec42 _ _ _ _ h)
def f_X8_feed_42 : Int64 → Int32 → Int32 → Wd → Option (Int32 × Wd) := lp (fun _ _ _ _ => none) (fun rec => fb_X8_feed_42 rec) FU
theorem b_X8_feed_42 {G : Gv} {V : Vt} {res : Int32 × Wd}  (C : CX cX8_feed RX8 G SX 5 2 (some FieldType.int) (some (.int res.1)) res.2 V) : ∀ (x1 : Int64) (x3 : Int32) (x4 : Int32) (w : Wd), (f_X8_feed_42) x1 x3 x4 w = some res → V w 42 [(0, .ref (G.2 0)), (1, .long x1), (3, .int x3), (4, .int x4)] [] :=
  lp_ind (P := fun (g : Int64 → Int32 → Int32 → Wd → Option (Int32 × Wd)) => ∀ (x1 : Int64) (x3 : Int32) (x4 : Int32) (w : Wd), g x1 x3 x4 w = some res → V w 42 [(0, .ref (G.2 0)), (1, .long x1), (3, .int x3), (4, .int x4)] []) (fun _ _ _ _ h => by cases h) (fun g hg _ _ _ _ h => bb_X8_feed_42 C hg h) FU
def f_X8_feed (p1 : Int64) (p3 : Int32) (w : Wd) : Option (Int32 × Wd) := bd (f_X8_isWithin p3 (1:Int32) (8:Int32)) (fun q1 => (if ¬ q1 = 0 then (if ((w 21 1) + p3) ≤ (50:Int32) then f_X8_feed_42 p1 p3 (0:Int32) w else bd (f_X8_error (4:Int32) w) (fun q2 => some (q2.1, q2.2))) else bd (f_X8_error (1:Int32) w) (fun q3 => some (q3.1, q3.2))))
set_option maxRecDepth 20000 in
theorem b_X8_feed_E {G : Gv} {V : Vt} {res : Int32 × Wd}  (C : CX cX8_feed RX8 G SX 5 2 (some FieldType.int) (some (.int res.1)) res.2 V) {p1 : Int64} {p3 : Int32} {w : Wd} (h : f_X8_feed p1 p3 w = some res) : V w 0 [(0, .ref (G.2 0)), (1, .long p1), (3, .int p3)] [] := by
  unfold f_X8_feed at h
  refine r_iload_n (pc := 0) C dX8_feed_0 rfl 2 rfl ?_
  refine r_iconst (v := (1:Int32)) (pc := 1) C dX8_feed_1 (by decide) ?_
  refine r_bipush (v := (8:Int32)) (pc := 2) C dX8_feed_2 (by decide) ?_
  refine cv_X8_65 (pc := 4) C dX8_feed_4  h (by decide) (Nat.le_of_ble_eq_true rfl) (fun q1 h => ?_)
  refine r_if_ne (pc := 7) C 16 dX8_feed_7 (by decide) h (fun h => ?_) (fun h => ?_)
  · refine r_aload_n (pc := 16) C dX8_feed_16 rfl 0 rfl ?_
    refine gr_X8_10 (pc := 17) 1 C dX8_feed_17 kx_0 rfl ?_
    refine gr_X8_157 (pc := 20) 21 C dX8_feed_20 kx_1 rfl ?_
    refine gi_X8_161 (pc := 23) C dX8_feed_23 kx_21 rfl ?_
    refine r_iload_n (pc := 26) C dX8_feed_26 rfl 2 rfl ?_
    refine r_iadd (pc := 27) C dX8_feed_27 ?_
    refine r_bipush (v := (50:Int32)) (pc := 28) C dX8_feed_28 (by decide) ?_
    refine r_icmp_le (pc := 30) C 39 dX8_feed_30 (by decide) h (fun h => ?_) (fun h => ?_)
    · refine r_iconst (v := (0:Int32)) (pc := 39) C dX8_feed_39 (by decide) ?_
      refine r_istore (L' := [(4, .int (0:Int32)), (0, .ref (G.2 0)), (1, .long p1), (3, .int p3)]) (pc := 40) C dX8_feed_40 (by decide) rfl ?_
      exact r_sub C [1, 2, 3, 0] rfl (b_X8_feed_42 C _ _ _ _ h)
    · refine r_aload_n (pc := 33) C dX8_feed_33 rfl 0 rfl ?_
      refine r_iconst (v := (4:Int32)) (pc := 34) C dX8_feed_34 (by decide) ?_
      refine cv_X8_69 (pc := 35) C dX8_feed_35  h (by decide) (Nat.le_of_ble_eq_true rfl) (fun q2 h => ?_)
      exact r_iretE (pc := 38) C dX8_feed_38 h
  · refine r_aload_n (pc := 10) C dX8_feed_10 rfl 0 rfl ?_
    refine r_iconst (v := (1:Int32)) (pc := 11) C dX8_feed_11 (by decide) ?_
    refine cv_X8_69 (pc := 12) C dX8_feed_12  h (by decide) (Nat.le_of_ble_eq_true rfl) (fun q3 h => ?_)
    exact r_iretE (pc := 15) C dX8_feed_15 h
theorem c_X8_feed {G : Gv} {p1 : Int64} {p3 : Int32} {w : Wd} {res : Int32 × Wd} (h : f_X8_feed p1 p3 w = some res) (l : Launch) : MC l yX8_feed cX8_feed 5 (some FieldType.int) 2 G SX w [.ref (G.2 0), .long p1, .int p3] (some (.int res.1)) res.2 := mc_of (by decide +kernel) rfl (Nat.le_of_ble_eq_true rfl) rfl (fun V C => b_X8_feed_E C h) l
theorem cv_X8_170 {cc : ByteArray} {G : Gv} {n hc : Nat} {rt : Option FieldType} {rv : Option Value} {w0 : Wd} {V : Vt} {w : Wd} {pc : Nat} {L : List (Nat × Value)} {rest : List Value} {α : Type} {res : α} {b2 : Nat} {p1 : Int32} {K : Int32 × Wd → Option α} (C : CX cc RX8 G SX n hc rt rv w0 V) (hd : decode cc pc = .ok (.invokevirtual 170, 3)) (hb2 : isRo b2 = true) (h : bd (f_X3_reads b2 p1 w) K = some res) (hR : 107 + 1 ≤ hc) (hr : (rest.map fun v => v.category).sum ≤ 8) (kk : ∀ q, K q = some res → V q.2 (pc + 3) L (.int q.1 :: rest)) : V w pc L (.ref (G.2 b2) :: .int p1 :: .ref (G.2 64) :: rest) := r_callV (As := [.int p1, .ref (G.2 b2)]) (rest := rest) (rvf := fun q => (some (.int q.1))) (wf := fun q => q.2) C hd h ql_X8_170 qi_X3_reads qs_X3_reads qn_X3 qc_X3_reads ⟨rfl, by decide +kernel, by decide +kernel, (by decide +kernel : (parseMethodDescriptor yX3_reads.desc).map (fun d => d.parameters.length) = some 2)⟩ ⟨hR, by decide⟩ kx_64 rfl (fun q hq l => c_X3_reads hb2 hq l) rfl hr kk
theorem cv_X8_174 {cc : ByteArray} {G : Gv} {n hc : Nat} {rt : Option FieldType} {rv : Option Value} {w0 : Wd} {V : Vt} {w : Wd} {pc : Nat} {L : List (Nat × Value)} {rest : List Value} {α : Type} {res : α} {b0 : Nat} {K : Wd → Option α} (C : CX cc RX8 G SX n hc rt rv w0 V) (hd : decode cc pc = .ok (.invokevirtual 174, 3)) (hb0 : isRo b0 = true) (h : bd (f_X4_clear b0 w) K = some res) (hR : 1 + 1 ≤ hc) (hr : (rest.map fun v => v.category).sum ≤ 8) (kk : ∀ q, K q = some res → V q (pc + 3) L (rest)) : V w pc L (.ref (G.2 b0) :: rest) := r_callV (As := []) (rest := rest) (rvf := fun q => none) (wf := fun q => q) C hd h ql_X8_174 qi_X4_clear qs_X4_clear qn_X4 qc_X4_clear ⟨rfl, by decide +kernel, by decide +kernel, (by decide +kernel : (parseMethodDescriptor yX4_clear.desc).map (fun d => d.parameters.length) = some 0)⟩ ⟨hR, by decide⟩ (cRo_0 hb0) rfl (fun q hq l => c_X4_clear hb0 hq l) rfl hr kk
theorem cv_X8_180 {cc : ByteArray} {G : Gv} {n hc : Nat} {rt : Option FieldType} {rv : Option Value} {w0 : Wd} {V : Vt} {w : Wd} {pc : Nat} {L : List (Nat × Value)} {rest : List Value} {α : Type} {res : α} {b0 : Nat} {p1 : Int32} {K : Nat → Option α} (C : CX cc RX8 G SX n hc rt rv w0 V) (hd : decode cc pc = .ok (.invokevirtual 180, 3)) (hb0 : isBk b0 = true) (h : bd (f_X0_lawOf b0 w p1) K = some res) (hR : 1 + 1 ≤ hc) (hr : (rest.map fun v => v.category).sum ≤ 8) (kk : ∀ q, K q = some res → V w (pc + 3) L (.ref (G.2 q) :: rest)) : V w pc L (.int p1 :: .ref (G.2 b0) :: rest) := r_callV (As := [.int p1]) (rest := rest) (rvf := fun q => (some (.ref (G.2 q)))) (wf := fun q => w) C hd h ql_X8_180 qi_X0_lawOf qs_X0_lawOf qn_X0 qc_X0_lawOf ⟨rfl, by decide +kernel, by decide +kernel, (by decide +kernel : (parseMethodDescriptor yX0_lawOf.desc).map (fun d => d.parameters.length) = some 1)⟩ ⟨hR, by decide⟩ (cBk_0 hb0) rfl (fun q hq l => c_X0_lawOf hb0 hq l) rfl hr kk
theorem cv_X8_187 {cc : ByteArray} {G : Gv} {n hc : Nat} {rt : Option FieldType} {rv : Option Value} {w0 : Wd} {V : Vt} {w : Wd} {pc : Nat} {L : List (Nat × Value)} {rest : List Value} {α : Type} {res : α} {b0 : Nat} {b1 : Nat} {K : Wd → Option α} (C : CX cc RX8 G SX n hc rt rv w0 V) (hd : decode cc pc = .ok (.invokevirtual 187, 3)) (hb0 : isLa b0 = true) (hb1 : isRo b1 = true) (h : bd (f_X2_write b0 b1 w) K = some res) (hR : 3 + 1 ≤ hc) (hr : (rest.map fun v => v.category).sum ≤ 8) (kk : ∀ q, K q = some res → V q (pc + 3) L (rest)) : V w pc L (.ref (G.2 b1) :: .ref (G.2 b0) :: rest) := r_callV (As := [.ref (G.2 b1)]) (rest := rest) (rvf := fun q => none) (wf := fun q => q) C hd h ql_X8_187 qi_X2_write qs_X2_write qn_X2 qc_X2_write ⟨rfl, by decide +kernel, by decide +kernel, (by decide +kernel : (parseMethodDescriptor yX2_write.desc).map (fun d => d.parameters.length) = some 1)⟩ ⟨hR, by decide⟩ (cLa_0 hb0) rfl (fun q hq l => c_X2_write hb0 hb1 hq l) rfl hr kk
def f_X8_text (p1 : Int32) (w : Wd) : Option (Int32 × Wd) := bd (f_X8_isWithin p1 (0:Int32) (1:Int32)) (fun q1 => (if ¬ q1 = 0 then bd (f_X3_reads 21 p1 w) (fun q2 => bd (f_X4_clear 21 q2.2) (fun q3 => (if ¬ q2.1 = 0 then bd (f_X0_lawOf 1 q3 p1) (fun s61 => gd (isLa s61) (bd (f_X2_write s61 65 q3) (fun q5 => some ((1:Int32), q5)))) else some (((-10:Int32) - (q3 64 1)), q3)))) else bd (f_X8_error (1:Int32) w) (fun q6 => some (q6.1, q6.2))))
set_option maxRecDepth 20000 in
theorem b_X8_text_E {G : Gv} {V : Vt} {res : Int32 × Wd}  (C : CX cX8_text RX8 G SX 3 108 (some FieldType.int) (some (.int res.1)) res.2 V) {p1 : Int32} {w : Wd} (h : f_X8_text p1 w = some res) : V w 0 [(0, .ref (G.2 0)), (1, .int p1)] [] := by
  unfold f_X8_text at h
  refine r_iload_n (pc := 0) C dX8_text_0 rfl 1 rfl ?_
  refine r_iconst (v := (0:Int32)) (pc := 1) C dX8_text_1 (by decide) ?_
  refine r_iconst (v := (1:Int32)) (pc := 2) C dX8_text_2 (by decide) ?_
  refine cv_X8_65 (pc := 3) C dX8_text_3  h (by decide) (Nat.le_of_ble_eq_true rfl) (fun q1 h => ?_)
  refine r_if_ne (pc := 6) C 15 dX8_text_6 (by decide) h (fun h => ?_) (fun h => ?_)
  · refine r_aload_n (pc := 15) C dX8_text_15 rfl 0 rfl ?_
    refine gr_X8_36 (pc := 16) 64 C dX8_text_16 kx_0 rfl ?_
    refine r_iload_n (pc := 19) C dX8_text_19 rfl 1 rfl ?_
    refine r_aload_n (pc := 20) C dX8_text_20 rfl 0 rfl ?_
    refine gr_X8_10 (pc := 21) 1 C dX8_text_21 kx_0 rfl ?_
    refine gr_X8_157 (pc := 24) 21 C dX8_text_24 kx_1 rfl ?_
    refine cv_X8_170 (pc := 27) C dX8_text_27 isRo_21 h (by decide) (Nat.le_of_ble_eq_true rfl) (fun q2 h => ?_)
    refine r_istore_n (L' := [(2, .int q2.1), (0, .ref (G.2 0)), (1, .int p1)]) (pc := 30) C dX8_text_30 rfl (by decide) rfl ?_
    refine r_aload_n (pc := 31) C dX8_text_31 rfl 1 rfl ?_
    refine gr_X8_10 (pc := 32) 1 C dX8_text_32 kx_0 rfl ?_
    refine gr_X8_157 (pc := 35) 21 C dX8_text_35 kx_1 rfl ?_
    refine cv_X8_174 (pc := 38) C dX8_text_38 isRo_21 h (by decide) (Nat.le_of_ble_eq_true rfl) (fun q3 h => ?_)
    refine r_iload_n (pc := 41) C dX8_text_41 rfl 0 rfl ?_
    refine r_if_ne (pc := 42) C 56 dX8_text_42 (by decide) h (fun h => ?_) (fun h => ?_)
    · refine r_aload_n (pc := 56) C dX8_text_56 rfl 1 rfl ?_
      refine gr_X8_10 (pc := 57) 1 C dX8_text_57 kx_0 rfl ?_
      refine r_iload_n (pc := 60) C dX8_text_60 rfl 2 rfl ?_
      refine cv_X8_180 (pc := 61) C dX8_text_61 isBk_1 h (by decide) (Nat.le_of_ble_eq_true rfl) (fun s61 h => ?_)
      refine r_gd h (fun hs61 h => ?_)
      refine r_aload_n (pc := 64) C dX8_text_64 rfl 1 rfl ?_
      refine gr_X8_36 (pc := 65) 64 C dX8_text_65 kx_0 rfl ?_
      refine gr_X8_184 (pc := 68) 65 C dX8_text_68 kx_64 rfl ?_
      refine cv_X8_187 (pc := 71) C dX8_text_71 hs61 isRo_65 h (by decide) (Nat.le_of_ble_eq_true rfl) (fun q5 h => ?_)
      refine r_iconst (v := (1:Int32)) (pc := 74) C dX8_text_74 (by decide) ?_
      exact r_iretE (pc := 75) C dX8_text_75 h
    · refine r_bipush (v := (-10:Int32)) (pc := 45) C dX8_text_45 (by decide) ?_
      refine r_aload_n (pc := 47) C dX8_text_47 rfl 1 rfl ?_
      refine gr_X8_36 (pc := 48) 64 C dX8_text_48 kx_0 rfl ?_
      refine gi_X8_177 (pc := 51) C dX8_text_51 kx_64 rfl ?_
      refine r_isub (pc := 54) C dX8_text_54 ?_
      exact r_iretE (pc := 55) C dX8_text_55 h
  · refine r_aload_n (pc := 9) C dX8_text_9 rfl 0 rfl ?_
    refine r_iconst (v := (1:Int32)) (pc := 10) C dX8_text_10 (by decide) ?_
    refine cv_X8_69 (pc := 11) C dX8_text_11  h (by decide) (Nat.le_of_ble_eq_true rfl) (fun q6 h => ?_)
    exact r_iretE (pc := 14) C dX8_text_14 h
theorem c_X8_text {G : Gv} {p1 : Int32} {w : Wd} {res : Int32 × Wd} (h : f_X8_text p1 w = some res) (l : Launch) : MC l yX8_text cX8_text 3 (some FieldType.int) 108 G SX w [.ref (G.2 0), .int p1] (some (.int res.1)) res.2 := mc_of (by decide +kernel) rfl (Nat.le_of_ble_eq_true rfl) rfl (fun V C => b_X8_text_E C h) l
theorem cv_X8_193 {cc : ByteArray} {G : Gv} {n hc : Nat} {rt : Option FieldType} {rv : Option Value} {w0 : Wd} {V : Vt} {w : Wd} {pc : Nat} {L : List (Nat × Value)} {rest : List Value} {α : Type} {res : α} {b0 : Nat} {p1 : Int32} {p2 : Int32} {p3 : Int32} {K : Int32 × Wd → Option α} (C : CX cc RX8 G SX n hc rt rv w0 V) (hd : decode cc pc = .ok (.invokevirtual 193, 3)) (hb0 : isLa b0 = true) (h : bd (f_X2_gives b0 p1 p2 p3 w) K = some res) (hR : 3 + 1 ≤ hc) (hr : (rest.map fun v => v.category).sum ≤ 8) (kk : ∀ q, K q = some res → V q.2 (pc + 3) L (.int q.1 :: rest)) : V w pc L (.int p3 :: .int p2 :: .int p1 :: .ref (G.2 b0) :: rest) := r_callV (As := [.int p1, .int p2, .int p3]) (rest := rest) (rvf := fun q => (some (.int q.1))) (wf := fun q => q.2) C hd h ql_X8_193 qi_X2_gives qs_X2_gives qn_X2 qc_X2_gives ⟨rfl, by decide +kernel, by decide +kernel, (by decide +kernel : (parseMethodDescriptor yX2_gives.desc).map (fun d => d.parameters.length) = some 3)⟩ ⟨hR, by decide⟩ (cLa_0 hb0) rfl (fun q hq l => c_X2_gives hb0 hq l) rfl hr kk
def f_X8_law (p1 : Int32) (p2 : Int32) (p3 : Int32) (p4 : Int32) (w : Wd) : Option (Int32 × Wd) := bd (f_X8_isWithin p1 (0:Int32) (1:Int32)) (fun q1 => (if ¬ q1 = 0 then bd (f_X0_lawOf 1 w p1) (fun s20 => gd (isLa s20) (bd (f_X2_gives s20 p2 p3 p4 w) (fun q3 => some (q3.1, q3.2)))) else bd (f_X8_error (1:Int32) w) (fun q4 => some (q4.1, q4.2))))
set_option maxRecDepth 20000 in
theorem b_X8_law_E {G : Gv} {V : Vt} {res : Int32 × Wd}  (C : CX cX8_law RX8 G SX 5 4 (some FieldType.int) (some (.int res.1)) res.2 V) {p1 : Int32} {p2 : Int32} {p3 : Int32} {p4 : Int32} {w : Wd} (h : f_X8_law p1 p2 p3 p4 w = some res) : V w 0 [(0, .ref (G.2 0)), (1, .int p1), (2, .int p2), (3, .int p3), (4, .int p4)] [] := by
  unfold f_X8_law at h
  refine r_iload_n (pc := 0) C dX8_law_0 rfl 1 rfl ?_
  refine r_iconst (v := (0:Int32)) (pc := 1) C dX8_law_1 (by decide) ?_
  refine r_iconst (v := (1:Int32)) (pc := 2) C dX8_law_2 (by decide) ?_
  refine cv_X8_65 (pc := 3) C dX8_law_3  h (by decide) (Nat.le_of_ble_eq_true rfl) (fun q1 h => ?_)
  refine r_if_ne (pc := 6) C 15 dX8_law_6 (by decide) h (fun h => ?_) (fun h => ?_)
  · refine r_aload_n (pc := 15) C dX8_law_15 rfl 0 rfl ?_
    refine gr_X8_10 (pc := 16) 1 C dX8_law_16 kx_0 rfl ?_
    refine r_iload_n (pc := 19) C dX8_law_19 rfl 1 rfl ?_
    refine cv_X8_180 (pc := 20) C dX8_law_20 isBk_1 h (by decide) (Nat.le_of_ble_eq_true rfl) (fun s20 h => ?_)
    refine r_gd h (fun hs20 h => ?_)
    refine r_iload_n (pc := 23) C dX8_law_23 rfl 2 rfl ?_
    refine r_iload_n (pc := 24) C dX8_law_24 rfl 3 rfl ?_
    refine r_iload (pc := 25) C dX8_law_25 4 rfl ?_
    refine cv_X8_193 (pc := 27) C dX8_law_27 hs20 h (by decide) (Nat.le_of_ble_eq_true rfl) (fun q3 h => ?_)
    exact r_iretE (pc := 30) C dX8_law_30 h
  · refine r_aload_n (pc := 9) C dX8_law_9 rfl 0 rfl ?_
    refine r_iconst (v := (1:Int32)) (pc := 10) C dX8_law_10 (by decide) ?_
    refine cv_X8_69 (pc := 11) C dX8_law_11  h (by decide) (Nat.le_of_ble_eq_true rfl) (fun q4 h => ?_)
    exact r_iretE (pc := 14) C dX8_law_14 h
theorem c_X8_law {G : Gv} {p1 : Int32} {p2 : Int32} {p3 : Int32} {p4 : Int32} {w : Wd} {res : Int32 × Wd} (h : f_X8_law p1 p2 p3 p4 w = some res) (l : Launch) : MC l yX8_law cX8_law 5 (some FieldType.int) 4 G SX w [.ref (G.2 0), .int p1, .int p2, .int p3, .int p4] (some (.int res.1)) res.2 := mc_of (by decide +kernel) rfl (Nat.le_of_ble_eq_true rfl) rfl (fun V C => b_X8_law_E C h) l
def f_X8_sheetAt (w : Wd) (p1 : Int32) : Option (Option Nat) := bd (f_X8_isWithin p1 (0:Int32) (3:Int32)) (fun q1 => (if q1 = 0 then some none else qld [71, 73, 75, 77] p1 (fun s14 => some (some s14))))
set_option maxRecDepth 20000 in
theorem b_X8_sheetAt_E {G : Gv} {V : Vt} {w : Wd} {res : Option Nat}  (C : CX cX8_sheetAt RX8 G SX 2 2 (some (FieldType.object "UnderstudyHouse$Sheet")) (some (va_re G.2 res)) w V) {p1 : Int32} (h : f_X8_sheetAt w p1 = some res) : V w 0 [(0, .ref (G.2 0)), (1, .int p1)] [] := by
  unfold f_X8_sheetAt at h
  refine r_iload_n (pc := 0) C dX8_sheetAt_0 rfl 1 rfl ?_
  refine r_iconst (v := (0:Int32)) (pc := 1) C dX8_sheetAt_1 (by decide) ?_
  refine r_iconst (v := (3:Int32)) (pc := 2) C dX8_sheetAt_2 (by decide) ?_
  refine cv_X8_65 (pc := 3) C dX8_sheetAt_3  h (by decide) (Nat.le_of_ble_eq_true rfl) (fun q1 h => ?_)
  refine r_if_eq (pc := 6) C 18 dX8_sheetAt_6 (by decide) h (fun h => ?_) (fun h => ?_)
  · refine r_null (pc := 18) C dX8_sheetAt_18 ?_
    exact r_aretON (pc := 19) C dX8_sheetAt_19 h
  · refine r_aload_n (pc := 9) C dX8_sheetAt_9 rfl 0 rfl ?_
    refine gr_X8_49 (pc := 10) 70 C dX8_sheetAt_10 kx_0 rfl ?_
    refine r_iload_n (pc := 13) C dX8_sheetAt_13 rfl 1 rfl ?_
    refine r_qld (pc := 14) C dX8_sheetAt_14 h kx_70 (fun s14 h => ?_)
    refine r_goto (pc := 15) C 19 dX8_sheetAt_15 (by decide) ?_
    exact r_aretO (pc := 19) C dX8_sheetAt_19 h
theorem c_X8_sheetAt {G : Gv} {p1 : Int32} {w : Wd} {res : Option Nat} (h : f_X8_sheetAt w p1 = some res) (l : Launch) : MC l yX8_sheetAt cX8_sheetAt 2 (some (FieldType.object "UnderstudyHouse$Sheet")) 2 G SX w [.ref (G.2 0), .int p1] (some (va_re G.2 res)) w := mc_of (by decide +kernel) rfl (Nat.le_of_ble_eq_true rfl) rfl (fun V C => b_X8_sheetAt_E C h) l
theorem cv_X8_330 {cc : ByteArray} {G : Gv} {n hc : Nat} {rt : Option FieldType} {rv : Option Value} {w0 : Wd} {V : Vt} {w : Wd} {pc : Nat} {L : List (Nat × Value)} {rest : List Value} {α : Type} {res : α} {b0 : Nat} {p1 : Int32} {K : Int32 → Option α} (C : CX cc RX8 G SX n hc rt rv w0 V) (hd : decode cc pc = .ok (.invokevirtual 330, 3)) (hb0 : isTr b0 = true) (h : bd (f_X6_isShared b0 w p1) K = some res) (hR : 2 + 1 ≤ hc) (hr : (rest.map fun v => v.category).sum ≤ 8) (kk : ∀ q, K q = some res → V w (pc + 3) L (.int q :: rest)) : V w pc L (.int p1 :: .ref (G.2 b0) :: rest) := r_callV (As := [.int p1]) (rest := rest) (rvf := fun q => (some (.int q))) (wf := fun q => w) C hd h ql_X8_330 qi_X6_isShared qs_X6_isShared qn_X6 qc_X6_isShared ⟨rfl, by decide +kernel, by decide +kernel, (by decide +kernel : (parseMethodDescriptor yX6_isShared.desc).map (fun d => d.parameters.length) = some 1)⟩ ⟨hR, by decide⟩ (cTr_0 hb0) rfl (fun q hq l => c_X6_isShared hb0 hq l) rfl hr kk
def f_X8_isFree_68 (w : Wd) (x2 : Int32) (t0 : Int32) : Option (Int32) := (if ¬ ((t0 >>> (x2 &&& 31)) &&& (1:Int32)) = (1:Int32) then some (0:Int32) else some (1:Int32))
set_option maxRecDepth 20000 in
theorem b_X8_isFree_68 {G : Gv} {V : Vt} {w : Wd} {res : Int32}  (C : CX cX8_isFree RX8 G SX 6 4 (some FieldType.boolean) (some (.int res)) w V) {x2 : Int32} {t0 : Int32} (h : f_X8_isFree_68 w x2 t0 = some res) : V w 68 [(2, .int x2)] [.int t0] := by
  unfold f_X8_isFree_68 at h
  refine r_istore (L' := [(5, .int t0), (2, .int x2)]) (pc := 68) C dX8_isFree_68 (by decide) rfl ?_
  refine r_iload (pc := 70) C dX8_isFree_70 0 rfl ?_
  refine r_iload_n (pc := 72) C dX8_isFree_72 rfl 1 rfl ?_
  refine r_ishr (pc := 73) C dX8_isFree_73 ?_
  refine r_iconst (v := (1:Int32)) (pc := 74) C dX8_isFree_74 (by decide) ?_
  refine r_iand (pc := 75) C dX8_isFree_75 ?_
  refine r_iconst (v := (1:Int32)) (pc := 76) C dX8_isFree_76 (by decide) ?_
  refine r_icmp_ne (pc := 77) C 84 dX8_isFree_77 (by decide) h (fun h => ?_) (fun h => ?_)
  · refine r_iconst (v := (0:Int32)) (pc := 84) C dX8_isFree_84 (by decide) ?_
    exact r_zretP (pc := 85) C rfl dX8_isFree_85 h
  · refine r_iconst (v := (1:Int32)) (pc := 80) C dX8_isFree_80 (by decide) ?_
    refine r_goto (pc := 81) C 85 dX8_isFree_81 (by decide) ?_
    exact r_zretP (pc := 85) C rfl dX8_isFree_85 h
def f_X8_isFree (w : Wd) (p1 : Int32) (p2 : Int32) (p3 : Int32) : Option (Int32) := bd (f_X6_isEmpty 2 w p1) (fun q1 => (if q1 = 0 then bd (f_X6_hasPlayer 2 w p2) (fun q2 => (if ¬ q2 = 0 then bd (f_X6_isShared 2 w p1) (fun q3 => (if q3 = 0 then bd (f_X6_whoMay 2 w p1) (fun q4 => f_X8_isFree_68 w p2 (q4 &&& (p3 ^^^ (-1:Int32)))) else bd (f_X6_whoMay 2 w p1) (fun q5 => f_X8_isFree_68 w p2 q5))) else some (0:Int32))) else (if ¬ p2 = (-1:Int32) then some (0:Int32) else some (1:Int32))))
set_option maxRecDepth 20000 in
theorem b_X8_isFree_E {G : Gv} {V : Vt} {w : Wd} {res : Int32}  (C : CX cX8_isFree RX8 G SX 6 4 (some FieldType.boolean) (some (.int res)) w V) {p1 : Int32} {p2 : Int32} {p3 : Int32} (h : f_X8_isFree w p1 p2 p3 = some res) : V w 0 [(0, .ref (G.2 0)), (1, .int p1), (2, .int p2), (3, .int p3)] [] := by
  unfold f_X8_isFree at h
  refine r_aload_n (pc := 0) C dX8_isFree_0 rfl 0 rfl ?_
  refine gr_X8_10 (pc := 1) 1 C dX8_isFree_1 kx_0 rfl ?_
  refine gr_X8_73 (pc := 4) 2 C dX8_isFree_4 kx_1 rfl ?_
  refine r_astore (L' := [(4, .ref (G.2 2)), (0, .ref (G.2 0)), (1, .int p1), (2, .int p2), (3, .int p3)]) (pc := 7) C dX8_isFree_7 (by decide) rfl ?_
  refine r_aload (pc := 9) C dX8_isFree_9 0 rfl ?_
  refine r_iload_n (pc := 11) C dX8_isFree_11 rfl 2 rfl ?_
  refine cv_X8_99 (pc := 12) C dX8_isFree_12 isTr_2 h (by decide) (Nat.le_of_ble_eq_true rfl) (fun q1 h => ?_)
  refine r_if_eq (pc := 15) C 29 dX8_isFree_15 (by decide) h (fun h => ?_) (fun h => ?_)
  · refine r_aload (pc := 29) C dX8_isFree_29 0 rfl ?_
    refine r_iload_n (pc := 31) C dX8_isFree_31 rfl 3 rfl ?_
    refine cv_X8_122 (pc := 32) C dX8_isFree_32 isTr_2 h (by decide) (Nat.le_of_ble_eq_true rfl) (fun q2 h => ?_)
    refine r_if_ne (pc := 35) C 40 dX8_isFree_35 (by decide) h (fun h => ?_) (fun h => ?_)
    · refine r_aload (pc := 40) C dX8_isFree_40 0 rfl ?_
      refine r_iload_n (pc := 42) C dX8_isFree_42 rfl 2 rfl ?_
      refine cv_X8_330 (pc := 43) C dX8_isFree_43 isTr_2 h (by decide) (Nat.le_of_ble_eq_true rfl) (fun q3 h => ?_)
      refine r_if_eq (pc := 46) C 58 dX8_isFree_46 (by decide) h (fun h => ?_) (fun h => ?_)
      · refine r_aload (pc := 58) C dX8_isFree_58 0 rfl ?_
        refine r_iload_n (pc := 60) C dX8_isFree_60 rfl 2 rfl ?_
        refine cv_X8_102 (pc := 61) C dX8_isFree_61 isTr_2 h (by decide) (Nat.le_of_ble_eq_true rfl) (fun q4 h => ?_)
        refine r_iload_n (pc := 64) C dX8_isFree_64 rfl 4 rfl ?_
        refine r_iconst (v := (-1:Int32)) (pc := 65) C dX8_isFree_65 (by decide) ?_
        refine r_ixor (pc := 66) C dX8_isFree_66 ?_
        refine r_iand (pc := 67) C dX8_isFree_67 ?_
        exact r_sub C [3] rfl (b_X8_isFree_68 C h)
      · refine r_aload (pc := 49) C dX8_isFree_49 0 rfl ?_
        refine r_iload_n (pc := 51) C dX8_isFree_51 rfl 2 rfl ?_
        refine cv_X8_102 (pc := 52) C dX8_isFree_52 isTr_2 h (by decide) (Nat.le_of_ble_eq_true rfl) (fun q5 h => ?_)
        refine r_goto (pc := 55) C 68 dX8_isFree_55 (by decide) ?_
        exact r_sub C [3] rfl (b_X8_isFree_68 C h)
    · refine r_iconst (v := (0:Int32)) (pc := 38) C dX8_isFree_38 (by decide) ?_
      exact r_zretP (pc := 39) C rfl dX8_isFree_39 h
  · refine r_iload_n (pc := 18) C dX8_isFree_18 rfl 3 rfl ?_
    refine r_iconst (v := (-1:Int32)) (pc := 19) C dX8_isFree_19 (by decide) ?_
    refine r_icmp_ne (pc := 20) C 27 dX8_isFree_20 (by decide) h (fun h => ?_) (fun h => ?_)
    · refine r_iconst (v := (0:Int32)) (pc := 27) C dX8_isFree_27 (by decide) ?_
      exact r_zretP (pc := 28) C rfl dX8_isFree_28 h
    · refine r_iconst (v := (1:Int32)) (pc := 23) C dX8_isFree_23 (by decide) ?_
      refine r_goto (pc := 24) C 28 dX8_isFree_24 (by decide) ?_
      exact r_zretP (pc := 28) C rfl dX8_isFree_28 h
theorem c_X8_isFree {G : Gv} {p1 : Int32} {p2 : Int32} {p3 : Int32} {w : Wd} {res : Int32} (h : f_X8_isFree w p1 p2 p3 = some res) (l : Launch) : MC l yX8_isFree cX8_isFree 6 (some FieldType.boolean) 4 G SX w [.ref (G.2 0), .int p1, .int p2, .int p3] (some (.int res)) w := mc_of (by decide +kernel) rfl (Nat.le_of_ble_eq_true rfl) rfl (fun V C => b_X8_isFree_E C h) l
theorem cv_X8_327 {cc : ByteArray} {G : Gv} {n hc : Nat} {rt : Option FieldType} {rv : Option Value} {w0 : Wd} {V : Vt} {w : Wd} {pc : Nat} {L : List (Nat × Value)} {rest : List Value} {α : Type} {res : α} {p1 : Int32} {p2 : Int32} {p3 : Int32} {K : Int32 → Option α} (C : CX cc RX8 G SX n hc rt rv w0 V) (hd : decode cc pc = .ok (.invokevirtual 327, 3)) (h : bd (f_X8_isFree w p1 p2 p3) K = some res) (hR : 4 + 1 ≤ hc) (hr : (rest.map fun v => v.category).sum ≤ 8) (kk : ∀ q, K q = some res → V w (pc + 3) L (.int q :: rest)) : V w pc L (.int p3 :: .int p2 :: .int p1 :: .ref (G.2 0) :: rest) := r_callV (As := [.int p1, .int p2, .int p3]) (rest := rest) (rvf := fun q => (some (.int q))) (wf := fun q => w) C hd h ql_X8_327 qi_X8_isFree qs_X8_isFree qn_X8 qc_X8_isFree ⟨rfl, by decide +kernel, by decide +kernel, (by decide +kernel : (parseMethodDescriptor yX8_isFree.desc).map (fun d => d.parameters.length) = some 3)⟩ ⟨hR, by decide⟩ kx_0 rfl (fun q hq l => c_X8_isFree hq l) rfl hr kk
def f_X8_firstWrong_87 (b1 : Nat) (w : Wd) : Option (Int32) := (if (w b1 1) ≤ (w 2 0) then some (-1:Int32) else some (w 2 0))
set_option maxRecDepth 20000 in
theorem b_X8_firstWrong_87 {G : Gv} {V : Vt} {b1 : Nat} {w : Wd} {res : Int32} (hb1 : isSh b1 = true)  (C : CX cX8_firstWrong RX8 G SX 5 5 (some FieldType.int) (some (.int res)) w V) (h : f_X8_firstWrong_87 b1 w = some res) : V w 87 [(1, .ref (G.2 b1)), (2, .ref (G.2 2))] [] := by
  unfold f_X8_firstWrong_87 at h
  refine r_aload_n (pc := 87) C dX8_firstWrong_87 rfl 0 rfl ?_
  refine gi_X8_262 (pc := 88) C dX8_firstWrong_88 (cSh_0 hb1) rfl ?_
  refine r_aload_n (pc := 91) C dX8_firstWrong_91 rfl 1 rfl ?_
  refine gi_X8_76 (pc := 92) C dX8_firstWrong_92 kx_2 rfl ?_
  refine r_icmp_le (pc := 95) C 105 dX8_firstWrong_95 (by decide) h (fun h => ?_) (fun h => ?_)
  · refine r_iconst (v := (-1:Int32)) (pc := 105) C dX8_firstWrong_105 (by decide) ?_
    exact r_iretP (pc := 106) C dX8_firstWrong_106 h
  · refine r_aload_n (pc := 98) C dX8_firstWrong_98 rfl 1 rfl ?_
    refine gi_X8_76 (pc := 99) C dX8_firstWrong_99 kx_2 rfl ?_
    refine r_goto (pc := 102) C 106 dX8_firstWrong_102 (by decide) ?_
    exact r_iretP (pc := 106) C dX8_firstWrong_106 h
def f_X8_firstWrong_81 (b1 : Nat) (w : Wd) (rec13 : Int32 → Int32 → Option (Int32)) (x3 : Int32) (x4 : Int32) : Option (Int32) := rec13 x3 (x4 + (1:Int32))
set_option maxRecDepth 20000 in
theorem b_X8_firstWrong_81 {G : Gv} {V : Vt} {b1 : Nat} {w : Wd} {rec13 : Int32 → Int32 → Option (Int32)} {res : Int32} (hb1 : isSh b1 = true)  (C : CX cX8_firstWrong RX8 G SX 5 5 (some FieldType.int) (some (.int res)) w V) (hrec13 : ∀ (x3 : Int32) (x4 : Int32), rec13 x3 x4 = some res → V w 13 [(0, .ref (G.2 0)), (1, .ref (G.2 b1)), (2, .ref (G.2 2)), (3, .int x3), (4, .int x4)] []) {x3 : Int32} {x4 : Int32} (h : f_X8_firstWrong_81 b1 w rec13 x3 x4 = some res) : V w 81 [(0, .ref (G.2 0)), (1, .ref (G.2 b1)), (2, .ref (G.2 2)), (3, .int x3), (4, .int x4)] [] := by
  unfold f_X8_firstWrong_81 at h
  refine r_iinc (v := (x4 + (1:Int32))) (L' := [(4, .int (x4 + (1:Int32))), (0, .ref (G.2 0)), (1, .ref (G.2 b1)), (2, .ref (G.2 2)), (3, .int x3)]) (pc := 81) C dX8_firstWrong_81 4 rfl rfl (by decide) rfl ?_
  refine r_goto (pc := 84) C 13 dX8_firstWrong_84 (by decide) ?_
  exact r_sub C [1, 2, 3, 4, 0] rfl (hrec13 _ _ h)
def fb_X8_firstWrong_13 (b1 : Nat) (w : Wd) (rec13 : Int32 → Int32 → Option (Int32)) (x3 : Int32) (x4 : Int32) : Option (Int32) := (if (w 2 0) ≤ x4 then f_X8_firstWrong_87 b1 w else (if (w b1 1) ≤ x4 then some x4 else ald w (b1 + 1) 40 x4 (fun v1 => bd (f_X8_isFree w x4 v1 x3) (fun q2 => (if ¬ q2 = 0 then bd (f_X6_isEmpty 2 w x4) (fun q3 => (if ¬ q3 = 0 then f_X8_firstWrong_81 b1 w rec13 x3 x4 else bd (f_X6_isShared 2 w x4) (fun q4 => (if ¬ q4 = 0 then f_X8_firstWrong_81 b1 w rec13 x3 x4 else ald w (b1 + 1) 40 x4 (fun v5 => lv (x3 ||| ((1:Int32) <<< (v5 &&& 31))) (fun v6 => f_X8_firstWrong_81 b1 w rec13 v6 x4)))))) else some x4)))))
set_option maxRecDepth 20000 in
theorem bb_X8_firstWrong_13 {G : Gv} {V : Vt} {b1 : Nat} {w : Wd} {rec13 : Int32 → Int32 → Option (Int32)} {res : Int32} (hb1 : isSh b1 = true)  (C : CX cX8_firstWrong RX8 G SX 5 5 (some FieldType.int) (some (.int res)) w V) (hrec13 : ∀ (x3 : Int32) (x4 : Int32), rec13 x3 x4 = some res → V w 13 [(0, .ref (G.2 0)), (1, .ref (G.2 b1)), (2, .ref (G.2 2)), (3, .int x3), (4, .int x4)] []) {x3 : Int32} {x4 : Int32} (h : fb_X8_firstWrong_13 b1 w rec13 x3 x4 = some res) : V w 13 [(0, .ref (G.2 0)), (1, .ref (G.2 b1)), (2, .ref (G.2 2)), (3, .int x3), (4, .int x4)] [] := by
  unfold fb_X8_firstWrong_13 at h
  refine r_iload (pc := 13) C dX8_firstWrong_13 4 rfl ?_
  refine r_aload_n (pc := 15) C dX8_firstWrong_15 rfl 2 rfl ?_
  refine gi_X8_76 (pc := 16) C dX8_firstWrong_16 kx_2 rfl ?_
  refine r_icmp_ge (pc := 19) C 87 dX8_firstWrong_19 (by decide) h (fun h => ?_) (fun h => ?_)
  · exact r_sub C [1, 2] rfl (b_X8_firstWrong_87 hb1 C h)
  · refine r_iload (pc := 22) C dX8_firstWrong_22 4 rfl ?_
    refine r_aload_n (pc := 24) C dX8_firstWrong_24 rfl 1 rfl ?_
    refine gi_X8_262 (pc := 25) C dX8_firstWrong_25 (cSh_0 hb1) rfl ?_
    refine r_icmp_ge (pc := 28) C 48 dX8_firstWrong_28 (by decide) h (fun h => ?_) (fun h => ?_)
    · refine r_iload (pc := 48) C dX8_firstWrong_48 4 rfl ?_
      exact r_iretP (pc := 50) C dX8_firstWrong_50 h
    · refine r_aload_n (pc := 31) C dX8_firstWrong_31 rfl 0 rfl ?_
      refine r_iload (pc := 32) C dX8_firstWrong_32 4 rfl ?_
      refine r_aload_n (pc := 34) C dX8_firstWrong_34 rfl 1 rfl ?_
      refine gr_X8_212 (pc := 35) (b1 + 1) C dX8_firstWrong_35 (cSh_0 hb1) rfl ?_
      refine r_iload (pc := 38) C dX8_firstWrong_38 4 rfl ?_
      refine r_ald (pc := 40) C dX8_firstWrong_40 h (cSh_1 hb1) (fun v1 h => ?_)
      refine r_iload_n (pc := 41) C dX8_firstWrong_41 rfl 3 rfl ?_
      refine cv_X8_327 (pc := 42) C dX8_firstWrong_42  h (by decide) (Nat.le_of_ble_eq_true rfl) (fun q2 h => ?_)
      refine r_if_ne (pc := 45) C 51 dX8_firstWrong_45 (by decide) h (fun h => ?_) (fun h => ?_)
      · refine r_aload_n (pc := 51) C dX8_firstWrong_51 rfl 2 rfl ?_
        refine r_iload (pc := 52) C dX8_firstWrong_52 4 rfl ?_
        refine cv_X8_99 (pc := 54) C dX8_firstWrong_54 isTr_2 h (by decide) (Nat.le_of_ble_eq_true rfl) (fun q3 h => ?_)
        refine r_if_ne (pc := 57) C 81 dX8_firstWrong_57 (by decide) h (fun h => ?_) (fun h => ?_)
        · exact r_sub C [0, 1, 2, 3, 4] rfl (b_X8_firstWrong_81 hb1 C hrec13 h)
        · refine r_aload_n (pc := 60) C dX8_firstWrong_60 rfl 2 rfl ?_
          refine r_iload (pc := 61) C dX8_firstWrong_61 4 rfl ?_
          refine cv_X8_330 (pc := 63) C dX8_firstWrong_63 isTr_2 h (by decide) (Nat.le_of_ble_eq_true rfl) (fun q4 h => ?_)
          refine r_if_ne (pc := 66) C 81 dX8_firstWrong_66 (by decide) h (fun h => ?_) (fun h => ?_)
          · exact r_sub C [0, 1, 2, 3, 4] rfl (b_X8_firstWrong_81 hb1 C hrec13 h)
          · refine r_iload_n (pc := 69) C dX8_firstWrong_69 rfl 3 rfl ?_
            refine r_iconst (v := (1:Int32)) (pc := 70) C dX8_firstWrong_70 (by decide) ?_
            refine r_aload_n (pc := 71) C dX8_firstWrong_71 rfl 1 rfl ?_
            refine gr_X8_212 (pc := 72) (b1 + 1) C dX8_firstWrong_72 (cSh_0 hb1) rfl ?_
            refine r_iload (pc := 75) C dX8_firstWrong_75 4 rfl ?_
            refine r_ald (pc := 77) C dX8_firstWrong_77 h (cSh_1 hb1) (fun v5 h => ?_)
            refine r_ishl (pc := 78) C dX8_firstWrong_78 ?_
            refine r_ior (pc := 79) C dX8_firstWrong_79 ?_
            refine r_lv h (fun v6 h => ?_)
            refine r_istore_n (L' := [(3, .int v6), (0, .ref (G.2 0)), (1, .ref (G.2 b1)), (2, .ref (G.2 2)), (4, .int x4)]) (pc := 80) C dX8_firstWrong_80 rfl (by decide) rfl ?_
            exact r_sub C [1, 2, 3, 0, 4] rfl (b_X8_firstWrong_81 hb1 C hrec13 h)
      · refine r_iload (pc := 48) C dX8_firstWrong_48 4 rfl ?_
        exact r_iretP (pc := 50) C dX8_firstWrong_50 h
def f_X8_firstWrong_13 (b1 : Nat) (w : Wd) : Int32 → Int32 → Option (Int32) := lp (fun _ _ => none) (fun rec => fb_X8_firstWrong_13 b1 w rec) FU
theorem b_X8_firstWrong_13 {G : Gv} {V : Vt} {b1 : Nat} {w : Wd} {res : Int32} (hb1 : isSh b1 = true)  (C : CX cX8_firstWrong RX8 G SX 5 5 (some FieldType.int) (some (.int res)) w V) : ∀ (x3 : Int32) (x4 : Int32), (f_X8_firstWrong_13 b1 w) x3 x4 = some res → V w 13 [(0, .ref (G.2 0)), (1, .ref (G.2 b1)), (2, .ref (G.2 2)), (3, .int x3), (4, .int x4)] [] :=
  lp_ind (P := fun (g : Int32 → Int32 → Option (Int32)) => ∀ (x3 : Int32) (x4 : Int32), g x3 x4 = some res → V w 13 [(0, .ref (G.2 0)), (1, .ref (G.2 b1)), (2, .ref (G.2 2)), (3, .int x3), (4, .int x4)] []) (fun _ _ h => by cases h) (fun g hg _ _ h => bb_X8_firstWrong_13 hb1 C hg h) FU
def f_X8_firstWrong (b1 : Nat) (w : Wd) : Option (Int32) := f_X8_firstWrong_13 b1 w (0:Int32) (0:Int32)
set_option maxRecDepth 20000 in
theorem b_X8_firstWrong_E {G : Gv} {V : Vt} {b1 : Nat} {w : Wd} {res : Int32} (hb1 : isSh b1 = true)  (C : CX cX8_firstWrong RX8 G SX 5 5 (some FieldType.int) (some (.int res)) w V) (h : f_X8_firstWrong b1 w = some res) : V w 0 [(0, .ref (G.2 0)), (1, .ref (G.2 b1))] [] := by
  unfold f_X8_firstWrong at h
  refine r_aload_n (pc := 0) C dX8_firstWrong_0 rfl 0 rfl ?_
  refine gr_X8_10 (pc := 1) 1 C dX8_firstWrong_1 kx_0 rfl ?_
  refine gr_X8_73 (pc := 4) 2 C dX8_firstWrong_4 kx_1 rfl ?_
  refine r_astore_n (L' := [(2, .ref (G.2 2)), (0, .ref (G.2 0)), (1, .ref (G.2 b1))]) (pc := 7) C dX8_firstWrong_7 rfl (by decide) rfl ?_
  refine r_iconst (v := (0:Int32)) (pc := 8) C dX8_firstWrong_8 (by decide) ?_
  refine r_istore_n (L' := [(3, .int (0:Int32)), (2, .ref (G.2 2)), (0, .ref (G.2 0)), (1, .ref (G.2 b1))]) (pc := 9) C dX8_firstWrong_9 rfl (by decide) rfl ?_
  refine r_iconst (v := (0:Int32)) (pc := 10) C dX8_firstWrong_10 (by decide) ?_
  refine r_istore (L' := [(4, .int (0:Int32)), (3, .int (0:Int32)), (2, .ref (G.2 2)), (0, .ref (G.2 0)), (1, .ref (G.2 b1))]) (pc := 11) C dX8_firstWrong_11 (by decide) rfl ?_
  exact r_sub C [3, 4, 2, 1, 0] rfl (b_X8_firstWrong_13 hb1 C _ _ h)
theorem c_X8_firstWrong {G : Gv} {b1 : Nat} {w : Wd} {res : Int32} (hb1 : isSh b1 = true) (h : f_X8_firstWrong b1 w = some res) (l : Launch) : MC l yX8_firstWrong cX8_firstWrong 5 (some FieldType.int) 5 G SX w [.ref (G.2 0), .ref (G.2 b1)] (some (.int res)) w := mc_of (by decide +kernel) rfl (Nat.le_of_ble_eq_true rfl) rfl (fun V C => b_X8_firstWrong_E hb1 C h) l
theorem cv_X8_197 {cc : ByteArray} {G : Gv} {n hc : Nat} {rt : Option FieldType} {rv : Option Value} {w0 : Wd} {V : Vt} {w : Wd} {pc : Nat} {L : List (Nat × Value)} {rest : List Value} {α : Type} {res : α} {p1 : Int32} {K : Option Nat → Option α} (C : CX cc RX8 G SX n hc rt rv w0 V) (hd : decode cc pc = .ok (.invokevirtual 197, 3)) (h : bd (f_X8_sheetAt w p1) K = some res) (hR : 2 + 1 ≤ hc) (hr : (rest.map fun v => v.category).sum ≤ 8) (kk : ∀ q, K q = some res → V w (pc + 3) L (va_re G.2 q :: rest)) : V w pc L (.int p1 :: .ref (G.2 0) :: rest) := r_callV (As := [.int p1]) (rest := rest) (rvf := fun q => (some (va_re G.2 q))) (wf := fun q => w) C hd h ql_X8_197 qi_X8_sheetAt qs_X8_sheetAt qn_X8 qc_X8_sheetAt ⟨rfl, by decide +kernel, by decide +kernel, (by decide +kernel : (parseMethodDescriptor yX8_sheetAt.desc).map (fun d => d.parameters.length) = some 1)⟩ ⟨hR, by decide⟩ kx_0 rfl (fun q hq l => c_X8_sheetAt hq l) rfl hr kk
theorem cv_X8_201 {cc : ByteArray} {G : Gv} {n hc : Nat} {rt : Option FieldType} {rv : Option Value} {w0 : Wd} {V : Vt} {w : Wd} {pc : Nat} {L : List (Nat × Value)} {rest : List Value} {α : Type} {res : α} {b0 : Nat} {K : Int32 → Option α} (C : CX cc RX8 G SX n hc rt rv w0 V) (hd : decode cc pc = .ok (.invokevirtual 201, 3)) (hb0 : isSh b0 = true) (h : bd (f_X5_isMissing b0 w) K = some res) (hR : 1 + 1 ≤ hc) (hr : (rest.map fun v => v.category).sum ≤ 8) (kk : ∀ q, K q = some res → V w (pc + 3) L (.int q :: rest)) : V w pc L (.ref (G.2 b0) :: rest) := r_callV (As := []) (rest := rest) (rvf := fun q => (some (.int q))) (wf := fun q => w) C hd h ql_X8_201 qi_X5_isMissing qs_X5_isMissing qn_X5 qc_X5_isMissing ⟨rfl, by decide +kernel, by decide +kernel, (by decide +kernel : (parseMethodDescriptor yX5_isMissing.desc).map (fun d => d.parameters.length) = some 0)⟩ ⟨hR, by decide⟩ (cSh_0 hb0) rfl (fun q hq l => c_X5_isMissing hb0 hq l) rfl hr kk
theorem cv_X8_205 {cc : ByteArray} {G : Gv} {n hc : Nat} {rt : Option FieldType} {rv : Option Value} {w0 : Wd} {V : Vt} {w : Wd} {pc : Nat} {L : List (Nat × Value)} {rest : List Value} {α : Type} {res : α} {b1 : Nat} {K : Int32 → Option α} (C : CX cc RX8 G SX n hc rt rv w0 V) (hd : decode cc pc = .ok (.invokevirtual 205, 3)) (hb1 : isSh b1 = true) (h : bd (f_X8_firstWrong b1 w) K = some res) (hR : 5 + 1 ≤ hc) (hr : (rest.map fun v => v.category).sum ≤ 8) (kk : ∀ q, K q = some res → V w (pc + 3) L (.int q :: rest)) : V w pc L (.ref (G.2 b1) :: .ref (G.2 0) :: rest) := r_callV (As := [.ref (G.2 b1)]) (rest := rest) (rvf := fun q => (some (.int q))) (wf := fun q => w) C hd h ql_X8_205 qi_X8_firstWrong qs_X8_firstWrong qn_X8 qc_X8_firstWrong ⟨rfl, by decide +kernel, by decide +kernel, (by decide +kernel : (parseMethodDescriptor yX8_firstWrong.desc).map (fun d => d.parameters.length) = some 1)⟩ ⟨hR, by decide⟩ kx_0 rfl (fun q hq l => c_X8_firstWrong hb1 hq l) rfl hr kk
theorem cv_X8_222 {cc : ByteArray} {G : Gv} {n hc : Nat} {rt : Option FieldType} {rv : Option Value} {w0 : Wd} {V : Vt} {w : Wd} {pc : Nat} {L : List (Nat × Value)} {rest : List Value} {α : Type} {res : α} {b0 : Nat} {b1 : Nat} {b2 : Nat} {b3 : Nat} {K : Wd → Option α} (C : CX cc RX8 G SX n hc rt rv w0 V) (hd : decode cc pc = .ok (.invokevirtual 222, 3)) (hb0 : isTr b0 = true) (hb1 : isAr b1 = true) (hb2 : isLa b2 = true) (hb3 : isLa b3 = true) (h : bd (f_X6_play b0 b1 b2 b3 w) K = some res) (hR : 5 + 1 ≤ hc) (hr : (rest.map fun v => v.category).sum ≤ 8) (kk : ∀ q, K q = some res → V q (pc + 3) L (rest)) : V w pc L (.ref (G.2 b3) :: .ref (G.2 b2) :: .ref (G.2 b1) :: .ref (G.2 b0) :: rest) := r_callV (As := [.ref (G.2 b1), .ref (G.2 b2), .ref (G.2 b3)]) (rest := rest) (rvf := fun q => none) (wf := fun q => q) C hd h ql_X8_222 qi_X6_play qs_X6_play qn_X6 qc_X6_play ⟨rfl, by decide +kernel, by decide +kernel, (by decide +kernel : (parseMethodDescriptor yX6_play.desc).map (fun d => d.parameters.length) = some 3)⟩ ⟨hR, by decide⟩ (cTr_0 hb0) rfl (fun q hq l => c_X6_play hb0 hb1 hb2 hb3 hq l) rfl hr kk
def f_X8_cast_53 (w : Wd) : Option (Int32 × Wd) := bd (f_X8_error (3:Int32) w) (fun q1 => some (q1.1, q1.2))
set_option maxRecDepth 20000 in
theorem b_X8_cast_53 {G : Gv} {V : Vt} {res : Int32 × Wd}  (C : CX cX8_cast RX8 G SX 3 6 (some FieldType.int) (some (.int res.1)) res.2 V) {w : Wd} (h : f_X8_cast_53 w = some res) : V w 53 [(0, .ref (G.2 0))] [] := by
  unfold f_X8_cast_53 at h
  refine r_aload_n (pc := 53) C dX8_cast_53 rfl 0 rfl ?_
  refine r_iconst (v := (3:Int32)) (pc := 54) C dX8_cast_54 (by decide) ?_
  refine cv_X8_69 (pc := 55) C dX8_cast_55  h (by decide) (Nat.le_of_ble_eq_true rfl) (fun q1 h => ?_)
  exact r_iretE (pc := 58) C dX8_cast_58 h
def f_X8_cast (p1 : Int32) (w : Wd) : Option (Int32 × Wd) := bd (f_X8_sheetAt w p1) (fun q1 => oc q1 isSh (bd (f_X8_error (1:Int32) w) (fun q2 => some (q2.1, q2.2))) (fun s2 => bd (f_X5_isMissing s2 w) (fun q3 => (if q3 = 0 then bd (f_X8_firstWrong s2 w) (fun q4 => (if 0 ≤ q4 then f_X8_cast_53 w else (if (w 2 12) < (9999:Int32) then bd (f_X6_play 2 (s2 + 1) 11 16 w) (fun q5 => some ((q5 2 12), q5)) else f_X8_cast_53 w))) else bd (f_X8_error (2:Int32) w) (fun q6 => some (q6.1, q6.2))))))
set_option maxRecDepth 20000 in
theorem b_X8_cast_E {G : Gv} {V : Vt} {res : Int32 × Wd}  (C : CX cX8_cast RX8 G SX 3 6 (some FieldType.int) (some (.int res.1)) res.2 V) {p1 : Int32} {w : Wd} (h : f_X8_cast p1 w = some res) : V w 0 [(0, .ref (G.2 0)), (1, .int p1)] [] := by
  unfold f_X8_cast at h
  refine r_aload_n (pc := 0) C dX8_cast_0 rfl 0 rfl ?_
  refine r_iload_n (pc := 1) C dX8_cast_1 rfl 1 rfl ?_
  refine cv_X8_197 (pc := 2) C dX8_cast_2  h (by decide) (Nat.le_of_ble_eq_true rfl) (fun q1 h => ?_)
  refine r_oc (pc := 5) h (fun h => ?_) (fun s2 hs2 h => ?_)
  · refine r_astore_nN (L' := [(2, .null), (0, .ref (G.2 0)), (1, .int p1)]) (pc := 5) C dX8_cast_5 rfl (by decide) rfl ?_
    refine r_aload_nN (pc := 6) C dX8_cast_6 rfl 0 rfl ?_
    refine r_ifnonnullN (pc := 7) C dX8_cast_7 ?_
    refine r_aload_n (pc := 10) C dX8_cast_10 rfl 1 rfl ?_
    refine r_iconst (v := (1:Int32)) (pc := 11) C dX8_cast_11 (by decide) ?_
    refine cv_X8_69 (pc := 12) C dX8_cast_12  h (by decide) (Nat.le_of_ble_eq_true rfl) (fun q2 h => ?_)
    exact r_iretE (pc := 15) C dX8_cast_15 h
  · refine r_astore_n (L' := [(2, .ref (G.2 s2)), (0, .ref (G.2 0)), (1, .int p1)]) (pc := 5) C dX8_cast_5 rfl (by decide) rfl ?_
    refine r_aload_n (pc := 6) C dX8_cast_6 rfl 0 rfl ?_
    refine r_ifnonnull (pc := 7) C 16 dX8_cast_7 (by decide) ?_
    refine r_aload_n (pc := 16) C dX8_cast_16 rfl 0 rfl ?_
    refine cv_X8_201 (pc := 17) C dX8_cast_17 hs2 h (by decide) (Nat.le_of_ble_eq_true rfl) (fun q3 h => ?_)
    refine r_if_eq (pc := 20) C 29 dX8_cast_20 (by decide) h (fun h => ?_) (fun h => ?_)
    · refine r_aload_n (pc := 29) C dX8_cast_29 rfl 1 rfl ?_
      refine r_aload_n (pc := 30) C dX8_cast_30 rfl 0 rfl ?_
      refine cv_X8_205 (pc := 31) C dX8_cast_31 hs2 h (by decide) (Nat.le_of_ble_eq_true rfl) (fun q4 h => ?_)
      refine r_if_ge (pc := 34) C 53 dX8_cast_34 (by decide) h (fun h => ?_) (fun h => ?_)
      · exact r_sub C [1] rfl (b_X8_cast_53 C h)
      · refine r_aload_n (pc := 37) C dX8_cast_37 rfl 1 rfl ?_
        refine gr_X8_10 (pc := 38) 1 C dX8_cast_38 kx_0 rfl ?_
        refine gr_X8_73 (pc := 41) 2 C dX8_cast_41 kx_1 rfl ?_
        refine gi_X8_209 (pc := 44) C dX8_cast_44 kx_2 rfl ?_
        refine r_sipush (v := (9999:Int32)) (pc := 47) C dX8_cast_47 (by decide) ?_
        refine r_icmp_lt (pc := 50) C 59 dX8_cast_50 (by decide) h (fun h => ?_) (fun h => ?_)
        · refine r_aload_n (pc := 59) C dX8_cast_59 rfl 1 rfl ?_
          refine gr_X8_10 (pc := 60) 1 C dX8_cast_60 kx_0 rfl ?_
          refine gr_X8_73 (pc := 63) 2 C dX8_cast_63 kx_1 rfl ?_
          refine r_aload_n (pc := 66) C dX8_cast_66 rfl 0 rfl ?_
          refine gr_X8_212 (pc := 67) (s2 + 1) C dX8_cast_67 (cSh_0 hs2) rfl ?_
          refine r_aload_n (pc := 70) C dX8_cast_70 rfl 1 rfl ?_
          refine gr_X8_10 (pc := 71) 1 C dX8_cast_71 kx_0 rfl ?_
          refine gr_X8_215 (pc := 74) 11 C dX8_cast_74 kx_1 rfl ?_
          refine r_aload_n (pc := 77) C dX8_cast_77 rfl 1 rfl ?_
          refine gr_X8_10 (pc := 78) 1 C dX8_cast_78 kx_0 rfl ?_
          refine gr_X8_219 (pc := 81) 16 C dX8_cast_81 kx_1 rfl ?_
          refine cv_X8_222 (pc := 84) C dX8_cast_84 isTr_2 (sSh_1 hs2) isLa_11 isLa_16 h (by decide) (Nat.le_of_ble_eq_true rfl) (fun q5 h => ?_)
          refine r_aload_n (pc := 87) C dX8_cast_87 rfl 1 rfl ?_
          refine gr_X8_10 (pc := 88) 1 C dX8_cast_88 kx_0 rfl ?_
          refine gr_X8_73 (pc := 91) 2 C dX8_cast_91 kx_1 rfl ?_
          refine gi_X8_209 (pc := 94) C dX8_cast_94 kx_2 rfl ?_
          exact r_iretE (pc := 97) C dX8_cast_97 h
        · exact r_sub C [1] rfl (b_X8_cast_53 C h)
    · refine r_aload_n (pc := 23) C dX8_cast_23 rfl 1 rfl ?_
      refine r_iconst (v := (2:Int32)) (pc := 24) C dX8_cast_24 (by decide) ?_
      refine cv_X8_69 (pc := 25) C dX8_cast_25  h (by decide) (Nat.le_of_ble_eq_true rfl) (fun q6 h => ?_)
      exact r_iretE (pc := 28) C dX8_cast_28 h
theorem c_X8_cast {G : Gv} {p1 : Int32} {w : Wd} {res : Int32 × Wd} (h : f_X8_cast p1 w = some res) (l : Launch) : MC l yX8_cast cX8_cast 3 (some FieldType.int) 6 G SX w [.ref (G.2 0), .int p1] (some (.int res.1)) res.2 := mc_of (by decide +kernel) rfl (Nat.le_of_ble_eq_true rfl) rfl (fun V C => b_X8_cast_E C h) l
theorem cv_X8_241 {cc : ByteArray} {G : Gv} {n hc : Nat} {rt : Option FieldType} {rv : Option Value} {w0 : Wd} {V : Vt} {w : Wd} {pc : Nat} {L : List (Nat × Value)} {rest : List Value} {α : Type} {res : α} {b1 : Nat} {p2 : Int32} {K : Wd → Option α} (C : CX cc RX8 G SX n hc rt rv w0 V) (hd : decode cc pc = .ok (.invokevirtual 241, 3)) (hb1 : isTr b1 = true) (h : bd (f_X1_begin b1 p2 w) K = some res) (hR : 4 + 1 ≤ hc) (hr : (rest.map fun v => v.category).sum ≤ 8) (kk : ∀ q, K q = some res → V q (pc + 3) L (rest)) : V w pc L (.int p2 :: .ref (G.2 b1) :: .ref (G.2 58) :: rest) := r_callV (As := [.ref (G.2 b1), .int p2]) (rest := rest) (rvf := fun q => none) (wf := fun q => q) C hd h ql_X8_241 qi_X1_begin qs_X1_begin qn_X1 qc_X1_begin ⟨rfl, by decide +kernel, by decide +kernel, (by decide +kernel : (parseMethodDescriptor yX1_begin.desc).map (fun d => d.parameters.length) = some 2)⟩ ⟨hR, by decide⟩ kx_58 rfl (fun q hq l => c_X1_begin hb1 hq l) rfl hr kk
theorem cv_X8_245 {cc : ByteArray} {G : Gv} {n hc : Nat} {rt : Option FieldType} {rv : Option Value} {w0 : Wd} {V : Vt} {w : Wd} {pc : Nat} {L : List (Nat × Value)} {rest : List Value} {α : Type} {res : α} {K : Int32 × Wd → Option α} (C : CX cc RX8 G SX n hc rt rv w0 V) (hd : decode cc pc = .ok (.invokevirtual 245, 3)) (h : bd (f_X1_goesOn w) K = some res) (hR : 3 + 1 ≤ hc) (hr : (rest.map fun v => v.category).sum ≤ 8) (kk : ∀ q, K q = some res → V q.2 (pc + 3) L (.int q.1 :: rest)) : V w pc L (.ref (G.2 58) :: rest) := r_callV (As := []) (rest := rest) (rvf := fun q => (some (.int q.1))) (wf := fun q => q.2) C hd h ql_X8_245 qi_X1_goesOn qs_X1_goesOn qn_X1 qc_X1_goesOn ⟨rfl, by decide +kernel, by decide +kernel, (by decide +kernel : (parseMethodDescriptor yX1_goesOn.desc).map (fun d => d.parameters.length) = some 0)⟩ ⟨hR, by decide⟩ kx_58 rfl (fun q hq l => c_X1_goesOn hq l) rfl hr kk
def fb_X8_playFirsts_2 (b1 : Nat) (rec2 : Int32 → Int32 → Wd → Option (Int32 × Wd)) (x2 : Int32) (x3 : Int32) (w : Wd) : Option (Int32 × Wd) := (if x2 ≤ x3 then some (x2, w) else bd (f_X1_begin b1 (0:Int32) w) (fun q1 => bd (f_X1_goesOn q1) (fun q2 => (if ¬ q2.1 = 0 then bd (f_X6_play b1 59 11 16 q2.2) (fun q3 => rec2 x2 (x3 + (1:Int32)) q3) else some (x3, q2.2)))))
set_option maxRecDepth 20000 in
theorem bb_X8_playFirsts_2 {G : Gv} {V : Vt} {b1 : Nat} {rec2 : Int32 → Int32 → Wd → Option (Int32 × Wd)} {res : Int32 × Wd} (hb1 : isTr b1 = true)  (C : CX cX8_playFirsts RX8 G SX 4 6 (some FieldType.int) (some (.int res.1)) res.2 V) (hrec2 : ∀ (x2 : Int32) (x3 : Int32) (w : Wd), rec2 x2 x3 w = some res → V w 2 [(0, .ref (G.2 0)), (1, .ref (G.2 b1)), (2, .int x2), (3, .int x3)] []) {x2 : Int32} {x3 : Int32} {w : Wd} (h : fb_X8_playFirsts_2 b1 rec2 x2 x3 w = some res) : V w 2 [(0, .ref (G.2 0)), (1, .ref (G.2 b1)), (2, .int x2), (3, .int x3)] [] := by
  unfold fb_X8_playFirsts_2 at h
  refine r_iload_n (pc := 2) C dX8_playFirsts_2 rfl 3 rfl ?_
  refine r_iload_n (pc := 3) C dX8_playFirsts_3 rfl 2 rfl ?_
  refine r_icmp_ge (pc := 4) C 59 dX8_playFirsts_4 (by decide) h (fun h => ?_) (fun h => ?_)
  · refine r_iload_n (pc := 59) C dX8_playFirsts_59 rfl 2 rfl ?_
    exact r_iretE (pc := 60) C dX8_playFirsts_60 h
  · refine r_aload_n (pc := 7) C dX8_playFirsts_7 rfl 0 rfl ?_
    refine gr_X8_29 (pc := 8) 58 C dX8_playFirsts_8 kx_0 rfl ?_
    refine r_aload_n (pc := 11) C dX8_playFirsts_11 rfl 1 rfl ?_
    refine r_iconst (v := (0:Int32)) (pc := 12) C dX8_playFirsts_12 (by decide) ?_
    refine cv_X8_241 (pc := 13) C dX8_playFirsts_13 hb1 h (by decide) (Nat.le_of_ble_eq_true rfl) (fun q1 h => ?_)
    refine r_aload_n (pc := 16) C dX8_playFirsts_16 rfl 0 rfl ?_
    refine gr_X8_29 (pc := 17) 58 C dX8_playFirsts_17 kx_0 rfl ?_
    refine cv_X8_245 (pc := 20) C dX8_playFirsts_20  h (by decide) (Nat.le_of_ble_eq_true rfl) (fun q2 h => ?_)
    refine r_if_ne (pc := 23) C 28 dX8_playFirsts_23 (by decide) h (fun h => ?_) (fun h => ?_)
    · refine r_aload_n (pc := 28) C dX8_playFirsts_28 rfl 1 rfl ?_
      refine r_aload_n (pc := 29) C dX8_playFirsts_29 rfl 0 rfl ?_
      refine gr_X8_29 (pc := 30) 58 C dX8_playFirsts_30 kx_0 rfl ?_
      refine gr_X8_248 (pc := 33) 59 C dX8_playFirsts_33 kx_58 rfl ?_
      refine r_aload_n (pc := 36) C dX8_playFirsts_36 rfl 0 rfl ?_
      refine gr_X8_10 (pc := 37) 1 C dX8_playFirsts_37 kx_0 rfl ?_
      refine gr_X8_215 (pc := 40) 11 C dX8_playFirsts_40 kx_1 rfl ?_
      refine r_aload_n (pc := 43) C dX8_playFirsts_43 rfl 0 rfl ?_
      refine gr_X8_10 (pc := 44) 1 C dX8_playFirsts_44 kx_0 rfl ?_
      refine gr_X8_219 (pc := 47) 16 C dX8_playFirsts_47 kx_1 rfl ?_
      refine cv_X8_222 (pc := 50) C dX8_playFirsts_50 hb1 isAr_59 isLa_11 isLa_16 h (by decide) (Nat.le_of_ble_eq_true rfl) (fun q3 h => ?_)
      refine r_iinc (v := (x3 + (1:Int32))) (L' := [(3, .int (x3 + (1:Int32))), (0, .ref (G.2 0)), (1, .ref (G.2 b1)), (2, .int x2)]) (pc := 53) C dX8_playFirsts_53 3 rfl rfl (by decide) rfl ?_
      refine r_goto (pc := 56) C 2 dX8_playFirsts_56 (by decide) ?_
      exact r_sub C [1, 2, 3, 0] rfl (hrec2 _ _ _ h)
    · refine r_iload_n (pc := 26) C dX8_playFirsts_26 rfl 3 rfl ?_
      exact r_iretE (pc := 27) C dX8_playFirsts_27 h
def f_X8_playFirsts_2 (b1 : Nat) : Int32 → Int32 → Wd → Option (Int32 × Wd) := lp (fun _ _ _ => none) (fun rec => fb_X8_playFirsts_2 b1 rec) FU
theorem b_X8_playFirsts_2 {G : Gv} {V : Vt} {b1 : Nat} {res : Int32 × Wd} (hb1 : isTr b1 = true)  (C : CX cX8_playFirsts RX8 G SX 4 6 (some FieldType.int) (some (.int res.1)) res.2 V) : ∀ (x2 : Int32) (x3 : Int32) (w : Wd), (f_X8_playFirsts_2 b1) x2 x3 w = some res → V w 2 [(0, .ref (G.2 0)), (1, .ref (G.2 b1)), (2, .int x2), (3, .int x3)] [] :=
  lp_ind (P := fun (g : Int32 → Int32 → Wd → Option (Int32 × Wd)) => ∀ (x2 : Int32) (x3 : Int32) (w : Wd), g x2 x3 w = some res → V w 2 [(0, .ref (G.2 0)), (1, .ref (G.2 b1)), (2, .int x2), (3, .int x3)] []) (fun _ _ _ h => by cases h) (fun g hg _ _ _ h => bb_X8_playFirsts_2 hb1 C hg h) FU
def f_X8_playFirsts (b1 : Nat) (p2 : Int32) (w : Wd) : Option (Int32 × Wd) := f_X8_playFirsts_2 b1 p2 (0:Int32) w
set_option maxRecDepth 20000 in
theorem b_X8_playFirsts_E {G : Gv} {V : Vt} {b1 : Nat} {res : Int32 × Wd} (hb1 : isTr b1 = true)  (C : CX cX8_playFirsts RX8 G SX 4 6 (some FieldType.int) (some (.int res.1)) res.2 V) {p2 : Int32} {w : Wd} (h : f_X8_playFirsts b1 p2 w = some res) : V w 0 [(0, .ref (G.2 0)), (1, .ref (G.2 b1)), (2, .int p2)] [] := by
  unfold f_X8_playFirsts at h
  refine r_iconst (v := (0:Int32)) (pc := 0) C dX8_playFirsts_0 (by decide) ?_
  refine r_istore_n (L' := [(3, .int (0:Int32)), (0, .ref (G.2 0)), (1, .ref (G.2 b1)), (2, .int p2)]) (pc := 1) C dX8_playFirsts_1 rfl (by decide) rfl ?_
  exact r_sub C [1, 2, 3, 0] rfl (b_X8_playFirsts_2 hb1 C _ _ _ h)
theorem c_X8_playFirsts {G : Gv} {b1 : Nat} {p2 : Int32} {w : Wd} {res : Int32 × Wd} (hb1 : isTr b1 = true) (h : f_X8_playFirsts b1 p2 w = some res) (l : Launch) : MC l yX8_playFirsts cX8_playFirsts 4 (some FieldType.int) 6 G SX w [.ref (G.2 0), .ref (G.2 b1), .int p2] (some (.int res.1)) res.2 := mc_of (by decide +kernel) rfl (Nat.le_of_ble_eq_true rfl) rfl (fun V C => b_X8_playFirsts_E hb1 C h) l
theorem cv_X8_231 {cc : ByteArray} {G : Gv} {n hc : Nat} {rt : Option FieldType} {rv : Option Value} {w0 : Wd} {V : Vt} {w : Wd} {pc : Nat} {L : List (Nat × Value)} {rest : List Value} {α : Type} {res : α} {b1 : Nat} {p2 : Int32} {K : Int32 × Wd → Option α} (C : CX cc RX8 G SX n hc rt rv w0 V) (hd : decode cc pc = .ok (.invokevirtual 231, 3)) (hb1 : isTr b1 = true) (h : bd (f_X8_playFirsts b1 p2 w) K = some res) (hR : 6 + 1 ≤ hc) (hr : (rest.map fun v => v.category).sum ≤ 8) (kk : ∀ q, K q = some res → V q.2 (pc + 3) L (.int q.1 :: rest)) : V w pc L (.int p2 :: .ref (G.2 b1) :: .ref (G.2 0) :: rest) := r_callV (As := [.ref (G.2 b1), .int p2]) (rest := rest) (rvf := fun q => (some (.int q.1))) (wf := fun q => q.2) C hd h ql_X8_231 qi_X8_playFirsts qs_X8_playFirsts qn_X8 qc_X8_playFirsts ⟨rfl, by decide +kernel, by decide +kernel, (by decide +kernel : (parseMethodDescriptor yX8_playFirsts.desc).map (fun d => d.parameters.length) = some 2)⟩ ⟨hR, by decide⟩ kx_0 rfl (fun q hq l => c_X8_playFirsts hb1 hq l) rfl hr kk
def f_X8_nights (p1 : Int32) (w : Wd) : Option (Int32 × Wd) := bd (f_X8_isWithin p1 (1:Int32) (60:Int32)) (fun q1 => (if ¬ q1 = 0 then bd (f_X8_playFirsts 2 (mmin p1 ((9999:Int32) - (w 2 12))) w) (fun q2 => some (q2.1, q2.2)) else bd (f_X8_error (1:Int32) w) (fun q3 => some (q3.1, q3.2))))
set_option maxRecDepth 20000 in
theorem b_X8_nights_E {G : Gv} {V : Vt} {res : Int32 × Wd}  (C : CX cX8_nights RX8 G SX 2 7 (some FieldType.int) (some (.int res.1)) res.2 V) {p1 : Int32} {w : Wd} (h : f_X8_nights p1 w = some res) : V w 0 [(0, .ref (G.2 0)), (1, .int p1)] [] := by
  unfold f_X8_nights at h
  refine r_iload_n (pc := 0) C dX8_nights_0 rfl 1 rfl ?_
  refine r_iconst (v := (1:Int32)) (pc := 1) C dX8_nights_1 (by decide) ?_
  refine r_bipush (v := (60:Int32)) (pc := 2) C dX8_nights_2 (by decide) ?_
  refine cv_X8_65 (pc := 4) C dX8_nights_4  h (by decide) (Nat.le_of_ble_eq_true rfl) (fun q1 h => ?_)
  refine r_if_ne (pc := 7) C 16 dX8_nights_7 (by decide) h (fun h => ?_) (fun h => ?_)
  · refine r_aload_n (pc := 16) C dX8_nights_16 rfl 0 rfl ?_
    refine r_aload_n (pc := 17) C dX8_nights_17 rfl 0 rfl ?_
    refine gr_X8_10 (pc := 18) 1 C dX8_nights_18 kx_0 rfl ?_
    refine gr_X8_73 (pc := 21) 2 C dX8_nights_21 kx_1 rfl ?_
    refine r_iload_n (pc := 24) C dX8_nights_24 rfl 1 rfl ?_
    refine r_sipush (v := (9999:Int32)) (pc := 25) C dX8_nights_25 (by decide) ?_
    refine r_aload_n (pc := 28) C dX8_nights_28 rfl 0 rfl ?_
    refine gr_X8_10 (pc := 29) 1 C dX8_nights_29 kx_0 rfl ?_
    refine gr_X8_73 (pc := 32) 2 C dX8_nights_32 kx_1 rfl ?_
    refine gi_X8_209 (pc := 35) C dX8_nights_35 kx_2 rfl ?_
    refine r_isub (pc := 38) C dX8_nights_38 ?_
    refine r_mmin (pc := 39) C dX8_nights_39 ql_X8_226 qt_Math_min qn_J9 qc_Math_min (Nat.le_of_ble_eq_true rfl) ?_
    refine cv_X8_231 (pc := 42) C dX8_nights_42 isTr_2 h (by decide) (Nat.le_of_ble_eq_true rfl) (fun q2 h => ?_)
    exact r_iretE (pc := 45) C dX8_nights_45 h
  · refine r_aload_n (pc := 10) C dX8_nights_10 rfl 0 rfl ?_
    refine r_iconst (v := (1:Int32)) (pc := 11) C dX8_nights_11 (by decide) ?_
    refine cv_X8_69 (pc := 12) C dX8_nights_12  h (by decide) (Nat.le_of_ble_eq_true rfl) (fun q3 h => ?_)
    exact r_iretE (pc := 15) C dX8_nights_15 h
theorem c_X8_nights {G : Gv} {p1 : Int32} {w : Wd} {res : Int32 × Wd} (h : f_X8_nights p1 w = some res) (l : Launch) : MC l yX8_nights cX8_nights 2 (some FieldType.int) 7 G SX w [.ref (G.2 0), .int p1] (some (.int res.1)) res.2 := mc_of (by decide +kernel) rfl (Nat.le_of_ble_eq_true rfl) rfl (fun V C => b_X8_nights_E C h) l
theorem cv_X8_235 {cc : ByteArray} {G : Gv} {n hc : Nat} {rt : Option FieldType} {rv : Option Value} {w0 : Wd} {V : Vt} {w : Wd} {pc : Nat} {L : List (Nat × Value)} {rest : List Value} {α : Type} {res : α} {b0 : Nat} {K : Int32 × Wd → Option α} (C : CX cc RX8 G SX n hc rt rv w0 V) (hd : decode cc pc = .ok (.invokevirtual 235, 3)) (hb0 : isBk b0 = true) (h : bd (f_X0_draw b0 w) K = some res) (hR : 1 + 1 ≤ hc) (hr : (rest.map fun v => v.category).sum ≤ 8) (kk : ∀ q, K q = some res → V q.2 (pc + 3) L (.int q.1 :: rest)) : V w pc L (.ref (G.2 b0) :: rest) := r_callV (As := []) (rest := rest) (rvf := fun q => (some (.int q.1))) (wf := fun q => q.2) C hd h ql_X8_235 qi_X0_draw qs_X0_draw qn_X0 qc_X0_draw ⟨rfl, by decide +kernel, by decide +kernel, (by decide +kernel : (parseMethodDescriptor yX0_draw.desc).map (fun d => d.parameters.length) = some 0)⟩ ⟨hR, by decide⟩ (cBk_0 hb0) rfl (fun q hq l => c_X0_draw hb0 hq l) rfl hr kk
theorem cv_X8_238 {cc : ByteArray} {G : Gv} {n hc : Nat} {rt : Option FieldType} {rv : Option Value} {w0 : Wd} {V : Vt} {w : Wd} {pc : Nat} {L : List (Nat × Value)} {rest : List Value} {α : Type} {res : α} {b0 : Nat} {K : Int32 → Option α} (C : CX cc RX8 G SX n hc rt rv w0 V) (hd : decode cc pc = .ok (.invokevirtual 238, 3)) (hb0 : isTr b0 = true) (h : bd (f_X6_allPurses b0 w) K = some res) (hR : 1 + 1 ≤ hc) (hr : (rest.map fun v => v.category).sum ≤ 8) (kk : ∀ q, K q = some res → V w (pc + 3) L (.int q :: rest)) : V w pc L (.ref (G.2 b0) :: rest) := r_callV (As := []) (rest := rest) (rvf := fun q => (some (.int q))) (wf := fun q => w) C hd h ql_X8_238 qi_X6_allPurses qs_X6_allPurses qn_X6 qc_X6_allPurses ⟨rfl, by decide +kernel, by decide +kernel, (by decide +kernel : (parseMethodDescriptor yX6_allPurses.desc).map (fun d => d.parameters.length) = some 0)⟩ ⟨hR, by decide⟩ (cTr_0 hb0) rfl (fun q hq l => c_X6_allPurses hb0 hq l) rfl hr kk
def f_X8_loose_104 (w : Wd) : Option (Int32 × Wd) := bd (f_X6_allPurses 2 w) (fun q1 => some (q1, w))
set_option maxRecDepth 20000 in
theorem b_X8_loose_104 {G : Gv} {V : Vt} {res : Int32 × Wd}  (C : CX cX8_loose RX8 G SX 4 7 (some FieldType.int) (some (.int res.1)) res.2 V) {w : Wd} (h : f_X8_loose_104 w = some res) : V w 104 [(2, .ref (G.2 2))] [] := by
  unfold f_X8_loose_104 at h
  refine r_aload_n (pc := 104) C dX8_loose_104 rfl 0 rfl ?_
  refine cv_X8_238 (pc := 105) C dX8_loose_105 isTr_2 h (by decide) (Nat.le_of_ble_eq_true rfl) (fun q1 h => ?_)
  exact r_iretE (pc := 108) C dX8_loose_108 h
def f_X8_loose_98 (rec44 : Int32 → Int32 → Wd → Option (Int32 × Wd)) (x1 : Int32) (x3 : Int32) (w : Wd) : Option (Int32 × Wd) := rec44 x1 (x3 + (1:Int32)) w
set_option maxRecDepth 20000 in
theorem b_X8_loose_98 {G : Gv} {V : Vt} {rec44 : Int32 → Int32 → Wd → Option (Int32 × Wd)} {res : Int32 × Wd}  (C : CX cX8_loose RX8 G SX 4 7 (some FieldType.int) (some (.int res.1)) res.2 V) (hrec44 : ∀ (x1 : Int32) (x3 : Int32) (w : Wd), rec44 x1 x3 w = some res → V w 44 [(0, .ref (G.2 0)), (1, .int x1), (2, .ref (G.2 2)), (3, .int x3)] []) {x1 : Int32} {x3 : Int32} {w : Wd} (h : f_X8_loose_98 rec44 x1 x3 w = some res) : V w 98 [(0, .ref (G.2 0)), (1, .int x1), (2, .ref (G.2 2)), (3, .int x3)] [] := by
  unfold f_X8_loose_98 at h
  refine r_iinc (v := (x3 + (1:Int32))) (L' := [(3, .int (x3 + (1:Int32))), (0, .ref (G.2 0)), (1, .int x1), (2, .ref (G.2 2))]) (pc := 98) C dX8_loose_98 3 rfl rfl (by decide) rfl ?_
  refine r_goto (pc := 101) C 44 dX8_loose_101 (by decide) ?_
  exact r_sub C [1, 2, 3, 0] rfl (hrec44 _ _ _ h)
def f_X8_loose_79 (rec44 : Int32 → Int32 → Wd → Option (Int32 × Wd)) (x1 : Int32) (x3 : Int32) (w : Wd) : Option (Int32 × Wd) := bd (f_X8_playFirsts 2 (1:Int32) w) (fun q1 => (if ¬ q1.1 = 0 then f_X8_loose_98 rec44 x1 x3 q1.2 else wl (updW q1.2 2 12 ((q1.2 2 12) + (1:Int32))) (fun w2 => f_X8_loose_98 rec44 x1 x3 w2)))
set_option maxRecDepth 20000 in
theorem b_X8_loose_79 {G : Gv} {V : Vt} {rec44 : Int32 → Int32 → Wd → Option (Int32 × Wd)} {res : Int32 × Wd}  (C : CX cX8_loose RX8 G SX 4 7 (some FieldType.int) (some (.int res.1)) res.2 V) (hrec44 : ∀ (x1 : Int32) (x3 : Int32) (w : Wd), rec44 x1 x3 w = some res → V w 44 [(0, .ref (G.2 0)), (1, .int x1), (2, .ref (G.2 2)), (3, .int x3)] []) {x1 : Int32} {x3 : Int32} {w : Wd} (h : f_X8_loose_79 rec44 x1 x3 w = some res) : V w 79 [(0, .ref (G.2 0)), (1, .int x1), (2, .ref (G.2 2)), (3, .int x3)] [] := by
  unfold f_X8_loose_79 at h
  refine r_aload_n (pc := 79) C dX8_loose_79 rfl 0 rfl ?_
  refine r_aload_n (pc := 80) C dX8_loose_80 rfl 2 rfl ?_
  refine r_iconst (v := (1:Int32)) (pc := 81) C dX8_loose_81 (by decide) ?_
  refine cv_X8_231 (pc := 82) C dX8_loose_82 isTr_2 h (by decide) (Nat.le_of_ble_eq_true rfl) (fun q1 h => ?_)
  refine r_if_ne (pc := 85) C 98 dX8_loose_85 (by decide) h (fun h => ?_) (fun h => ?_)
  · exact r_sub C [0, 1, 2, 3] rfl (b_X8_loose_98 C hrec44 h)
  · refine r_aload_n (pc := 88) C dX8_loose_88 rfl 2 rfl ?_
    refine r_dup (pc := 89) C dX8_loose_89 rfl ?_
    refine gi_X8_209 (pc := 90) C dX8_loose_90 kx_2 rfl ?_
    refine r_iconst (v := (1:Int32)) (pc := 93) C dX8_loose_93 (by decide) ?_
    refine r_iadd (pc := 94) C dX8_loose_94 ?_
    refine pi_X8_209 (pc := 95) C dX8_loose_95 kx_2 rfl h (fun w2 h => ?_)
    exact r_sub C [0, 1, 2, 3] rfl (b_X8_loose_98 C hrec44 h)
def fb_X8_loose_44 (rec44 : Int32 → Int32 → Wd → Option (Int32 × Wd)) (x1 : Int32) (x3 : Int32) (w : Wd) : Option (Int32 × Wd) := (if x1 ≤ x3 then f_X8_loose_104 w else (if (w 2 5) ≤ 0 then f_X8_loose_79 rec44 x1 x3 w else bd (f_X0_draw 1 w) (fun q1 => nz (q1.2 2 5) (wl (updW q1.2 2 10 ((w 2 10) ^^^ ((1:Int32) <<< ((q1.1 - q1.1 / (q1.2 2 5) * (q1.2 2 5)) &&& 31)))) (fun w2 => f_X8_loose_79 rec44 x1 x3 w2)))))
set_option maxRecDepth 20000 in
theorem bb_X8_loose_44 {G : Gv} {V : Vt} {rec44 : Int32 → Int32 → Wd → Option (Int32 × Wd)} {res : Int32 × Wd}  (C : CX cX8_loose RX8 G SX 4 7 (some FieldType.int) (some (.int res.1)) res.2 V) (hrec44 : ∀ (x1 : Int32) (x3 : Int32) (w : Wd), rec44 x1 x3 w = some res → V w 44 [(0, .ref (G.2 0)), (1, .int x1), (2, .ref (G.2 2)), (3, .int x3)] []) {x1 : Int32} {x3 : Int32} {w : Wd} (h : fb_X8_loose_44 rec44 x1 x3 w = some res) : V w 44 [(0, .ref (G.2 0)), (1, .int x1), (2, .ref (G.2 2)), (3, .int x3)] [] := by
  unfold fb_X8_loose_44 at h
  refine r_iload_n (pc := 44) C dX8_loose_44 rfl 3 rfl ?_
  refine r_iload_n (pc := 45) C dX8_loose_45 rfl 1 rfl ?_
  refine r_icmp_ge (pc := 46) C 104 dX8_loose_46 (by decide) h (fun h => ?_) (fun h => ?_)
  · exact r_sub C [2] rfl (b_X8_loose_104 C h)
  · refine r_aload_n (pc := 49) C dX8_loose_49 rfl 2 rfl ?_
    refine gi_X8_116 (pc := 50) C dX8_loose_50 kx_2 rfl ?_
    refine r_if_le (pc := 53) C 79 dX8_loose_53 (by decide) h (fun h => ?_) (fun h => ?_)
    · exact r_sub C [0, 1, 2, 3] rfl (b_X8_loose_79 C hrec44 h)
    · refine r_aload_n (pc := 56) C dX8_loose_56 rfl 2 rfl ?_
      refine r_dup (pc := 57) C dX8_loose_57 rfl ?_
      refine gi_X8_137 (pc := 58) C dX8_loose_58 kx_2 rfl ?_
      refine r_iconst (v := (1:Int32)) (pc := 61) C dX8_loose_61 (by decide) ?_
      refine r_aload_n (pc := 62) C dX8_loose_62 rfl 0 rfl ?_
      refine gr_X8_10 (pc := 63) 1 C dX8_loose_63 kx_0 rfl ?_
      refine cv_X8_235 (pc := 66) C dX8_loose_66 isBk_1 h (by decide) (Nat.le_of_ble_eq_true rfl) (fun q1 h => ?_)
      refine r_aload_n (pc := 69) C dX8_loose_69 rfl 2 rfl ?_
      refine gi_X8_116 (pc := 70) C dX8_loose_70 kx_2 rfl ?_
      refine r_nz_rem (pc := 73) C dX8_loose_73 h (fun h => ?_)
      refine r_ishl (pc := 74) C dX8_loose_74 ?_
      refine r_ixor (pc := 75) C dX8_loose_75 ?_
      refine pi_X8_137 (pc := 76) C dX8_loose_76 kx_2 rfl h (fun w2 h => ?_)
      exact r_sub C [0, 1, 2, 3] rfl (b_X8_loose_79 C hrec44 h)
def f_X8_loose_44 : Int32 → Int32 → Wd → Option (Int32 × Wd) := lp (fun _ _ _ => none) (fun rec => fb_X8_loose_44 rec) FU
theorem b_X8_loose_44 {G : Gv} {V : Vt} {res : Int32 × Wd}  (C : CX cX8_loose RX8 G SX 4 7 (some FieldType.int) (some (.int res.1)) res.2 V) : ∀ (x1 : Int32) (x3 : Int32) (w : Wd), (f_X8_loose_44) x1 x3 w = some res → V w 44 [(0, .ref (G.2 0)), (1, .int x1), (2, .ref (G.2 2)), (3, .int x3)] [] :=
  lp_ind (P := fun (g : Int32 → Int32 → Wd → Option (Int32 × Wd)) => ∀ (x1 : Int32) (x3 : Int32) (w : Wd), g x1 x3 w = some res → V w 44 [(0, .ref (G.2 0)), (1, .int x1), (2, .ref (G.2 2)), (3, .int x3)] []) (fun _ _ _ h => by cases h) (fun g hg _ _ _ h => bb_X8_loose_44 C hg h) FU
def f_X8_loose (p1 : Int32) (w : Wd) : Option (Int32 × Wd) := bd (f_X8_isWithin p1 (1:Int32) (40:Int32)) (fun q1 => (if ¬ q1 = 0 then (if ((w 2 12) + p1) ≤ (9999:Int32) then f_X8_loose_44 p1 (0:Int32) w else bd (f_X8_error (3:Int32) w) (fun q2 => some (q2.1, q2.2))) else bd (f_X8_error (1:Int32) w) (fun q3 => some (q3.1, q3.2))))
set_option maxRecDepth 20000 in
theorem b_X8_loose_E {G : Gv} {V : Vt} {res : Int32 × Wd}  (C : CX cX8_loose RX8 G SX 4 7 (some FieldType.int) (some (.int res.1)) res.2 V) {p1 : Int32} {w : Wd} (h : f_X8_loose p1 w = some res) : V w 0 [(0, .ref (G.2 0)), (1, .int p1)] [] := by
  unfold f_X8_loose at h
  refine r_iload_n (pc := 0) C dX8_loose_0 rfl 1 rfl ?_
  refine r_iconst (v := (1:Int32)) (pc := 1) C dX8_loose_1 (by decide) ?_
  refine r_bipush (v := (40:Int32)) (pc := 2) C dX8_loose_2 (by decide) ?_
  refine cv_X8_65 (pc := 4) C dX8_loose_4  h (by decide) (Nat.le_of_ble_eq_true rfl) (fun q1 h => ?_)
  refine r_if_ne (pc := 7) C 16 dX8_loose_7 (by decide) h (fun h => ?_) (fun h => ?_)
  · refine r_aload_n (pc := 16) C dX8_loose_16 rfl 0 rfl ?_
    refine gr_X8_10 (pc := 17) 1 C dX8_loose_17 kx_0 rfl ?_
    refine gr_X8_73 (pc := 20) 2 C dX8_loose_20 kx_1 rfl ?_
    refine r_astore_n (L' := [(2, .ref (G.2 2)), (0, .ref (G.2 0)), (1, .int p1)]) (pc := 23) C dX8_loose_23 rfl (by decide) rfl ?_
    refine r_aload_n (pc := 24) C dX8_loose_24 rfl 0 rfl ?_
    refine gi_X8_209 (pc := 25) C dX8_loose_25 kx_2 rfl ?_
    refine r_iload_n (pc := 28) C dX8_loose_28 rfl 2 rfl ?_
    refine r_iadd (pc := 29) C dX8_loose_29 ?_
    refine r_sipush (v := (9999:Int32)) (pc := 30) C dX8_loose_30 (by decide) ?_
    refine r_icmp_le (pc := 33) C 42 dX8_loose_33 (by decide) h (fun h => ?_) (fun h => ?_)
    · refine r_iconst (v := (0:Int32)) (pc := 42) C dX8_loose_42 (by decide) ?_
      refine r_istore_n (L' := [(3, .int (0:Int32)), (2, .ref (G.2 2)), (0, .ref (G.2 0)), (1, .int p1)]) (pc := 43) C dX8_loose_43 rfl (by decide) rfl ?_
      exact r_sub C [2, 3, 1, 0] rfl (b_X8_loose_44 C _ _ _ h)
    · refine r_aload_n (pc := 36) C dX8_loose_36 rfl 1 rfl ?_
      refine r_iconst (v := (3:Int32)) (pc := 37) C dX8_loose_37 (by decide) ?_
      refine cv_X8_69 (pc := 38) C dX8_loose_38  h (by decide) (Nat.le_of_ble_eq_true rfl) (fun q2 h => ?_)
      exact r_iretE (pc := 41) C dX8_loose_41 h
  · refine r_aload_n (pc := 10) C dX8_loose_10 rfl 0 rfl ?_
    refine r_iconst (v := (1:Int32)) (pc := 11) C dX8_loose_11 (by decide) ?_
    refine cv_X8_69 (pc := 12) C dX8_loose_12  h (by decide) (Nat.le_of_ble_eq_true rfl) (fun q3 h => ?_)
    exact r_iretE (pc := 15) C dX8_loose_15 h
theorem c_X8_loose {G : Gv} {p1 : Int32} {w : Wd} {res : Int32 × Wd} (h : f_X8_loose p1 w = some res) (l : Launch) : MC l yX8_loose cX8_loose 4 (some FieldType.int) 7 G SX w [.ref (G.2 0), .int p1] (some (.int res.1)) res.2 := mc_of (by decide +kernel) rfl (Nat.le_of_ble_eq_true rfl) rfl (fun V C => b_X8_loose_E C h) l
def f_X8_first (p1 : Int32) (w : Wd) : Option (Int32 × Wd) := bd (f_X6_hasPart 2 w p1) (fun q1 => (if ¬ q1 = 0 then bd (f_X1_begin 2 (0:Int32) w) (fun q2 => bd (f_X1_goesOn q2) (fun q3 => (if q3.1 = 0 then bd (f_X8_error (2:Int32) q3.2) (fun q4 => some (q4.1, q4.2)) else ald q3.2 59 5 p1 (fun v5 => some (v5, q3.2))))) else bd (f_X8_error (1:Int32) w) (fun q6 => some (q6.1, q6.2))))
set_option maxRecDepth 20000 in
theorem b_X8_first_E {G : Gv} {V : Vt} {res : Int32 × Wd}  (C : CX cX8_first RX8 G SX 2 5 (some FieldType.int) (some (.int res.1)) res.2 V) {p1 : Int32} {w : Wd} (h : f_X8_first p1 w = some res) : V w 0 [(0, .ref (G.2 0)), (1, .int p1)] [] := by
  unfold f_X8_first at h
  refine r_aload_n (pc := 0) C dX8_first_0 rfl 0 rfl ?_
  refine gr_X8_10 (pc := 1) 1 C dX8_first_1 kx_0 rfl ?_
  refine gr_X8_73 (pc := 4) 2 C dX8_first_4 kx_1 rfl ?_
  refine r_iload_n (pc := 7) C dX8_first_7 rfl 1 rfl ?_
  refine cv_X8_84 (pc := 8) C dX8_first_8 isTr_2 h (by decide) (Nat.le_of_ble_eq_true rfl) (fun q1 h => ?_)
  refine r_if_ne (pc := 11) C 20 dX8_first_11 (by decide) h (fun h => ?_) (fun h => ?_)
  · refine r_aload_n (pc := 20) C dX8_first_20 rfl 0 rfl ?_
    refine gr_X8_29 (pc := 21) 58 C dX8_first_21 kx_0 rfl ?_
    refine r_aload_n (pc := 24) C dX8_first_24 rfl 0 rfl ?_
    refine gr_X8_10 (pc := 25) 1 C dX8_first_25 kx_0 rfl ?_
    refine gr_X8_73 (pc := 28) 2 C dX8_first_28 kx_1 rfl ?_
    refine r_iconst (v := (0:Int32)) (pc := 31) C dX8_first_31 (by decide) ?_
    refine cv_X8_241 (pc := 32) C dX8_first_32 isTr_2 h (by decide) (Nat.le_of_ble_eq_true rfl) (fun q2 h => ?_)
    refine r_aload_n (pc := 35) C dX8_first_35 rfl 0 rfl ?_
    refine gr_X8_29 (pc := 36) 58 C dX8_first_36 kx_0 rfl ?_
    refine cv_X8_245 (pc := 39) C dX8_first_39  h (by decide) (Nat.le_of_ble_eq_true rfl) (fun q3 h => ?_)
    refine r_if_eq (pc := 42) C 57 dX8_first_42 (by decide) h (fun h => ?_) (fun h => ?_)
    · refine r_aload_n (pc := 57) C dX8_first_57 rfl 0 rfl ?_
      refine r_iconst (v := (2:Int32)) (pc := 58) C dX8_first_58 (by decide) ?_
      refine cv_X8_69 (pc := 59) C dX8_first_59  h (by decide) (Nat.le_of_ble_eq_true rfl) (fun q4 h => ?_)
      exact r_iretE (pc := 62) C dX8_first_62 h
    · refine r_aload_n (pc := 45) C dX8_first_45 rfl 0 rfl ?_
      refine gr_X8_29 (pc := 46) 58 C dX8_first_46 kx_0 rfl ?_
      refine gr_X8_248 (pc := 49) 59 C dX8_first_49 kx_58 rfl ?_
      refine r_iload_n (pc := 52) C dX8_first_52 rfl 1 rfl ?_
      refine r_ald (pc := 53) C dX8_first_53 h kx_59 (fun v5 h => ?_)
      refine r_goto (pc := 54) C 62 dX8_first_54 (by decide) ?_
      exact r_iretE (pc := 62) C dX8_first_62 h
  · refine r_aload_n (pc := 14) C dX8_first_14 rfl 0 rfl ?_
    refine r_iconst (v := (1:Int32)) (pc := 15) C dX8_first_15 (by decide) ?_
    refine cv_X8_69 (pc := 16) C dX8_first_16  h (by decide) (Nat.le_of_ble_eq_true rfl) (fun q6 h => ?_)
    exact r_iretE (pc := 19) C dX8_first_19 h
theorem c_X8_first {G : Gv} {p1 : Int32} {w : Wd} {res : Int32 × Wd} (h : f_X8_first p1 w = some res) (l : Launch) : MC l yX8_first cX8_first 2 (some FieldType.int) 5 G SX w [.ref (G.2 0), .int p1] (some (.int res.1)) res.2 := mc_of (by decide +kernel) rfl (Nat.le_of_ble_eq_true rfl) rfl (fun V C => b_X8_first_E C h) l
def fb_X8_castings_17 (rec17 : Int32 → Wd → Option (Int32 × Wd)) (x1 : Int32) (w : Wd) : Option (Int32 × Wd) := (if (1000000:Int32) ≤ x1 then some (x1, w) else bd (f_X1_goesOn w) (fun q1 => (if q1.1 = 0 then some (x1, q1.2) else rec17 (x1 + (1:Int32)) q1.2)))
set_option maxRecDepth 20000 in
theorem bb_X8_castings_17 {G : Gv} {V : Vt} {rec17 : Int32 → Wd → Option (Int32 × Wd)} {res : Int32 × Wd}  (C : CX cX8_castings RX8 G SX 2 5 (some FieldType.int) (some (.int res.1)) res.2 V) (hrec17 : ∀ (x1 : Int32) (w : Wd), rec17 x1 w = some res → V w 17 [(0, .ref (G.2 0)), (1, .int x1)] []) {x1 : Int32} {w : Wd} (h : fb_X8_castings_17 rec17 x1 w = some res) : V w 17 [(0, .ref (G.2 0)), (1, .int x1)] [] := by
  unfold fb_X8_castings_17 at h
  refine r_iload_n (pc := 17) C dX8_castings_17 rfl 1 rfl ?_
  refine r_ldc (pc := 18) C dX8_castings_18 qk_X8_251 ?_
  refine r_icmp_ge (pc := 20) C 39 dX8_castings_20 (by decide) h (fun h => ?_) (fun h => ?_)
  · refine r_iload_n (pc := 39) C dX8_castings_39 rfl 1 rfl ?_
    exact r_iretE (pc := 40) C dX8_castings_40 h
  · refine r_aload_n (pc := 23) C dX8_castings_23 rfl 0 rfl ?_
    refine gr_X8_29 (pc := 24) 58 C dX8_castings_24 kx_0 rfl ?_
    refine cv_X8_245 (pc := 27) C dX8_castings_27  h (by decide) (Nat.le_of_ble_eq_true rfl) (fun q1 h => ?_)
    refine r_if_eq (pc := 30) C 39 dX8_castings_30 (by decide) h (fun h => ?_) (fun h => ?_)
    · refine r_iload_n (pc := 39) C dX8_castings_39 rfl 1 rfl ?_
      exact r_iretE (pc := 40) C dX8_castings_40 h
    · refine r_iinc (v := (x1 + (1:Int32))) (L' := [(1, .int (x1 + (1:Int32))), (0, .ref (G.2 0))]) (pc := 33) C dX8_castings_33 1 rfl rfl (by decide) rfl ?_
      refine r_goto (pc := 36) C 17 dX8_castings_36 (by decide) ?_
      exact r_sub C [1, 0] rfl (hrec17 _ _ h)
def f_X8_castings_17 : Int32 → Wd → Option (Int32 × Wd) := lp (fun _ _ => none) (fun rec => fb_X8_castings_17 rec) FU
theorem b_X8_castings_17 {G : Gv} {V : Vt} {res : Int32 × Wd}  (C : CX cX8_castings RX8 G SX 2 5 (some FieldType.int) (some (.int res.1)) res.2 V) : ∀ (x1 : Int32) (w : Wd), (f_X8_castings_17) x1 w = some res → V w 17 [(0, .ref (G.2 0)), (1, .int x1)] [] :=
  lp_ind (P := fun (g : Int32 → Wd → Option (Int32 × Wd)) => ∀ (x1 : Int32) (w : Wd), g x1 w = some res → V w 17 [(0, .ref (G.2 0)), (1, .int x1)] []) (fun _ _ h => by cases h) (fun g hg _ _ h => bb_X8_castings_17 C hg h) FU
def f_X8_castings (w : Wd) : Option (Int32 × Wd) := bd (f_X1_begin 2 (0:Int32) w) (fun q1 => f_X8_castings_17 (0:Int32) q1)
set_option maxRecDepth 20000 in
theorem b_X8_castings_E {G : Gv} {V : Vt} {res : Int32 × Wd}  (C : CX cX8_castings RX8 G SX 2 5 (some FieldType.int) (some (.int res.1)) res.2 V) {w : Wd} (h : f_X8_castings w = some res) : V w 0 [(0, .ref (G.2 0))] [] := by
  unfold f_X8_castings at h
  refine r_aload_n (pc := 0) C dX8_castings_0 rfl 0 rfl ?_
  refine gr_X8_29 (pc := 1) 58 C dX8_castings_1 kx_0 rfl ?_
  refine r_aload_n (pc := 4) C dX8_castings_4 rfl 0 rfl ?_
  refine gr_X8_10 (pc := 5) 1 C dX8_castings_5 kx_0 rfl ?_
  refine gr_X8_73 (pc := 8) 2 C dX8_castings_8 kx_1 rfl ?_
  refine r_iconst (v := (0:Int32)) (pc := 11) C dX8_castings_11 (by decide) ?_
  refine cv_X8_241 (pc := 12) C dX8_castings_12 isTr_2 h (by decide) (Nat.le_of_ble_eq_true rfl) (fun q1 h => ?_)
  refine r_iconst (v := (0:Int32)) (pc := 15) C dX8_castings_15 (by decide) ?_
  refine r_istore_n (L' := [(1, .int (0:Int32)), (0, .ref (G.2 0))]) (pc := 16) C dX8_castings_16 rfl (by decide) rfl ?_
  exact r_sub C [1, 0] rfl (b_X8_castings_17 C _ _ h)
theorem c_X8_castings {G : Gv} {w : Wd} {res : Int32 × Wd} (h : f_X8_castings w = some res) (l : Launch) : MC l yX8_castings cX8_castings 2 (some FieldType.int) 5 G SX w [.ref (G.2 0)] (some (.int res.1)) res.2 := mc_of (by decide +kernel) rfl (Nat.le_of_ble_eq_true rfl) rfl (fun V C => b_X8_castings_E C h) l
theorem cv_X8_324 {cc : ByteArray} {G : Gv} {n hc : Nat} {rt : Option FieldType} {rv : Option Value} {w0 : Wd} {V : Vt} {w : Wd} {pc : Nat} {L : List (Nat × Value)} {rest : List Value} {α : Type} {res : α} {b0 : Nat} {b1 : Nat} {K : Wd → Option α} (C : CX cc RX8 G SX n hc rt rv w0 V) (hd : decode cc pc = .ok (.invokevirtual 324, 3)) (hb0 : isTr b0 = true) (hb1 : isTr b1 = true) (h : bd (f_X6_copyFrom b0 b1 w) K = some res) (hR : 2 + 1 ≤ hc) (hr : (rest.map fun v => v.category).sum ≤ 8) (kk : ∀ q, K q = some res → V q (pc + 3) L (rest)) : V w pc L (.ref (G.2 b1) :: .ref (G.2 b0) :: rest) := r_callV (As := [.ref (G.2 b1)]) (rest := rest) (rvf := fun q => none) (wf := fun q => q) C hd h ql_X8_324 qi_X6_copyFrom qs_X6_copyFrom qn_X6 qc_X6_copyFrom ⟨rfl, by decide +kernel, by decide +kernel, (by decide +kernel : (parseMethodDescriptor yX6_copyFrom.desc).map (fun d => d.parameters.length) = some 1)⟩ ⟨hR, by decide⟩ (cTr_0 hb0) rfl (fun q hq l => c_X6_copyFrom hb0 hb1 hq l) rfl hr kk
def f_X8_think (w : Wd) : Option (Wd) := bd (f_X6_copyFrom 49 2 w) (fun q1 => some q1)
set_option maxRecDepth 20000 in
theorem b_X8_think_E {G : Gv} {V : Vt} {res : Wd}  (C : CX cX8_think RX8 G SX 1 3 (some (FieldType.object "UnderstudyHouse$Troupe")) (some (.ref (G.2 49))) res V) {w : Wd} (h : f_X8_think w = some res) : V w 0 [(0, .ref (G.2 0))] [] := by
  unfold f_X8_think at h
  refine r_aload_n (pc := 0) C dX8_think_0 rfl 0 rfl ?_
  refine gr_X8_22 (pc := 1) 49 C dX8_think_1 kx_0 rfl ?_
  refine r_aload_n (pc := 4) C dX8_think_4 rfl 0 rfl ?_
  refine gr_X8_10 (pc := 5) 1 C dX8_think_5 kx_0 rfl ?_
  refine gr_X8_73 (pc := 8) 2 C dX8_think_8 kx_1 rfl ?_
  refine cv_X8_324 (pc := 11) C dX8_think_11 isTr_49 isTr_2 h (by decide) (Nat.le_of_ble_eq_true rfl) (fun q1 h => ?_)
  refine r_aload_n (pc := 14) C dX8_think_14 rfl 0 rfl ?_
  refine gr_X8_22 (pc := 15) 49 C dX8_think_15 kx_0 rfl ?_
  exact r_aretC (pc := 18) C dX8_think_18 h
theorem c_X8_think {G : Gv} {w : Wd} {res : Wd} (h : f_X8_think w = some res) (l : Launch) : MC l yX8_think cX8_think 1 (some (FieldType.object "UnderstudyHouse$Troupe")) 3 G SX w [.ref (G.2 0)] (some (.ref (G.2 49))) res := mc_of (by decide +kernel) rfl (Nat.le_of_ble_eq_true rfl) rfl (fun V C => b_X8_think_E C h) l
theorem cv_X8_252 {cc : ByteArray} {G : Gv} {n hc : Nat} {rt : Option FieldType} {rv : Option Value} {w0 : Wd} {V : Vt} {w : Wd} {pc : Nat} {L : List (Nat × Value)} {rest : List Value} {α : Type} {res : α} {K : Wd → Option α} (C : CX cc RX8 G SX n hc rt rv w0 V) (hd : decode cc pc = .ok (.invokevirtual 252, 3)) (h : bd (f_X8_think w) K = some res) (hR : 3 + 1 ≤ hc) (hr : (rest.map fun v => v.category).sum ≤ 8) (kk : ∀ q, K q = some res → V q (pc + 3) L (.ref (G.2 49) :: rest)) : V w pc L (.ref (G.2 0) :: rest) := r_callV (As := []) (rest := rest) (rvf := fun q => (some (.ref (G.2 49)))) (wf := fun q => q) C hd h ql_X8_252 qi_X8_think qs_X8_think qn_X8 qc_X8_think ⟨rfl, by decide +kernel, by decide +kernel, (by decide +kernel : (parseMethodDescriptor yX8_think.desc).map (fun d => d.parameters.length) = some 0)⟩ ⟨hR, by decide⟩ kx_0 rfl (fun q hq l => c_X8_think hq l) rfl hr kk
def f_X8_season (w : Wd) : Option (Int32 × Wd) := bd (f_X8_think w) (fun q1 => bd (f_X8_playFirsts 49 (60:Int32) q1) (fun q2 => some (q2.1, q2.2)))
set_option maxRecDepth 20000 in
theorem b_X8_season_E {G : Gv} {V : Vt} {res : Int32 × Wd}  (C : CX cX8_season RX8 G SX 1 7 (some FieldType.int) (some (.int res.1)) res.2 V) {w : Wd} (h : f_X8_season w = some res) : V w 0 [(0, .ref (G.2 0))] [] := by
  unfold f_X8_season at h
  refine r_aload_n (pc := 0) C dX8_season_0 rfl 0 rfl ?_
  refine r_aload_n (pc := 1) C dX8_season_1 rfl 0 rfl ?_
  refine cv_X8_252 (pc := 2) C dX8_season_2  h (by decide) (Nat.le_of_ble_eq_true rfl) (fun q1 h => ?_)
  refine r_bipush (v := (60:Int32)) (pc := 5) C dX8_season_5 (by decide) ?_
  refine cv_X8_231 (pc := 7) C dX8_season_7 isTr_49 h (by decide) (Nat.le_of_ble_eq_true rfl) (fun q2 h => ?_)
  exact r_iretE (pc := 10) C dX8_season_10 h
theorem c_X8_season {G : Gv} {w : Wd} {res : Int32 × Wd} (h : f_X8_season w = some res) (l : Launch) : MC l yX8_season cX8_season 1 (some FieldType.int) 7 G SX w [.ref (G.2 0)] (some (.int res.1)) res.2 := mc_of (by decide +kernel) rfl (Nat.le_of_ble_eq_true rfl) rfl (fun V C => b_X8_season_E C h) l
def f_X8_then_33 (w : Wd) : Option (Int32 × Wd) := bd (f_X8_error (1:Int32) w) (fun q1 => some (q1.1, q1.2))
set_option maxRecDepth 20000 in
theorem b_X8_then_33 {G : Gv} {V : Vt} {res : Int32 × Wd}  (C : CX cX8_then RX8 G SX 5 7 (some FieldType.int) (some (.int res.1)) res.2 V) {w : Wd} (h : f_X8_then_33 w = some res) : V w 33 [(0, .ref (G.2 0))] [] := by
  unfold f_X8_then_33 at h
  refine r_aload_n (pc := 33) C dX8_then_33 rfl 0 rfl ?_
  refine r_iconst (v := (1:Int32)) (pc := 34) C dX8_then_34 (by decide) ?_
  refine cv_X8_69 (pc := 35) C dX8_then_35  h (by decide) (Nat.le_of_ble_eq_true rfl) (fun q1 h => ?_)
  exact r_iretE (pc := 38) C dX8_then_38 h
def f_X8_then (p1 : Int32) (p2 : Int32) (p3 : Int32) (w : Wd) : Option (Int32 × Wd) := bd (f_X8_isWithin p1 (0:Int32) (60:Int32)) (fun q1 => (if q1 = 0 then f_X8_then_33 w else bd (f_X6_hasPlayer 2 w p2) (fun q2 => (if q2 = 0 then f_X8_then_33 w else bd (f_X8_isWithin p3 (0:Int32) (2:Int32)) (fun q3 => (if ¬ q3 = 0 then bd (f_X8_think w) (fun q4 => bd (f_X8_playFirsts 49 p1 q4) (fun q5 => (if p3 = (0:Int32) then ald q5.2 54 6 p2 (fun v6 => some (v6, q5.2)) else (if p3 = (1:Int32) then ald q5.2 55 6 p2 (fun v7 => some (v7, q5.2)) else ald q5.2 57 6 p2 (fun v8 => some (v8, q5.2)))))) else f_X8_then_33 w))))))
set_option maxRecDepth 20000 in
theorem b_X8_then_E {G : Gv} {V : Vt} {res : Int32 × Wd}  (C : CX cX8_then RX8 G SX 5 7 (some FieldType.int) (some (.int res.1)) res.2 V) {p1 : Int32} {p2 : Int32} {p3 : Int32} {w : Wd} (h : f_X8_then p1 p2 p3 w = some res) : V w 0 [(0, .ref (G.2 0)), (1, .int p1), (2, .int p2), (3, .int p3)] [] := by
  unfold f_X8_then at h
  refine r_iload_n (pc := 0) C dX8_then_0 rfl 1 rfl ?_
  refine r_iconst (v := (0:Int32)) (pc := 1) C dX8_then_1 (by decide) ?_
  refine r_bipush (v := (60:Int32)) (pc := 2) C dX8_then_2 (by decide) ?_
  refine cv_X8_65 (pc := 4) C dX8_then_4  h (by decide) (Nat.le_of_ble_eq_true rfl) (fun q1 h => ?_)
  refine r_if_eq (pc := 7) C 33 dX8_then_7 (by decide) h (fun h => ?_) (fun h => ?_)
  · exact r_sub C [0] rfl (b_X8_then_33 C h)
  · refine r_aload_n (pc := 10) C dX8_then_10 rfl 0 rfl ?_
    refine gr_X8_10 (pc := 11) 1 C dX8_then_11 kx_0 rfl ?_
    refine gr_X8_73 (pc := 14) 2 C dX8_then_14 kx_1 rfl ?_
    refine r_iload_n (pc := 17) C dX8_then_17 rfl 2 rfl ?_
    refine cv_X8_122 (pc := 18) C dX8_then_18 isTr_2 h (by decide) (Nat.le_of_ble_eq_true rfl) (fun q2 h => ?_)
    refine r_if_eq (pc := 21) C 33 dX8_then_21 (by decide) h (fun h => ?_) (fun h => ?_)
    · exact r_sub C [0] rfl (b_X8_then_33 C h)
    · refine r_iload_n (pc := 24) C dX8_then_24 rfl 3 rfl ?_
      refine r_iconst (v := (0:Int32)) (pc := 25) C dX8_then_25 (by decide) ?_
      refine r_iconst (v := (2:Int32)) (pc := 26) C dX8_then_26 (by decide) ?_
      refine cv_X8_65 (pc := 27) C dX8_then_27  h (by decide) (Nat.le_of_ble_eq_true rfl) (fun q3 h => ?_)
      refine r_if_ne (pc := 30) C 39 dX8_then_30 (by decide) h (fun h => ?_) (fun h => ?_)
      · refine r_aload_n (pc := 39) C dX8_then_39 rfl 0 rfl ?_
        refine cv_X8_252 (pc := 40) C dX8_then_40  h (by decide) (Nat.le_of_ble_eq_true rfl) (fun q4 h => ?_)
        refine r_astore (L' := [(4, .ref (G.2 49)), (0, .ref (G.2 0)), (1, .int p1), (2, .int p2), (3, .int p3)]) (pc := 43) C dX8_then_43 (by decide) rfl ?_
        refine r_aload_n (pc := 45) C dX8_then_45 rfl 1 rfl ?_
        refine r_aload (pc := 46) C dX8_then_46 0 rfl ?_
        refine r_iload_n (pc := 48) C dX8_then_48 rfl 2 rfl ?_
        refine cv_X8_231 (pc := 49) C dX8_then_49 isTr_49 h (by decide) (Nat.le_of_ble_eq_true rfl) (fun q5 h => ?_)
        refine r_pop (pc := 52) C dX8_then_52 rfl ?_
        refine r_iload_n (pc := 53) C dX8_then_53 rfl 4 rfl ?_
        refine r_lsw (pc := 54) C (0:Int32) 80 dX8_then_54 rfl rfl (by decide) h (fun h => ?_) (fun n0 h => ?_)
        · refine r_aload (pc := 80) C dX8_then_80 0 rfl ?_
          refine gr_X8_125 (pc := 82) 54 C dX8_then_82 kx_49 rfl ?_
          refine r_iload_n (pc := 85) C dX8_then_85 rfl 3 rfl ?_
          refine r_ald (pc := 86) C dX8_then_86 h kx_54 (fun v6 h => ?_)
          exact r_iretE (pc := 87) C dX8_then_87 h
        refine r_lsw (pc := 54) C (1:Int32) 88 dX8_then_54 rfl rfl (by decide) h (fun h => ?_) (fun n1 h => ?_)
        · refine r_aload (pc := 88) C dX8_then_88 0 rfl ?_
          refine gr_X8_128 (pc := 90) 55 C dX8_then_90 kx_49 rfl ?_
          refine r_iload_n (pc := 93) C dX8_then_93 rfl 3 rfl ?_
          refine r_ald (pc := 94) C dX8_then_94 h kx_55 (fun v7 h => ?_)
          exact r_iretE (pc := 95) C dX8_then_95 h
        refine r_lswD (pc := 54) C 96 dX8_then_54 rfl (by have z0 := toInt_ne n0; have z1 := toInt_ne n1; exact lsw_dflt (by intro q hq; simp only [List.mem_cons, List.not_mem_nil, or_false] at hq; rcases hq with rfl | rfl <;> (intro e; simp only [Int32.reduceToInt, ne_eq] at *; omega))) (by decide) ?_
        refine r_aload (pc := 96) C dX8_then_96 0 rfl ?_
        refine gr_X8_134 (pc := 98) 57 C dX8_then_98 kx_49 rfl ?_
        refine r_iload_n (pc := 101) C dX8_then_101 rfl 3 rfl ?_
        refine r_ald (pc := 102) C dX8_then_102 h kx_57 (fun v8 h => ?_)
        exact r_iretE (pc := 103) C dX8_then_103 h
      · exact r_sub C [0] rfl (b_X8_then_33 C h)
theorem c_X8_then {G : Gv} {p1 : Int32} {p2 : Int32} {p3 : Int32} {w : Wd} {res : Int32 × Wd} (h : f_X8_then p1 p2 p3 w = some res) (l : Launch) : MC l yX8_then cX8_then 5 (some FieldType.int) 7 G SX w [.ref (G.2 0), .int p1, .int p2, .int p3] (some (.int res.1)) res.2 := mc_of (by decide +kernel) rfl (Nat.le_of_ble_eq_true rfl) rfl (fun V C => b_X8_then_E C h) l
def f_X8_learns_87 (w : Wd) : Option (Int32 × Wd) := bd (f_X8_error (2:Int32) w) (fun q1 => some (q1.1, q1.2))
set_option maxRecDepth 20000 in
theorem b_X8_learns_87 {G : Gv} {V : Vt} {res : Int32 × Wd}  (C : CX cX8_learns RX8 G SX 5 7 (some FieldType.int) (some (.int res.1)) res.2 V) {w : Wd} (h : f_X8_learns_87 w = some res) : V w 87 [(0, .ref (G.2 0))] [] := by
  unfold f_X8_learns_87 at h
  refine r_aload_n (pc := 87) C dX8_learns_87 rfl 0 rfl ?_
  refine r_iconst (v := (2:Int32)) (pc := 88) C dX8_learns_88 (by decide) ?_
  refine cv_X8_69 (pc := 89) C dX8_learns_89  h (by decide) (Nat.le_of_ble_eq_true rfl) (fun q1 h => ?_)
  exact r_iretE (pc := 92) C dX8_learns_92 h
def f_X8_learns_75 (w : Wd) : Option (Int32 × Wd) := bd (f_X8_error (2:Int32) w) (fun q1 => some (q1.1, q1.2))
set_option maxRecDepth 20000 in
theorem b_X8_learns_75 {G : Gv} {V : Vt} {res : Int32 × Wd}  (C : CX cX8_learns RX8 G SX 5 7 (some FieldType.int) (some (.int res.1)) res.2 V) {w : Wd} (h : f_X8_learns_75 w = some res) : V w 75 [(0, .ref (G.2 0))] [] := by
  unfold f_X8_learns_75 at h
  refine r_aload_n (pc := 75) C dX8_learns_75 rfl 0 rfl ?_
  refine r_iconst (v := (2:Int32)) (pc := 76) C dX8_learns_76 (by decide) ?_
  refine cv_X8_69 (pc := 77) C dX8_learns_77  h (by decide) (Nat.le_of_ble_eq_true rfl) (fun q1 h => ?_)
  exact r_iretE (pc := 80) C dX8_learns_80 h
def fb_X8_learns_42 (rec42 : Int32 → Int32 → Int32 → Wd → Option (Int32 × Wd)) (x1 : Int32) (x2 : Int32) (x4 : Int32) (w : Wd) : Option (Int32 × Wd) := (if (60:Int32) < x4 then f_X8_learns_87 w else ald w 54 6 x1 (fun v1 => (if ¬ ((v1 >>> (x2 &&& 31)) &&& (1:Int32)) = (1:Int32) then bd (f_X8_playFirsts 49 (1:Int32) w) (fun q2 => (if ¬ q2.1 = 0 then rec42 x1 x2 (x4 + (1:Int32)) q2.2 else f_X8_learns_75 q2.2)) else some (x4, w))))
set_option maxRecDepth 20000 in
theorem bb_X8_learns_42 {G : Gv} {V : Vt} {rec42 : Int32 → Int32 → Int32 → Wd → Option (Int32 × Wd)} {res : Int32 × Wd}  (C : CX cX8_learns RX8 G SX 5 7 (some FieldType.int) (some (.int res.1)) res.2 V) (hrec42 : ∀ (x1 : Int32) (x2 : Int32) (x4 : Int32) (w : Wd), rec42 x1 x2 x4 w = some res → V w 42 [(0, .ref (G.2 0)), (1, .int x1), (2, .int x2), (3, .ref (G.2 49)), (4, .int x4)] []) {x1 : Int32} {x2 : Int32} {x4 : Int32} {w : Wd} (h : fb_X8_learns_42 rec42 x1 x2 x4 w = some res) : V w 42 [(0, .ref (G.2 0)), (1, .int x1), (2, .int x2), (3, .ref (G.2 49)), (4, .int x4)] [] := by
  unfold fb_X8_learns_42 at h
  refine r_iload (pc := 42) C dX8_learns_42 4 rfl ?_
  refine r_bipush (v := (60:Int32)) (pc := 44) C dX8_learns_44 (by decide) ?_
  refine r_icmp_gt (pc := 46) C 87 dX8_learns_46 (by decide) h (fun h => ?_) (fun h => ?_)
  · exact r_sub C [0] rfl (b_X8_learns_87 C h)
  · refine r_aload_n (pc := 49) C dX8_learns_49 rfl 3 rfl ?_
    refine gr_X8_125 (pc := 50) 54 C dX8_learns_50 kx_49 rfl ?_
    refine r_iload_n (pc := 53) C dX8_learns_53 rfl 1 rfl ?_
    refine r_ald (pc := 54) C dX8_learns_54 h kx_54 (fun v1 h => ?_)
    refine r_iload_n (pc := 55) C dX8_learns_55 rfl 2 rfl ?_
    refine r_ishr (pc := 56) C dX8_learns_56 ?_
    refine r_iconst (v := (1:Int32)) (pc := 57) C dX8_learns_57 (by decide) ?_
    refine r_iand (pc := 58) C dX8_learns_58 ?_
    refine r_iconst (v := (1:Int32)) (pc := 59) C dX8_learns_59 (by decide) ?_
    refine r_icmp_ne (pc := 60) C 66 dX8_learns_60 (by decide) h (fun h => ?_) (fun h => ?_)
    · refine r_aload_n (pc := 66) C dX8_learns_66 rfl 0 rfl ?_
      refine r_aload_n (pc := 67) C dX8_learns_67 rfl 3 rfl ?_
      refine r_iconst (v := (1:Int32)) (pc := 68) C dX8_learns_68 (by decide) ?_
      refine cv_X8_231 (pc := 69) C dX8_learns_69 isTr_49 h (by decide) (Nat.le_of_ble_eq_true rfl) (fun q2 h => ?_)
      refine r_if_ne (pc := 72) C 81 dX8_learns_72 (by decide) h (fun h => ?_) (fun h => ?_)
      · refine r_iinc (v := (x4 + (1:Int32))) (L' := [(4, .int (x4 + (1:Int32))), (0, .ref (G.2 0)), (1, .int x1), (2, .int x2), (3, .ref (G.2 49))]) (pc := 81) C dX8_learns_81 4 rfl rfl (by decide) rfl ?_
        refine r_goto (pc := 84) C 42 dX8_learns_84 (by decide) ?_
        exact r_sub C [1, 2, 3, 4, 0] rfl (hrec42 _ _ _ _ h)
      · exact r_sub C [0] rfl (b_X8_learns_75 C h)
    · refine r_iload (pc := 63) C dX8_learns_63 4 rfl ?_
      exact r_iretE (pc := 65) C dX8_learns_65 h
def f_X8_learns_42 : Int32 → Int32 → Int32 → Wd → Option (Int32 × Wd) := lp (fun _ _ _ _ => none) (fun rec => fb_X8_learns_42 rec) FU
theorem b_X8_learns_42 {G : Gv} {V : Vt} {res : Int32 × Wd}  (C : CX cX8_learns RX8 G SX 5 7 (some FieldType.int) (some (.int res.1)) res.2 V) : ∀ (x1 : Int32) (x2 : Int32) (x4 : Int32) (w : Wd), (f_X8_learns_42) x1 x2 x4 w = some res → V w 42 [(0, .ref (G.2 0)), (1, .int x1), (2, .int x2), (3, .ref (G.2 49)), (4, .int x4)] [] :=
  lp_ind (P := fun (g : Int32 → Int32 → Int32 → Wd → Option (Int32 × Wd)) => ∀ (x1 : Int32) (x2 : Int32) (x4 : Int32) (w : Wd), g x1 x2 x4 w = some res → V w 42 [(0, .ref (G.2 0)), (1, .int x1), (2, .int x2), (3, .ref (G.2 49)), (4, .int x4)] []) (fun _ _ _ _ h => by cases h) (fun g hg _ _ _ _ h => bb_X8_learns_42 C hg h) FU
def f_X8_learns_28 (w : Wd) : Option (Int32 × Wd) := bd (f_X8_error (1:Int32) w) (fun q1 => some (q1.1, q1.2))
set_option maxRecDepth 20000 in
theorem b_X8_learns_28 {G : Gv} {V : Vt} {res : Int32 × Wd}  (C : CX cX8_learns RX8 G SX 5 7 (some FieldType.int) (some (.int res.1)) res.2 V) {w : Wd} (h : f_X8_learns_28 w = some res) : V w 28 [(0, .ref (G.2 0))] [] := by
  unfold f_X8_learns_28 at h
  refine r_aload_n (pc := 28) C dX8_learns_28 rfl 0 rfl ?_
  refine r_iconst (v := (1:Int32)) (pc := 29) C dX8_learns_29 (by decide) ?_
  refine cv_X8_69 (pc := 30) C dX8_learns_30  h (by decide) (Nat.le_of_ble_eq_true rfl) (fun q1 h => ?_)
  exact r_iretE (pc := 33) C dX8_learns_33 h
def f_X8_learns (p1 : Int32) (p2 : Int32) (w : Wd) : Option (Int32 × Wd) := bd (f_X6_hasPlayer 2 w p1) (fun q1 => (if q1 = 0 then f_X8_learns_28 w else bd (f_X6_hasPart 2 w p2) (fun q2 => (if ¬ q2 = 0 then bd (f_X8_think w) (fun q3 => f_X8_learns_42 p1 p2 (0:Int32) q3) else f_X8_learns_28 w))))
set_option maxRecDepth 20000 in
theorem b_X8_learns_E {G : Gv} {V : Vt} {res : Int32 × Wd}  (C : CX cX8_learns RX8 G SX 5 7 (some FieldType.int) (some (.int res.1)) res.2 V) {p1 : Int32} {p2 : Int32} {w : Wd} (h : f_X8_learns p1 p2 w = some res) : V w 0 [(0, .ref (G.2 0)), (1, .int p1), (2, .int p2)] [] := by
  unfold f_X8_learns at h
  refine r_aload_n (pc := 0) C dX8_learns_0 rfl 0 rfl ?_
  refine gr_X8_10 (pc := 1) 1 C dX8_learns_1 kx_0 rfl ?_
  refine gr_X8_73 (pc := 4) 2 C dX8_learns_4 kx_1 rfl ?_
  refine r_iload_n (pc := 7) C dX8_learns_7 rfl 1 rfl ?_
  refine cv_X8_122 (pc := 8) C dX8_learns_8 isTr_2 h (by decide) (Nat.le_of_ble_eq_true rfl) (fun q1 h => ?_)
  refine r_if_eq (pc := 11) C 28 dX8_learns_11 (by decide) h (fun h => ?_) (fun h => ?_)
  · exact r_sub C [0] rfl (b_X8_learns_28 C h)
  · refine r_aload_n (pc := 14) C dX8_learns_14 rfl 0 rfl ?_
    refine gr_X8_10 (pc := 15) 1 C dX8_learns_15 kx_0 rfl ?_
    refine gr_X8_73 (pc := 18) 2 C dX8_learns_18 kx_1 rfl ?_
    refine r_iload_n (pc := 21) C dX8_learns_21 rfl 2 rfl ?_
    refine cv_X8_84 (pc := 22) C dX8_learns_22 isTr_2 h (by decide) (Nat.le_of_ble_eq_true rfl) (fun q2 h => ?_)
    refine r_if_ne (pc := 25) C 34 dX8_learns_25 (by decide) h (fun h => ?_) (fun h => ?_)
    · refine r_aload_n (pc := 34) C dX8_learns_34 rfl 0 rfl ?_
      refine cv_X8_252 (pc := 35) C dX8_learns_35  h (by decide) (Nat.le_of_ble_eq_true rfl) (fun q3 h => ?_)
      refine r_astore_n (L' := [(3, .ref (G.2 49)), (0, .ref (G.2 0)), (1, .int p1), (2, .int p2)]) (pc := 38) C dX8_learns_38 rfl (by decide) rfl ?_
      refine r_iconst (v := (0:Int32)) (pc := 39) C dX8_learns_39 (by decide) ?_
      refine r_istore (L' := [(4, .int (0:Int32)), (3, .ref (G.2 49)), (0, .ref (G.2 0)), (1, .int p1), (2, .int p2)]) (pc := 40) C dX8_learns_40 (by decide) rfl ?_
      exact r_sub C [2, 3, 4, 1, 0] rfl (b_X8_learns_42 C _ _ _ _ h)
    · exact r_sub C [0] rfl (b_X8_learns_28 C h)
theorem c_X8_learns {G : Gv} {p1 : Int32} {p2 : Int32} {w : Wd} {res : Int32 × Wd} (h : f_X8_learns p1 p2 w = some res) (l : Launch) : MC l yX8_learns cX8_learns 5 (some FieldType.int) 7 G SX w [.ref (G.2 0), .int p1, .int p2] (some (.int res.1)) res.2 := mc_of (by decide +kernel) rfl (Nat.le_of_ble_eq_true rfl) rfl (fun V C => b_X8_learns_E C h) l
def f_X8_blocked_52 (w : Wd) (rec4 : Int32 → Int32 → Option (Int32)) (x1 : Int32) (x2 : Int32) : Option (Int32) := rec4 x1 (x2 + (1:Int32))
set_option maxRecDepth 20000 in
theorem b_X8_blocked_52 {G : Gv} {V : Vt} {w : Wd} {rec4 : Int32 → Int32 → Option (Int32)} {res : Int32}  (C : CX cX8_blocked RX8 G SX 3 4 (some FieldType.int) (some (.int res)) w V) (hrec4 : ∀ (x1 : Int32) (x2 : Int32), rec4 x1 x2 = some res → V w 4 [(0, .ref (G.2 0)), (1, .int x1), (2, .int x2)] []) {x1 : Int32} {x2 : Int32} (h : f_X8_blocked_52 w rec4 x1 x2 = some res) : V w 52 [(0, .ref (G.2 0)), (1, .int x1), (2, .int x2)] [] := by
  unfold f_X8_blocked_52 at h
  refine r_iinc (v := (x2 + (1:Int32))) (L' := [(2, .int (x2 + (1:Int32))), (0, .ref (G.2 0)), (1, .int x1)]) (pc := 52) C dX8_blocked_52 2 rfl rfl (by decide) rfl ?_
  refine r_goto (pc := 55) C 4 dX8_blocked_55 (by decide) ?_
  exact r_sub C [1, 2, 0] rfl (hrec4 _ _ h)
def fb_X8_blocked_4 (w : Wd) (rec4 : Int32 → Int32 → Option (Int32)) (x1 : Int32) (x2 : Int32) : Option (Int32) := (if (w 2 0) ≤ x2 then some x1 else bd (f_X6_isEmpty 2 w x2) (fun q1 => (if ¬ q1 = 0 then f_X8_blocked_52 w rec4 x1 x2 else bd (f_X6_whoMay 2 w x2) (fun q2 => (if ¬ q2 = 0 then f_X8_blocked_52 w rec4 x1 x2 else lv (x1 ||| ((1:Int32) <<< (x2 &&& 31))) (fun v3 => f_X8_blocked_52 w rec4 v3 x2))))))
set_option maxRecDepth 20000 in
theorem bb_X8_blocked_4 {G : Gv} {V : Vt} {w : Wd} {rec4 : Int32 → Int32 → Option (Int32)} {res : Int32}  (C : CX cX8_blocked RX8 G SX 3 4 (some FieldType.int) (some (.int res)) w V) (hrec4 : ∀ (x1 : Int32) (x2 : Int32), rec4 x1 x2 = some res → V w 4 [(0, .ref (G.2 0)), (1, .int x1), (2, .int x2)] []) {x1 : Int32} {x2 : Int32} (h : fb_X8_blocked_4 w rec4 x1 x2 = some res) : V w 4 [(0, .ref (G.2 0)), (1, .int x1), (2, .int x2)] [] := by
  unfold fb_X8_blocked_4 at h
  refine r_iload_n (pc := 4) C dX8_blocked_4 rfl 2 rfl ?_
  refine r_aload_n (pc := 5) C dX8_blocked_5 rfl 0 rfl ?_
  refine gr_X8_10 (pc := 6) 1 C dX8_blocked_6 kx_0 rfl ?_
  refine gr_X8_73 (pc := 9) 2 C dX8_blocked_9 kx_1 rfl ?_
  refine gi_X8_76 (pc := 12) C dX8_blocked_12 kx_2 rfl ?_
  refine r_icmp_ge (pc := 15) C 58 dX8_blocked_15 (by decide) h (fun h => ?_) (fun h => ?_)
  · refine r_iload_n (pc := 58) C dX8_blocked_58 rfl 1 rfl ?_
    exact r_iretP (pc := 59) C dX8_blocked_59 h
  · refine r_aload_n (pc := 18) C dX8_blocked_18 rfl 0 rfl ?_
    refine gr_X8_10 (pc := 19) 1 C dX8_blocked_19 kx_0 rfl ?_
    refine gr_X8_73 (pc := 22) 2 C dX8_blocked_22 kx_1 rfl ?_
    refine r_iload_n (pc := 25) C dX8_blocked_25 rfl 2 rfl ?_
    refine cv_X8_99 (pc := 26) C dX8_blocked_26 isTr_2 h (by decide) (Nat.le_of_ble_eq_true rfl) (fun q1 h => ?_)
    refine r_if_ne (pc := 29) C 52 dX8_blocked_29 (by decide) h (fun h => ?_) (fun h => ?_)
    · exact r_sub C [0, 1, 2] rfl (b_X8_blocked_52 C hrec4 h)
    · refine r_aload_n (pc := 32) C dX8_blocked_32 rfl 0 rfl ?_
      refine gr_X8_10 (pc := 33) 1 C dX8_blocked_33 kx_0 rfl ?_
      refine gr_X8_73 (pc := 36) 2 C dX8_blocked_36 kx_1 rfl ?_
      refine r_iload_n (pc := 39) C dX8_blocked_39 rfl 2 rfl ?_
      refine cv_X8_102 (pc := 40) C dX8_blocked_40 isTr_2 h (by decide) (Nat.le_of_ble_eq_true rfl) (fun q2 h => ?_)
      refine r_if_ne (pc := 43) C 52 dX8_blocked_43 (by decide) h (fun h => ?_) (fun h => ?_)
      · exact r_sub C [0, 1, 2] rfl (b_X8_blocked_52 C hrec4 h)
      · refine r_iload_n (pc := 46) C dX8_blocked_46 rfl 1 rfl ?_
        refine r_iconst (v := (1:Int32)) (pc := 47) C dX8_blocked_47 (by decide) ?_
        refine r_iload_n (pc := 48) C dX8_blocked_48 rfl 2 rfl ?_
        refine r_ishl (pc := 49) C dX8_blocked_49 ?_
        refine r_ior (pc := 50) C dX8_blocked_50 ?_
        refine r_lv h (fun v3 h => ?_)
        refine r_istore_n (L' := [(1, .int v3), (0, .ref (G.2 0)), (2, .int x2)]) (pc := 51) C dX8_blocked_51 rfl (by decide) rfl ?_
        exact r_sub C [1, 0, 2] rfl (b_X8_blocked_52 C hrec4 h)
def f_X8_blocked_4 (w : Wd) : Int32 → Int32 → Option (Int32) := lp (fun _ _ => none) (fun rec => fb_X8_blocked_4 w rec) FU
theorem b_X8_blocked_4 {G : Gv} {V : Vt} {w : Wd} {res : Int32}  (C : CX cX8_blocked RX8 G SX 3 4 (some FieldType.int) (some (.int res)) w V) : ∀ (x1 : Int32) (x2 : Int32), (f_X8_blocked_4 w) x1 x2 = some res → V w 4 [(0, .ref (G.2 0)), (1, .int x1), (2, .int x2)] [] :=
  lp_ind (P := fun (g : Int32 → Int32 → Option (Int32)) => ∀ (x1 : Int32) (x2 : Int32), g x1 x2 = some res → V w 4 [(0, .ref (G.2 0)), (1, .int x1), (2, .int x2)] []) (fun _ _ h => by cases h) (fun g hg _ _ h => bb_X8_blocked_4 C hg h) FU
def f_X8_blocked (w : Wd) : Option (Int32) := f_X8_blocked_4 w (0:Int32) (0:Int32)
set_option maxRecDepth 20000 in
theorem b_X8_blocked_E {G : Gv} {V : Vt} {w : Wd} {res : Int32}  (C : CX cX8_blocked RX8 G SX 3 4 (some FieldType.int) (some (.int res)) w V) (h : f_X8_blocked w = some res) : V w 0 [(0, .ref (G.2 0))] [] := by
  unfold f_X8_blocked at h
  refine r_iconst (v := (0:Int32)) (pc := 0) C dX8_blocked_0 (by decide) ?_
  refine r_istore_n (L' := [(1, .int (0:Int32)), (0, .ref (G.2 0))]) (pc := 1) C dX8_blocked_1 rfl (by decide) rfl ?_
  refine r_iconst (v := (0:Int32)) (pc := 2) C dX8_blocked_2 (by decide) ?_
  refine r_istore_n (L' := [(2, .int (0:Int32)), (1, .int (0:Int32)), (0, .ref (G.2 0))]) (pc := 3) C dX8_blocked_3 rfl (by decide) rfl ?_
  exact r_sub C [2, 1, 0] rfl (b_X8_blocked_4 C _ _ h)
theorem c_X8_blocked {G : Gv} {w : Wd} {res : Int32} (h : f_X8_blocked w = some res) (l : Launch) : MC l yX8_blocked cX8_blocked 3 (some FieldType.int) 4 G SX w [.ref (G.2 0)] (some (.int res)) w := mc_of (by decide +kernel) rfl (Nat.le_of_ble_eq_true rfl) rfl (fun V C => b_X8_blocked_E C h) l
theorem cv_X8_256 {cc : ByteArray} {G : Gv} {n hc : Nat} {rt : Option FieldType} {rv : Option Value} {w0 : Wd} {V : Vt} {w : Wd} {pc : Nat} {L : List (Nat × Value)} {rest : List Value} {α : Type} {res : α} {b0 : Nat} {K : Int32 → Option α} (C : CX cc RX8 G SX n hc rt rv w0 V) (hd : decode cc pc = .ok (.invokevirtual 256, 3)) (hb0 : isTr b0 = true) (h : bd (f_X6_allPlayers b0 w) K = some res) (hR : 1 + 1 ≤ hc) (hr : (rest.map fun v => v.category).sum ≤ 8) (kk : ∀ q, K q = some res → V w (pc + 3) L (.int q :: rest)) : V w pc L (.ref (G.2 b0) :: rest) := r_callV (As := []) (rest := rest) (rvf := fun q => (some (.int q))) (wf := fun q => w) C hd h ql_X8_256 qi_X6_allPlayers qs_X6_allPlayers qn_X6 qc_X6_allPlayers ⟨rfl, by decide +kernel, by decide +kernel, (by decide +kernel : (parseMethodDescriptor yX6_allPlayers.desc).map (fun d => d.parameters.length) = some 0)⟩ ⟨hR, by decide⟩ (cTr_0 hb0) rfl (fun q hq l => c_X6_allPlayers hb0 hq l) rfl hr kk
theorem cv_X8_259 {cc : ByteArray} {G : Gv} {n hc : Nat} {rt : Option FieldType} {rv : Option Value} {w0 : Wd} {V : Vt} {w : Wd} {pc : Nat} {L : List (Nat × Value)} {rest : List Value} {α : Type} {res : α} {K : Int32 → Option α} (C : CX cc RX8 G SX n hc rt rv w0 V) (hd : decode cc pc = .ok (.invokevirtual 259, 3)) (h : bd (f_X1_whoPlay w) K = some res) (hR : 1 + 1 ≤ hc) (hr : (rest.map fun v => v.category).sum ≤ 8) (kk : ∀ q, K q = some res → V w (pc + 3) L (.int q :: rest)) : V w pc L (.ref (G.2 58) :: rest) := r_callV (As := []) (rest := rest) (rvf := fun q => (some (.int q))) (wf := fun q => w) C hd h ql_X8_259 qi_X1_whoPlay qs_X1_whoPlay qn_X1 qc_X1_whoPlay ⟨rfl, by decide +kernel, by decide +kernel, (by decide +kernel : (parseMethodDescriptor yX1_whoPlay.desc).map (fun d => d.parameters.length) = some 0)⟩ ⟨hR, by decide⟩ kx_58 rfl (fun q hq l => c_X1_whoPlay hq l) rfl hr kk
def fb_X8_idle_28 (rec28 : Int32 → Int32 → Wd → Option (Int32 × Wd)) (x1 : Int32) (x2 : Int32) (w : Wd) : Option (Int32 × Wd) := (if (1000000:Int32) ≤ x2 then some (x1, w) else (if x1 = 0 then some (x1, w) else bd (f_X1_goesOn w) (fun q1 => (if q1.1 = 0 then some (x1, q1.2) else bd (f_X1_whoPlay q1.2) (fun q2 => lv (x1 &&& (q2 ^^^ (-1:Int32))) (fun v3 => rec28 v3 (x2 + (1:Int32)) q1.2))))))
set_option maxRecDepth 20000 in
theorem bb_X8_idle_28 {G : Gv} {V : Vt} {rec28 : Int32 → Int32 → Wd → Option (Int32 × Wd)} {res : Int32 × Wd}  (C : CX cX8_idle RX8 G SX 3 5 (some FieldType.int) (some (.int res.1)) res.2 V) (hrec28 : ∀ (x1 : Int32) (x2 : Int32) (w : Wd), rec28 x1 x2 w = some res → V w 28 [(0, .ref (G.2 0)), (1, .int x1), (2, .int x2)] []) {x1 : Int32} {x2 : Int32} {w : Wd} (h : fb_X8_idle_28 rec28 x1 x2 w = some res) : V w 28 [(0, .ref (G.2 0)), (1, .int x1), (2, .int x2)] [] := by
  unfold fb_X8_idle_28 at h
  refine r_iload_n (pc := 28) C dX8_idle_28 rfl 2 rfl ?_
  refine r_ldc (pc := 29) C dX8_idle_29 qk_X8_251 ?_
  refine r_icmp_ge (pc := 31) C 66 dX8_idle_31 (by decide) h (fun h => ?_) (fun h => ?_)
  · refine r_iload_n (pc := 66) C dX8_idle_66 rfl 1 rfl ?_
    exact r_iretE (pc := 67) C dX8_idle_67 h
  · refine r_iload_n (pc := 34) C dX8_idle_34 rfl 1 rfl ?_
    refine r_if_eq (pc := 35) C 66 dX8_idle_35 (by decide) h (fun h => ?_) (fun h => ?_)
    · refine r_iload_n (pc := 66) C dX8_idle_66 rfl 1 rfl ?_
      exact r_iretE (pc := 67) C dX8_idle_67 h
    · refine r_aload_n (pc := 38) C dX8_idle_38 rfl 0 rfl ?_
      refine gr_X8_29 (pc := 39) 58 C dX8_idle_39 kx_0 rfl ?_
      refine cv_X8_245 (pc := 42) C dX8_idle_42  h (by decide) (Nat.le_of_ble_eq_true rfl) (fun q1 h => ?_)
      refine r_if_eq (pc := 45) C 66 dX8_idle_45 (by decide) h (fun h => ?_) (fun h => ?_)
      · refine r_iload_n (pc := 66) C dX8_idle_66 rfl 1 rfl ?_
        exact r_iretE (pc := 67) C dX8_idle_67 h
      · refine r_iload_n (pc := 48) C dX8_idle_48 rfl 1 rfl ?_
        refine r_aload_n (pc := 49) C dX8_idle_49 rfl 0 rfl ?_
        refine gr_X8_29 (pc := 50) 58 C dX8_idle_50 kx_0 rfl ?_
        refine cv_X8_259 (pc := 53) C dX8_idle_53  h (by decide) (Nat.le_of_ble_eq_true rfl) (fun q2 h => ?_)
        refine r_iconst (v := (-1:Int32)) (pc := 56) C dX8_idle_56 (by decide) ?_
        refine r_ixor (pc := 57) C dX8_idle_57 ?_
        refine r_iand (pc := 58) C dX8_idle_58 ?_
        refine r_lv h (fun v3 h => ?_)
        refine r_istore_n (L' := [(1, .int v3), (0, .ref (G.2 0)), (2, .int x2)]) (pc := 59) C dX8_idle_59 rfl (by decide) rfl ?_
        refine r_iinc (v := (x2 + (1:Int32))) (L' := [(2, .int (x2 + (1:Int32))), (1, .int v3), (0, .ref (G.2 0))]) (pc := 60) C dX8_idle_60 2 rfl rfl (by decide) rfl ?_
        refine r_goto (pc := 63) C 28 dX8_idle_63 (by decide) ?_
        exact r_sub C [2, 1, 0] rfl (hrec28 _ _ _ h)
def f_X8_idle_28 : Int32 → Int32 → Wd → Option (Int32 × Wd) := lp (fun _ _ _ => none) (fun rec => fb_X8_idle_28 rec) FU
theorem b_X8_idle_28 {G : Gv} {V : Vt} {res : Int32 × Wd}  (C : CX cX8_idle RX8 G SX 3 5 (some FieldType.int) (some (.int res.1)) res.2 V) : ∀ (x1 : Int32) (x2 : Int32) (w : Wd), (f_X8_idle_28) x1 x2 w = some res → V w 28 [(0, .ref (G.2 0)), (1, .int x1), (2, .int x2)] [] :=
  lp_ind (P := fun (g : Int32 → Int32 → Wd → Option (Int32 × Wd)) => ∀ (x1 : Int32) (x2 : Int32) (w : Wd), g x1 x2 w = some res → V w 28 [(0, .ref (G.2 0)), (1, .int x1), (2, .int x2)] []) (fun _ _ _ h => by cases h) (fun g hg _ _ _ h => bb_X8_idle_28 C hg h) FU
def f_X8_idle (w : Wd) : Option (Int32 × Wd) := bd (f_X6_allPlayers 2 w) (fun q1 => bd (f_X1_begin 2 (0:Int32) w) (fun q2 => f_X8_idle_28 q1 (0:Int32) q2))
set_option maxRecDepth 20000 in
theorem b_X8_idle_E {G : Gv} {V : Vt} {res : Int32 × Wd}  (C : CX cX8_idle RX8 G SX 3 5 (some FieldType.int) (some (.int res.1)) res.2 V) {w : Wd} (h : f_X8_idle w = some res) : V w 0 [(0, .ref (G.2 0))] [] := by
  unfold f_X8_idle at h
  refine r_aload_n (pc := 0) C dX8_idle_0 rfl 0 rfl ?_
  refine gr_X8_10 (pc := 1) 1 C dX8_idle_1 kx_0 rfl ?_
  refine gr_X8_73 (pc := 4) 2 C dX8_idle_4 kx_1 rfl ?_
  refine cv_X8_256 (pc := 7) C dX8_idle_7 isTr_2 h (by decide) (Nat.le_of_ble_eq_true rfl) (fun q1 h => ?_)
  refine r_istore_n (L' := [(1, .int q1), (0, .ref (G.2 0))]) (pc := 10) C dX8_idle_10 rfl (by decide) rfl ?_
  refine r_aload_n (pc := 11) C dX8_idle_11 rfl 1 rfl ?_
  refine gr_X8_29 (pc := 12) 58 C dX8_idle_12 kx_0 rfl ?_
  refine r_aload_n (pc := 15) C dX8_idle_15 rfl 1 rfl ?_
  refine gr_X8_10 (pc := 16) 1 C dX8_idle_16 kx_0 rfl ?_
  refine gr_X8_73 (pc := 19) 2 C dX8_idle_19 kx_1 rfl ?_
  refine r_iconst (v := (0:Int32)) (pc := 22) C dX8_idle_22 (by decide) ?_
  refine cv_X8_241 (pc := 23) C dX8_idle_23 isTr_2 h (by decide) (Nat.le_of_ble_eq_true rfl) (fun q2 h => ?_)
  refine r_iconst (v := (0:Int32)) (pc := 26) C dX8_idle_26 (by decide) ?_
  refine r_istore_n (L' := [(2, .int (0:Int32)), (1, .int q1), (0, .ref (G.2 0))]) (pc := 27) C dX8_idle_27 rfl (by decide) rfl ?_
  exact r_sub C [2, 1, 0] rfl (b_X8_idle_28 C _ _ _ h)
theorem c_X8_idle {G : Gv} {w : Wd} {res : Int32 × Wd} (h : f_X8_idle w = some res) (l : Launch) : MC l yX8_idle cX8_idle 3 (some FieldType.int) 5 G SX w [.ref (G.2 0)] (some (.int res.1)) res.2 := mc_of (by decide +kernel) rfl (Nat.le_of_ble_eq_true rfl) rfl (fun V C => b_X8_idle_E C h) l
theorem cv_X8_265 {cc : ByteArray} {G : Gv} {n hc : Nat} {rt : Option FieldType} {rv : Option Value} {w0 : Wd} {V : Vt} {w : Wd} {pc : Nat} {L : List (Nat × Value)} {rest : List Value} {α : Type} {res : α} {b1 : Nat} {K : Int32 → Option α} (C : CX cc RX8 G SX n hc rt rv w0 V) (hd : decode cc pc = .ok (.invokevirtual 265, 3)) (hb1 : isAr b1 = true) (h : bd (f_X1_unlike b1 w) K = some res) (hR : 1 + 1 ≤ hc) (hr : (rest.map fun v => v.category).sum ≤ 8) (kk : ∀ q, K q = some res → V w (pc + 3) L (.int q :: rest)) : V w pc L (.ref (G.2 b1) :: .ref (G.2 58) :: rest) := r_callV (As := [.ref (G.2 b1)]) (rest := rest) (rvf := fun q => (some (.int q))) (wf := fun q => w) C hd h ql_X8_265 qi_X1_unlike qs_X1_unlike qn_X1 qc_X1_unlike ⟨rfl, by decide +kernel, by decide +kernel, (by decide +kernel : (parseMethodDescriptor yX1_unlike.desc).map (fun d => d.parameters.length) = some 1)⟩ ⟨hR, by decide⟩ kx_58 rfl (fun q hq l => c_X1_unlike hb1 hq l) rfl hr kk
def f_X8_changes_130 (x4 : Int32) (w : Wd) : Option (Int32 × Wd) := (if (5:Int32) < x4 then bd (f_X8_error (2:Int32) w) (fun q1 => some (q1.1, q1.2)) else some (x4, w))
set_option maxRecDepth 20000 in
theorem b_X8_changes_130 {G : Gv} {V : Vt} {res : Int32 × Wd}  (C : CX cX8_changes RX8 G SX 6 5 (some FieldType.int) (some (.int res.1)) res.2 V) {x4 : Int32} {w : Wd} (h : f_X8_changes_130 x4 w = some res) : V w 130 [(0, .ref (G.2 0)), (4, .int x4)] [] := by
  unfold f_X8_changes_130 at h
  refine r_iload (pc := 130) C dX8_changes_130 1 rfl ?_
  refine r_iconst (v := (5:Int32)) (pc := 132) C dX8_changes_132 (by decide) ?_
  refine r_icmp_gt (pc := 133) C 141 dX8_changes_133 (by decide) h (fun h => ?_) (fun h => ?_)
  · refine r_aload_n (pc := 141) C dX8_changes_141 rfl 0 rfl ?_
    refine r_iconst (v := (2:Int32)) (pc := 142) C dX8_changes_142 (by decide) ?_
    refine cv_X8_69 (pc := 143) C dX8_changes_143  h (by decide) (Nat.le_of_ble_eq_true rfl) (fun q1 h => ?_)
    exact r_iretE (pc := 146) C dX8_changes_146 h
  · refine r_iload (pc := 136) C dX8_changes_136 1 rfl ?_
    refine r_goto (pc := 138) C 146 dX8_changes_138 (by decide) ?_
    exact r_iretE (pc := 146) C dX8_changes_146 h
def fb_X8_changes_84 (s2 : Nat) (rec84 : Int32 → Int32 → Wd → Option (Int32 × Wd)) (x4 : Int32) (x5 : Int32) (w : Wd) : Option (Int32 × Wd) := (if (1000000:Int32) ≤ x5 then f_X8_changes_130 x4 w else (if x4 ≤ 0 then f_X8_changes_130 x4 w else bd (f_X1_goesOn w) (fun q1 => (if q1.1 = 0 then f_X8_changes_130 x4 q1.2 else bd (f_X1_unlike (s2 + 1) q1.2) (fun q2 => lv (mmin x4 q2) (fun v3 => rec84 v3 (x5 + (1:Int32)) q1.2))))))
set_option maxRecDepth 20000 in
theorem bb_X8_changes_84 {G : Gv} {V : Vt} {s2 : Nat} {rec84 : Int32 → Int32 → Wd → Option (Int32 × Wd)} {res : Int32 × Wd} (hs2 : isSh s2 = true)  (C : CX cX8_changes RX8 G SX 6 5 (some FieldType.int) (some (.int res.1)) res.2 V) (hrec84 : ∀ (x4 : Int32) (x5 : Int32) (w : Wd), rec84 x4 x5 w = some res → V w 84 [(0, .ref (G.2 0)), (3, .ref (G.2 s2)), (4, .int x4), (5, .int x5)] []) {x4 : Int32} {x5 : Int32} {w : Wd} (h : fb_X8_changes_84 s2 rec84 x4 x5 w = some res) : V w 84 [(0, .ref (G.2 0)), (3, .ref (G.2 s2)), (4, .int x4), (5, .int x5)] [] := by
  unfold fb_X8_changes_84 at h
  refine r_iload (pc := 84) C dX8_changes_84 3 rfl ?_
  refine r_ldc (pc := 86) C dX8_changes_86 qk_X8_251 ?_
  refine r_icmp_ge (pc := 88) C 130 dX8_changes_88 (by decide) h (fun h => ?_) (fun h => ?_)
  · exact r_sub C [0, 2] rfl (b_X8_changes_130 C h)
  · refine r_iload (pc := 91) C dX8_changes_91 2 rfl ?_
    refine r_if_le (pc := 93) C 130 dX8_changes_93 (by decide) h (fun h => ?_) (fun h => ?_)
    · exact r_sub C [0, 2] rfl (b_X8_changes_130 C h)
    · refine r_aload_n (pc := 96) C dX8_changes_96 rfl 0 rfl ?_
      refine gr_X8_29 (pc := 97) 58 C dX8_changes_97 kx_0 rfl ?_
      refine cv_X8_245 (pc := 100) C dX8_changes_100  h (by decide) (Nat.le_of_ble_eq_true rfl) (fun q1 h => ?_)
      refine r_if_eq (pc := 103) C 130 dX8_changes_103 (by decide) h (fun h => ?_) (fun h => ?_)
      · exact r_sub C [0, 2] rfl (b_X8_changes_130 C h)
      · refine r_iload (pc := 106) C dX8_changes_106 2 rfl ?_
        refine r_aload_n (pc := 108) C dX8_changes_108 rfl 0 rfl ?_
        refine gr_X8_29 (pc := 109) 58 C dX8_changes_109 kx_0 rfl ?_
        refine r_aload_n (pc := 112) C dX8_changes_112 rfl 1 rfl ?_
        refine gr_X8_212 (pc := 113) (s2 + 1) C dX8_changes_113 (cSh_0 hs2) rfl ?_
        refine cv_X8_265 (pc := 116) C dX8_changes_116 (sSh_1 hs2) h (by decide) (Nat.le_of_ble_eq_true rfl) (fun q2 h => ?_)
        refine r_mmin (pc := 119) C dX8_changes_119 ql_X8_226 qt_Math_min qn_J9 qc_Math_min (Nat.le_of_ble_eq_true rfl) ?_
        refine r_lv h (fun v3 h => ?_)
        refine r_istore (L' := [(4, .int v3), (0, .ref (G.2 0)), (3, .ref (G.2 s2)), (5, .int x5)]) (pc := 122) C dX8_changes_122 (by decide) rfl ?_
        refine r_iinc (v := (x5 + (1:Int32))) (L' := [(5, .int (x5 + (1:Int32))), (4, .int v3), (0, .ref (G.2 0)), (3, .ref (G.2 s2))]) (pc := 124) C dX8_changes_124 3 rfl rfl (by decide) rfl ?_
        refine r_goto (pc := 127) C 84 dX8_changes_127 (by decide) ?_
        exact r_sub C [2, 3, 1, 0] rfl (hrec84 _ _ _ h)
def f_X8_changes_84 (s2 : Nat) : Int32 → Int32 → Wd → Option (Int32 × Wd) := lp (fun _ _ _ => none) (fun rec => fb_X8_changes_84 s2 rec) FU
theorem b_X8_changes_84 {G : Gv} {V : Vt} {s2 : Nat} {res : Int32 × Wd} (hs2 : isSh s2 = true)  (C : CX cX8_changes RX8 G SX 6 5 (some FieldType.int) (some (.int res.1)) res.2 V) : ∀ (x4 : Int32) (x5 : Int32) (w : Wd), (f_X8_changes_84 s2) x4 x5 w = some res → V w 84 [(0, .ref (G.2 0)), (3, .ref (G.2 s2)), (4, .int x4), (5, .int x5)] [] :=
  lp_ind (P := fun (g : Int32 → Int32 → Wd → Option (Int32 × Wd)) => ∀ (x4 : Int32) (x5 : Int32) (w : Wd), g x4 x5 w = some res → V w 84 [(0, .ref (G.2 0)), (3, .ref (G.2 s2)), (4, .int x4), (5, .int x5)] []) (fun _ _ _ h => by cases h) (fun g hg _ _ _ h => bb_X8_changes_84 hs2 C hg h) FU
def f_X8_changes_54 (w : Wd) : Option (Int32 × Wd) := bd (f_X8_error (2:Int32) w) (fun q1 => some (q1.1, q1.2))
set_option maxRecDepth 20000 in
theorem b_X8_changes_54 {G : Gv} {V : Vt} {res : Int32 × Wd}  (C : CX cX8_changes RX8 G SX 6 5 (some FieldType.int) (some (.int res.1)) res.2 V) {w : Wd} (h : f_X8_changes_54 w = some res) : V w 54 [(0, .ref (G.2 0))] [] := by
  unfold f_X8_changes_54 at h
  refine r_aload_n (pc := 54) C dX8_changes_54 rfl 0 rfl ?_
  refine r_iconst (v := (2:Int32)) (pc := 55) C dX8_changes_55 (by decide) ?_
  refine cv_X8_69 (pc := 56) C dX8_changes_56  h (by decide) (Nat.le_of_ble_eq_true rfl) (fun q1 h => ?_)
  exact r_iretE (pc := 59) C dX8_changes_59 h
def f_X8_changes_24 (w : Wd) : Option (Int32 × Wd) := bd (f_X8_error (1:Int32) w) (fun q1 => some (q1.1, q1.2))
set_option maxRecDepth 20000 in
theorem b_X8_changes_24 {G : Gv} {V : Vt} {res : Int32 × Wd}  (C : CX cX8_changes RX8 G SX 6 5 (some FieldType.int) (some (.int res.1)) res.2 V) {w : Wd} (h : f_X8_changes_24 w = some res) : V w 24 [(0, .ref (G.2 0))] [] := by
  unfold f_X8_changes_24 at h
  refine r_aload_n (pc := 24) C dX8_changes_24 rfl 0 rfl ?_
  refine r_iconst (v := (1:Int32)) (pc := 25) C dX8_changes_25 (by decide) ?_
  refine cv_X8_69 (pc := 26) C dX8_changes_26  h (by decide) (Nat.le_of_ble_eq_true rfl) (fun q1 h => ?_)
  exact r_iretE (pc := 29) C dX8_changes_29 h
def f_X8_changes (p1 : Int32) (p2 : Int32) (w : Wd) : Option (Int32 × Wd) := bd (f_X8_sheetAt w p1) (fun q1 => oc q1 isSh (f_X8_changes_24 w) (fun s2 => bd (f_X6_hasPlayer 2 w p2) (fun q2 => (if ¬ q2 = 0 then bd (f_X5_isMissing s2 w) (fun q3 => (if ¬ q3 = 0 then f_X8_changes_54 w else (if (w s2 1) = (w 2 0) then bd (f_X1_begin 2 ((1:Int32) <<< (p2 &&& 31)) w) (fun q4 => f_X8_changes_84 s2 (6:Int32) (0:Int32) q4) else f_X8_changes_54 w))) else f_X8_changes_24 w))))
set_option maxRecDepth 20000 in
theorem b_X8_changes_E {G : Gv} {V : Vt} {res : Int32 × Wd}  (C : CX cX8_changes RX8 G SX 6 5 (some FieldType.int) (some (.int res.1)) res.2 V) {p1 : Int32} {p2 : Int32} {w : Wd} (h : f_X8_changes p1 p2 w = some res) : V w 0 [(0, .ref (G.2 0)), (1, .int p1), (2, .int p2)] [] := by
  unfold f_X8_changes at h
  refine r_aload_n (pc := 0) C dX8_changes_0 rfl 0 rfl ?_
  refine r_iload_n (pc := 1) C dX8_changes_1 rfl 1 rfl ?_
  refine cv_X8_197 (pc := 2) C dX8_changes_2  h (by decide) (Nat.le_of_ble_eq_true rfl) (fun q1 h => ?_)
  refine r_oc (pc := 5) h (fun h => ?_) (fun s2 hs2 h => ?_)
  · refine r_astore_nN (L' := [(3, .null), (0, .ref (G.2 0)), (1, .int p1), (2, .int p2)]) (pc := 5) C dX8_changes_5 rfl (by decide) rfl ?_
    refine r_aload_nN (pc := 6) C dX8_changes_6 rfl 0 rfl ?_
    refine r_ifnullN (pc := 7) C 24 dX8_changes_7 (by decide) ?_
    exact r_sub C [1] rfl (b_X8_changes_24 C h)
  · refine r_astore_n (L' := [(3, .ref (G.2 s2)), (0, .ref (G.2 0)), (1, .int p1), (2, .int p2)]) (pc := 5) C dX8_changes_5 rfl (by decide) rfl ?_
    refine r_aload_n (pc := 6) C dX8_changes_6 rfl 0 rfl ?_
    refine r_ifnull (pc := 7) C dX8_changes_7 ?_
    refine r_aload_n (pc := 10) C dX8_changes_10 rfl 1 rfl ?_
    refine gr_X8_10 (pc := 11) 1 C dX8_changes_11 kx_0 rfl ?_
    refine gr_X8_73 (pc := 14) 2 C dX8_changes_14 kx_1 rfl ?_
    refine r_iload_n (pc := 17) C dX8_changes_17 rfl 3 rfl ?_
    refine cv_X8_122 (pc := 18) C dX8_changes_18 isTr_2 h (by decide) (Nat.le_of_ble_eq_true rfl) (fun q2 h => ?_)
    refine r_if_ne (pc := 21) C 30 dX8_changes_21 (by decide) h (fun h => ?_) (fun h => ?_)
    · refine r_aload_n (pc := 30) C dX8_changes_30 rfl 0 rfl ?_
      refine cv_X8_201 (pc := 31) C dX8_changes_31 hs2 h (by decide) (Nat.le_of_ble_eq_true rfl) (fun q3 h => ?_)
      refine r_if_ne (pc := 34) C 54 dX8_changes_34 (by decide) h (fun h => ?_) (fun h => ?_)
      · exact r_sub C [1] rfl (b_X8_changes_54 C h)
      · refine r_aload_n (pc := 37) C dX8_changes_37 rfl 0 rfl ?_
        refine gi_X8_262 (pc := 38) C dX8_changes_38 (cSh_0 hs2) rfl ?_
        refine r_aload_n (pc := 41) C dX8_changes_41 rfl 1 rfl ?_
        refine gr_X8_10 (pc := 42) 1 C dX8_changes_42 kx_0 rfl ?_
        refine gr_X8_73 (pc := 45) 2 C dX8_changes_45 kx_1 rfl ?_
        refine gi_X8_76 (pc := 48) C dX8_changes_48 kx_2 rfl ?_
        refine r_icmp_eq (pc := 51) C 60 dX8_changes_51 (by decide) h (fun h => ?_) (fun h => ?_)
        · refine r_bipush (v := (6:Int32)) (pc := 60) C dX8_changes_60 (by decide) ?_
          refine r_istore (L' := [(4, .int (6:Int32)), (3, .ref (G.2 s2)), (0, .ref (G.2 0)), (1, .int p1), (2, .int p2)]) (pc := 62) C dX8_changes_62 (by decide) rfl ?_
          refine r_aload_n (pc := 64) C dX8_changes_64 rfl 2 rfl ?_
          refine gr_X8_29 (pc := 65) 58 C dX8_changes_65 kx_0 rfl ?_
          refine r_aload_n (pc := 68) C dX8_changes_68 rfl 2 rfl ?_
          refine gr_X8_10 (pc := 69) 1 C dX8_changes_69 kx_0 rfl ?_
          refine gr_X8_73 (pc := 72) 2 C dX8_changes_72 kx_1 rfl ?_
          refine r_iconst (v := (1:Int32)) (pc := 75) C dX8_changes_75 (by decide) ?_
          refine r_iload_n (pc := 76) C dX8_changes_76 rfl 4 rfl ?_
          refine r_ishl (pc := 77) C dX8_changes_77 ?_
          refine cv_X8_241 (pc := 78) C dX8_changes_78 isTr_2 h (by decide) (Nat.le_of_ble_eq_true rfl) (fun q4 h => ?_)
          refine r_iconst (v := (0:Int32)) (pc := 81) C dX8_changes_81 (by decide) ?_
          refine r_istore (L' := [(5, .int (0:Int32)), (4, .int (6:Int32)), (3, .ref (G.2 s2)), (0, .ref (G.2 0)), (1, .int p1), (2, .int p2)]) (pc := 82) C dX8_changes_82 (by decide) rfl ?_
          exact r_sub C [3, 2, 1, 0] rfl (b_X8_changes_84 hs2 C _ _ _ h)
        · exact r_sub C [1] rfl (b_X8_changes_54 C h)
    · exact r_sub C [1] rfl (b_X8_changes_24 C h)
theorem c_X8_changes {G : Gv} {p1 : Int32} {p2 : Int32} {w : Wd} {res : Int32 × Wd} (h : f_X8_changes p1 p2 w = some res) (l : Launch) : MC l yX8_changes cX8_changes 6 (some FieldType.int) 5 G SX w [.ref (G.2 0), .int p1, .int p2] (some (.int res.1)) res.2 := mc_of (by decide +kernel) rfl (Nat.le_of_ble_eq_true rfl) rfl (fun V C => b_X8_changes_E C h) l
def f_X8_tells_66 (rec28 : Int32 → Int32 → Int32 → Wd → Option (Int32 × Wd)) (x1 : Int32) (x2 : Int32) (x3 : Int32) (w : Wd) : Option (Int32 × Wd) := rec28 x1 x2 (x3 + (1:Int32)) w
set_option maxRecDepth 20000 in
theorem b_X8_tells_66 {G : Gv} {V : Vt} {rec28 : Int32 → Int32 → Int32 → Wd → Option (Int32 × Wd)} {res : Int32 × Wd}  (C : CX cX8_tells RX8 G SX 4 2 (some FieldType.int) (some (.int res.1)) res.2 V) (hrec28 : ∀ (x1 : Int32) (x2 : Int32) (x3 : Int32) (w : Wd), rec28 x1 x2 x3 w = some res → V w 28 [(0, .ref (G.2 0)), (1, .int x1), (2, .int x2), (3, .int x3)] []) {x1 : Int32} {x2 : Int32} {x3 : Int32} {w : Wd} (h : f_X8_tells_66 rec28 x1 x2 x3 w = some res) : V w 66 [(0, .ref (G.2 0)), (1, .int x1), (2, .int x2), (3, .int x3)] [] := by
  unfold f_X8_tells_66 at h
  refine r_iinc (v := (x3 + (1:Int32))) (L' := [(3, .int (x3 + (1:Int32))), (0, .ref (G.2 0)), (1, .int x1), (2, .int x2)]) (pc := 66) C dX8_tells_66 3 rfl rfl (by decide) rfl ?_
  refine r_goto (pc := 69) C 28 dX8_tells_69 (by decide) ?_
  exact r_sub C [1, 2, 3, 0] rfl (hrec28 _ _ _ _ h)
def fb_X8_tells_28 (rec28 : Int32 → Int32 → Int32 → Wd → Option (Int32 × Wd)) (x1 : Int32) (x2 : Int32) (x3 : Int32) (w : Wd) : Option (Int32 × Wd) := (if (w 2 5) ≤ x3 then some (x2, w) else (if ¬ ((x1 >>> (x3 &&& 31)) &&& (1:Int32)) = (1:Int32) then f_X8_tells_66 rec28 x1 x2 x3 w else ald w 7 6 x3 (fun v1 => lv (x2 ||| v1) (fun v2 => f_X8_tells_66 rec28 x1 v2 x3 w))))
set_option maxRecDepth 20000 in
theorem bb_X8_tells_28 {G : Gv} {V : Vt} {rec28 : Int32 → Int32 → Int32 → Wd → Option (Int32 × Wd)} {res : Int32 × Wd}  (C : CX cX8_tells RX8 G SX 4 2 (some FieldType.int) (some (.int res.1)) res.2 V) (hrec28 : ∀ (x1 : Int32) (x2 : Int32) (x3 : Int32) (w : Wd), rec28 x1 x2 x3 w = some res → V w 28 [(0, .ref (G.2 0)), (1, .int x1), (2, .int x2), (3, .int x3)] []) {x1 : Int32} {x2 : Int32} {x3 : Int32} {w : Wd} (h : fb_X8_tells_28 rec28 x1 x2 x3 w = some res) : V w 28 [(0, .ref (G.2 0)), (1, .int x1), (2, .int x2), (3, .int x3)] [] := by
  unfold fb_X8_tells_28 at h
  refine r_iload_n (pc := 28) C dX8_tells_28 rfl 3 rfl ?_
  refine r_aload_n (pc := 29) C dX8_tells_29 rfl 0 rfl ?_
  refine gr_X8_10 (pc := 30) 1 C dX8_tells_30 kx_0 rfl ?_
  refine gr_X8_73 (pc := 33) 2 C dX8_tells_33 kx_1 rfl ?_
  refine gi_X8_116 (pc := 36) C dX8_tells_36 kx_2 rfl ?_
  refine r_icmp_ge (pc := 39) C 72 dX8_tells_39 (by decide) h (fun h => ?_) (fun h => ?_)
  · refine r_iload_n (pc := 72) C dX8_tells_72 rfl 2 rfl ?_
    exact r_iretE (pc := 73) C dX8_tells_73 h
  · refine r_iload_n (pc := 42) C dX8_tells_42 rfl 1 rfl ?_
    refine r_iload_n (pc := 43) C dX8_tells_43 rfl 3 rfl ?_
    refine r_ishr (pc := 44) C dX8_tells_44 ?_
    refine r_iconst (v := (1:Int32)) (pc := 45) C dX8_tells_45 (by decide) ?_
    refine r_iand (pc := 46) C dX8_tells_46 ?_
    refine r_iconst (v := (1:Int32)) (pc := 47) C dX8_tells_47 (by decide) ?_
    refine r_icmp_ne (pc := 48) C 66 dX8_tells_48 (by decide) h (fun h => ?_) (fun h => ?_)
    · exact r_sub C [0, 1, 2, 3] rfl (b_X8_tells_66 C hrec28 h)
    · refine r_iload_n (pc := 51) C dX8_tells_51 rfl 2 rfl ?_
      refine r_aload_n (pc := 52) C dX8_tells_52 rfl 0 rfl ?_
      refine gr_X8_10 (pc := 53) 1 C dX8_tells_53 kx_0 rfl ?_
      refine gr_X8_73 (pc := 56) 2 C dX8_tells_56 kx_1 rfl ?_
      refine gr_X8_125 (pc := 59) 7 C dX8_tells_59 kx_2 rfl ?_
      refine r_iload_n (pc := 62) C dX8_tells_62 rfl 3 rfl ?_
      refine r_ald (pc := 63) C dX8_tells_63 h kx_7 (fun v1 h => ?_)
      refine r_ior (pc := 64) C dX8_tells_64 ?_
      refine r_lv h (fun v2 h => ?_)
      refine r_istore_n (L' := [(2, .int v2), (0, .ref (G.2 0)), (1, .int x1), (3, .int x3)]) (pc := 65) C dX8_tells_65 rfl (by decide) rfl ?_
      exact r_sub C [1, 2, 0, 3] rfl (b_X8_tells_66 C hrec28 h)
def f_X8_tells_28 : Int32 → Int32 → Int32 → Wd → Option (Int32 × Wd) := lp (fun _ _ _ _ => none) (fun rec => fb_X8_tells_28 rec) FU
theorem b_X8_tells_28 {G : Gv} {V : Vt} {res : Int32 × Wd}  (C : CX cX8_tells RX8 G SX 4 2 (some FieldType.int) (some (.int res.1)) res.2 V) : ∀ (x1 : Int32) (x2 : Int32) (x3 : Int32) (w : Wd), (f_X8_tells_28) x1 x2 x3 w = some res → V w 28 [(0, .ref (G.2 0)), (1, .int x1), (2, .int x2), (3, .int x3)] [] :=
  lp_ind (P := fun (g : Int32 → Int32 → Int32 → Wd → Option (Int32 × Wd)) => ∀ (x1 : Int32) (x2 : Int32) (x3 : Int32) (w : Wd), g x1 x2 x3 w = some res → V w 28 [(0, .ref (G.2 0)), (1, .int x1), (2, .int x2), (3, .int x3)] []) (fun _ _ _ _ h => by cases h) (fun g hg _ _ _ _ h => bb_X8_tells_28 C hg h) FU
def f_X8_tells (p1 : Int32) (w : Wd) : Option (Int32 × Wd) := bd (f_X6_allPlayers 2 w) (fun q1 => bd (f_X8_isWithin p1 (0:Int32) q1) (fun q2 => (if ¬ q2 = 0 then f_X8_tells_28 p1 (0:Int32) (0:Int32) w else bd (f_X8_error (1:Int32) w) (fun q3 => some (q3.1, q3.2)))))
set_option maxRecDepth 20000 in
theorem b_X8_tells_E {G : Gv} {V : Vt} {res : Int32 × Wd}  (C : CX cX8_tells RX8 G SX 4 2 (some FieldType.int) (some (.int res.1)) res.2 V) {p1 : Int32} {w : Wd} (h : f_X8_tells p1 w = some res) : V w 0 [(0, .ref (G.2 0)), (1, .int p1)] [] := by
  unfold f_X8_tells at h
  refine r_iload_n (pc := 0) C dX8_tells_0 rfl 1 rfl ?_
  refine r_iconst (v := (0:Int32)) (pc := 1) C dX8_tells_1 (by decide) ?_
  refine r_aload_n (pc := 2) C dX8_tells_2 rfl 0 rfl ?_
  refine gr_X8_10 (pc := 3) 1 C dX8_tells_3 kx_0 rfl ?_
  refine gr_X8_73 (pc := 6) 2 C dX8_tells_6 kx_1 rfl ?_
  refine cv_X8_256 (pc := 9) C dX8_tells_9 isTr_2 h (by decide) (Nat.le_of_ble_eq_true rfl) (fun q1 h => ?_)
  refine cv_X8_65 (pc := 12) C dX8_tells_12  h (by decide) (Nat.le_of_ble_eq_true rfl) (fun q2 h => ?_)
  refine r_if_ne (pc := 15) C 24 dX8_tells_15 (by decide) h (fun h => ?_) (fun h => ?_)
  · refine r_iconst (v := (0:Int32)) (pc := 24) C dX8_tells_24 (by decide) ?_
    refine r_istore_n (L' := [(2, .int (0:Int32)), (0, .ref (G.2 0)), (1, .int p1)]) (pc := 25) C dX8_tells_25 rfl (by decide) rfl ?_
    refine r_iconst (v := (0:Int32)) (pc := 26) C dX8_tells_26 (by decide) ?_
    refine r_istore_n (L' := [(3, .int (0:Int32)), (2, .int (0:Int32)), (0, .ref (G.2 0)), (1, .int p1)]) (pc := 27) C dX8_tells_27 rfl (by decide) rfl ?_
    exact r_sub C [2, 3, 1, 0] rfl (b_X8_tells_28 C _ _ _ _ h)
  · refine r_aload_n (pc := 18) C dX8_tells_18 rfl 0 rfl ?_
    refine r_iconst (v := (1:Int32)) (pc := 19) C dX8_tells_19 (by decide) ?_
    refine cv_X8_69 (pc := 20) C dX8_tells_20  h (by decide) (Nat.le_of_ble_eq_true rfl) (fun q3 h => ?_)
    exact r_iretE (pc := 23) C dX8_tells_23 h
theorem c_X8_tells {G : Gv} {p1 : Int32} {w : Wd} {res : Int32 × Wd} (h : f_X8_tells p1 w = some res) (l : Launch) : MC l yX8_tells cX8_tells 4 (some FieldType.int) 2 G SX w [.ref (G.2 0), .int p1] (some (.int res.1)) res.2 := mc_of (by decide +kernel) rfl (Nat.le_of_ble_eq_true rfl) rfl (fun V C => b_X8_tells_E C h) l
theorem cv_X8_333 {cc : ByteArray} {G : Gv} {n hc : Nat} {rt : Option FieldType} {rv : Option Value} {w0 : Wd} {V : Vt} {w : Wd} {pc : Nat} {L : List (Nat × Value)} {rest : List Value} {α : Type} {res : α} {b0 : Nat} {b3 : Nat} {p1 : Int32} {p2 : Int32} {K : Int32 × Wd → Option α} (C : CX cc RX8 G SX n hc rt rv w0 V) (hd : decode cc pc = .ok (.invokevirtual 333, 3)) (hb0 : isTr b0 = true) (hb3 : isLa b3 = true) (h : bd (f_X6_wageFor b0 b3 p1 p2 w) K = some res) (hR : 4 + 1 ≤ hc) (hr : (rest.map fun v => v.category).sum ≤ 8) (kk : ∀ q, K q = some res → V q.2 (pc + 3) L (.int q.1 :: rest)) : V w pc L (.ref (G.2 b3) :: .int p2 :: .int p1 :: .ref (G.2 b0) :: rest) := r_callV (As := [.int p1, .int p2, .ref (G.2 b3)]) (rest := rest) (rvf := fun q => (some (.int q.1))) (wf := fun q => q.2) C hd h ql_X8_333 qi_X6_wageFor qs_X6_wageFor qn_X6 qc_X6_wageFor ⟨rfl, by decide +kernel, by decide +kernel, (by decide +kernel : (parseMethodDescriptor yX6_wageFor.desc).map (fun d => d.parameters.length) = some 3)⟩ ⟨hR, by decide⟩ (cTr_0 hb0) rfl (fun q hq l => c_X6_wageFor hb0 hb3 hq l) rfl hr kk
def f_X8_fillWages_68 (rec2 : Int32 → Wd → Option (Wd)) (x1 : Int32) (w : Wd) : Option (Wd) := rec2 (x1 + (1:Int32)) w
set_option maxRecDepth 20000 in
theorem b_X8_fillWages_68 {G : Gv} {V : Vt} {rec2 : Int32 → Wd → Option (Wd)} {res : Wd}  (C : CX cX8_fillWages RX8 G SX 3 5 none none res V) (hrec2 : ∀ (x1 : Int32) (w : Wd), rec2 x1 w = some res → V w 2 [(0, .ref (G.2 0)), (1, .int x1)] []) {x1 : Int32} {w : Wd} (h : f_X8_fillWages_68 rec2 x1 w = some res) : V w 68 [(0, .ref (G.2 0)), (1, .int x1)] [] := by
  unfold f_X8_fillWages_68 at h
  refine r_iinc (v := (x1 + (1:Int32))) (L' := [(1, .int (x1 + (1:Int32))), (0, .ref (G.2 0))]) (pc := 68) C dX8_fillWages_68 1 rfl rfl (by decide) rfl ?_
  refine r_goto (pc := 71) C 2 dX8_fillWages_71 (by decide) ?_
  exact r_sub C [1, 0] rfl (hrec2 _ _ h)
def fb_X8_fillWages_18 (rec2 : Int32 → Wd → Option (Wd)) (rec18 : Int32 → Int32 → Wd → Option (Wd)) (x1 : Int32) (x2 : Int32) (w : Wd) : Option (Wd) := (if (w 2 5) ≤ x2 then f_X8_fillWages_68 rec2 x1 w else bd (f_X6_wageFor 2 16 x1 x2 w) (fun q1 => ast q1.2 79 30 ((x1 * (6:Int32)) + x2) q1.1 (fun w2 => rec18 x1 (x2 + (1:Int32)) w2)))
set_option maxRecDepth 20000 in
theorem bb_X8_fillWages_18 {G : Gv} {V : Vt} {rec2 : Int32 → Wd → Option (Wd)} {rec18 : Int32 → Int32 → Wd → Option (Wd)} {res : Wd}  (C : CX cX8_fillWages RX8 G SX 3 5 none none res V) (hrec2 : ∀ (x1 : Int32) (w : Wd), rec2 x1 w = some res → V w 2 [(0, .ref (G.2 0)), (1, .int x1)] []) (hrec18 : ∀ (x1 : Int32) (x2 : Int32) (w : Wd), rec18 x1 x2 w = some res → V w 18 [(0, .ref (G.2 0)), (1, .int x1), (2, .int x2)] []) {x1 : Int32} {x2 : Int32} {w : Wd} (h : fb_X8_fillWages_18 rec2 rec18 x1 x2 w = some res) : V w 18 [(0, .ref (G.2 0)), (1, .int x1), (2, .int x2)] [] := by
  unfold fb_X8_fillWages_18 at h
  refine r_iload_n (pc := 18) C dX8_fillWages_18 rfl 2 rfl ?_
  refine r_aload_n (pc := 19) C dX8_fillWages_19 rfl 0 rfl ?_
  refine gr_X8_10 (pc := 20) 1 C dX8_fillWages_20 kx_0 rfl ?_
  refine gr_X8_73 (pc := 23) 2 C dX8_fillWages_23 kx_1 rfl ?_
  refine gi_X8_116 (pc := 26) C dX8_fillWages_26 kx_2 rfl ?_
  refine r_icmp_ge (pc := 29) C 68 dX8_fillWages_29 (by decide) h (fun h => ?_) (fun h => ?_)
  · exact r_sub C [0, 1] rfl (b_X8_fillWages_68 C hrec2 h)
  · refine r_aload_n (pc := 32) C dX8_fillWages_32 rfl 0 rfl ?_
    refine gr_X8_54 (pc := 33) 79 C dX8_fillWages_33 kx_0 rfl ?_
    refine r_iload_n (pc := 36) C dX8_fillWages_36 rfl 1 rfl ?_
    refine r_bipush (v := (6:Int32)) (pc := 37) C dX8_fillWages_37 (by decide) ?_
    refine r_imul (pc := 39) C dX8_fillWages_39 ?_
    refine r_iload_n (pc := 40) C dX8_fillWages_40 rfl 2 rfl ?_
    refine r_iadd (pc := 41) C dX8_fillWages_41 ?_
    refine r_aload_n (pc := 42) C dX8_fillWages_42 rfl 0 rfl ?_
    refine gr_X8_10 (pc := 43) 1 C dX8_fillWages_43 kx_0 rfl ?_
    refine gr_X8_73 (pc := 46) 2 C dX8_fillWages_46 kx_1 rfl ?_
    refine r_iload_n (pc := 49) C dX8_fillWages_49 rfl 1 rfl ?_
    refine r_iload_n (pc := 50) C dX8_fillWages_50 rfl 2 rfl ?_
    refine r_aload_n (pc := 51) C dX8_fillWages_51 rfl 0 rfl ?_
    refine gr_X8_10 (pc := 52) 1 C dX8_fillWages_52 kx_0 rfl ?_
    refine gr_X8_219 (pc := 55) 16 C dX8_fillWages_55 kx_1 rfl ?_
    refine cv_X8_333 (pc := 58) C dX8_fillWages_58 isTr_2 isLa_16 h (by decide) (Nat.le_of_ble_eq_true rfl) (fun q1 h => ?_)
    refine r_ast (pc := 61) C dX8_fillWages_61 h kx_79 (fun w2 h => ?_)
    refine r_iinc (v := (x2 + (1:Int32))) (L' := [(2, .int (x2 + (1:Int32))), (0, .ref (G.2 0)), (1, .int x1)]) (pc := 62) C dX8_fillWages_62 2 rfl rfl (by decide) rfl ?_
    refine r_goto (pc := 65) C 18 dX8_fillWages_65 (by decide) ?_
    exact r_sub C [1, 2, 0] rfl (hrec18 _ _ _ h)
def f_X8_fillWages_18 (rec2 : Int32 → Wd → Option (Wd)) : Int32 → Int32 → Wd → Option (Wd) := lp (fun _ _ _ => none) (fun rec => fb_X8_fillWages_18 rec2 rec) FU
theorem b_X8_fillWages_18 {G : Gv} {V : Vt} {rec2 : Int32 → Wd → Option (Wd)} {res : Wd}  (C : CX cX8_fillWages RX8 G SX 3 5 none none res V) (hrec2 : ∀ (x1 : Int32) (w : Wd), rec2 x1 w = some res → V w 2 [(0, .ref (G.2 0)), (1, .int x1)] []) : ∀ (x1 : Int32) (x2 : Int32) (w : Wd), (f_X8_fillWages_18 rec2) x1 x2 w = some res → V w 18 [(0, .ref (G.2 0)), (1, .int x1), (2, .int x2)] [] :=
  lp_ind (P := fun (g : Int32 → Int32 → Wd → Option (Wd)) => ∀ (x1 : Int32) (x2 : Int32) (w : Wd), g x1 x2 w = some res → V w 18 [(0, .ref (G.2 0)), (1, .int x1), (2, .int x2)] []) (fun _ _ _ h => by cases h) (fun g hg _ _ _ h => bb_X8_fillWages_18 C hrec2 hg h) FU
def fb_X8_fillWages_2 (rec2 : Int32 → Wd → Option (Wd)) (x1 : Int32) (w : Wd) : Option (Wd) := (if (w 2 0) ≤ x1 then some w else f_X8_fillWages_18 rec2 x1 (0:Int32) w)
set_option maxRecDepth 20000 in
theorem bb_X8_fillWages_2 {G : Gv} {V : Vt} {rec2 : Int32 → Wd → Option (Wd)} {res : Wd}  (C : CX cX8_fillWages RX8 G SX 3 5 none none res V) (hrec2 : ∀ (x1 : Int32) (w : Wd), rec2 x1 w = some res → V w 2 [(0, .ref (G.2 0)), (1, .int x1)] []) {x1 : Int32} {w : Wd} (h : fb_X8_fillWages_2 rec2 x1 w = some res) : V w 2 [(0, .ref (G.2 0)), (1, .int x1)] [] := by
  unfold fb_X8_fillWages_2 at h
  refine r_iload_n (pc := 2) C dX8_fillWages_2 rfl 1 rfl ?_
  refine r_aload_n (pc := 3) C dX8_fillWages_3 rfl 0 rfl ?_
  refine gr_X8_10 (pc := 4) 1 C dX8_fillWages_4 kx_0 rfl ?_
  refine gr_X8_73 (pc := 7) 2 C dX8_fillWages_7 kx_1 rfl ?_
  refine gi_X8_76 (pc := 10) C dX8_fillWages_10 kx_2 rfl ?_
  refine r_icmp_ge (pc := 13) C 74 dX8_fillWages_13 (by decide) h (fun h => ?_) (fun h => ?_)
  · exact r_vretE (pc := 74) C dX8_fillWages_74 h
  · refine r_iconst (v := (0:Int32)) (pc := 16) C dX8_fillWages_16 (by decide) ?_
    refine r_istore_n (L' := [(2, .int (0:Int32)), (0, .ref (G.2 0)), (1, .int x1)]) (pc := 17) C dX8_fillWages_17 rfl (by decide) rfl ?_
    exact r_sub C [1, 2, 0] rfl (b_X8_fillWages_18 C hrec2 _ _ _ h)
def f_X8_fillWages_2 : Int32 → Wd → Option (Wd) := lp (fun _ _ => none) (fun rec => fb_X8_fillWages_2 rec) FU
theorem b_X8_fillWages_2 {G : Gv} {V : Vt} {res : Wd}  (C : CX cX8_fillWages RX8 G SX 3 5 none none res V) : ∀ (x1 : Int32) (w : Wd), (f_X8_fillWages_2) x1 w = some res → V w 2 [(0, .ref (G.2 0)), (1, .int x1)] [] :=
  lp_ind (P := fun (g : Int32 → Wd → Option (Wd)) => ∀ (x1 : Int32) (w : Wd), g x1 w = some res → V w 2 [(0, .ref (G.2 0)), (1, .int x1)] []) (fun _ _ h => by cases h) (fun g hg _ _ h => bb_X8_fillWages_2 C hg h) FU
def f_X8_fillWages (w : Wd) : Option (Wd) := f_X8_fillWages_2 (0:Int32) w
set_option maxRecDepth 20000 in
theorem b_X8_fillWages_E {G : Gv} {V : Vt} {res : Wd}  (C : CX cX8_fillWages RX8 G SX 3 5 none none res V) {w : Wd} (h : f_X8_fillWages w = some res) : V w 0 [(0, .ref (G.2 0))] [] := by
  unfold f_X8_fillWages at h
  refine r_iconst (v := (0:Int32)) (pc := 0) C dX8_fillWages_0 (by decide) ?_
  refine r_istore_n (L' := [(1, .int (0:Int32)), (0, .ref (G.2 0))]) (pc := 1) C dX8_fillWages_1 rfl (by decide) rfl ?_
  exact r_sub C [1, 0] rfl (b_X8_fillWages_2 C _ _ h)
theorem c_X8_fillWages {G : Gv} {w : Wd} {res : Wd} (h : f_X8_fillWages w = some res) (l : Launch) : MC l yX8_fillWages cX8_fillWages 3 none 5 G SX w [.ref (G.2 0)] none res := mc_of (by decide +kernel) rfl (Nat.le_of_ble_eq_true rfl) rfl (fun V C => b_X8_fillWages_E C h) l
def f_X8_paysAs_82 (b1 : Nat) (w : Wd) (rec2 : Int32 → Option (Int32)) (x2 : Int32) (x3 : Int32) : Option (Int32) := ald w (b1 + 1) 40 x2 (fun v1 => (if (mmin x3 (9999:Int32)) = v1 then rec2 (x2 + (1:Int32)) else some (0:Int32)))
set_option maxRecDepth 20000 in
theorem b_X8_paysAs_82 {G : Gv} {V : Vt} {b1 : Nat} {w : Wd} {rec2 : Int32 → Option (Int32)} {res : Int32} (hb1 : isSh b1 = true)  (C : CX cX8_paysAs RX8 G SX 5 2 (some FieldType.boolean) (some (.int res)) w V) (hrec2 : ∀ (x2 : Int32), rec2 x2 = some res → V w 2 [(0, .ref (G.2 0)), (1, .ref (G.2 b1)), (2, .int x2)] []) {x2 : Int32} {x3 : Int32} (h : f_X8_paysAs_82 b1 w rec2 x2 x3 = some res) : V w 82 [(0, .ref (G.2 0)), (1, .ref (G.2 b1)), (2, .int x2), (3, .int x3)] [] := by
  unfold f_X8_paysAs_82 at h
  refine r_iload_n (pc := 82) C dX8_paysAs_82 rfl 3 rfl ?_
  refine r_sipush (v := (9999:Int32)) (pc := 83) C dX8_paysAs_83 (by decide) ?_
  refine r_mmin (pc := 86) C dX8_paysAs_86 ql_X8_226 qt_Math_min qn_J9 qc_Math_min (Nat.le_of_ble_eq_true rfl) ?_
  refine r_aload_n (pc := 89) C dX8_paysAs_89 rfl 1 rfl ?_
  refine gr_X8_212 (pc := 90) (b1 + 1) C dX8_paysAs_90 (cSh_0 hb1) rfl ?_
  refine r_iload_n (pc := 93) C dX8_paysAs_93 rfl 2 rfl ?_
  refine r_ald (pc := 94) C dX8_paysAs_94 h (cSh_1 hb1) (fun v1 h => ?_)
  refine r_icmp_eq (pc := 95) C 100 dX8_paysAs_95 (by decide) h (fun h => ?_) (fun h => ?_)
  · refine r_iinc (v := (x2 + (1:Int32))) (L' := [(2, .int (x2 + (1:Int32))), (0, .ref (G.2 0)), (1, .ref (G.2 b1)), (3, .int x3)]) (pc := 100) C dX8_paysAs_100 2 rfl rfl (by decide) rfl ?_
    refine r_goto (pc := 103) C 2 dX8_paysAs_103 (by decide) ?_
    exact r_sub C [1, 2, 0] rfl (hrec2 _ h)
  · refine r_iconst (v := (0:Int32)) (pc := 98) C dX8_paysAs_98 (by decide) ?_
    exact r_zretP (pc := 99) C rfl dX8_paysAs_99 h
def f_X8_paysAs_76 (b1 : Nat) (w : Wd) (rec2 : Int32 → Option (Int32)) (rec32 : Int32 → Int32 → Int32 → Option (Int32)) (x2 : Int32) (x3 : Int32) (x4 : Int32) : Option (Int32) := rec32 x2 x3 (x4 + (1:Int32))
set_option maxRecDepth 20000 in
theorem b_X8_paysAs_76 {G : Gv} {V : Vt} {b1 : Nat} {w : Wd} {rec2 : Int32 → Option (Int32)} {rec32 : Int32 → Int32 → Int32 → Option (Int32)} {res : Int32} (hb1 : isSh b1 = true)  (C : CX cX8_paysAs RX8 G SX 5 2 (some FieldType.boolean) (some (.int res)) w V) (hrec2 : ∀ (x2 : Int32), rec2 x2 = some res → V w 2 [(0, .ref (G.2 0)), (1, .ref (G.2 b1)), (2, .int x2)] []) (hrec32 : ∀ (x2 : Int32) (x3 : Int32) (x4 : Int32), rec32 x2 x3 x4 = some res → V w 32 [(0, .ref (G.2 0)), (1, .ref (G.2 b1)), (2, .int x2), (3, .int x3), (4, .int x4)] []) {x2 : Int32} {x3 : Int32} {x4 : Int32} (h : f_X8_paysAs_76 b1 w rec2 rec32 x2 x3 x4 = some res) : V w 76 [(0, .ref (G.2 0)), (1, .ref (G.2 b1)), (2, .int x2), (3, .int x3), (4, .int x4)] [] := by
  unfold f_X8_paysAs_76 at h
  refine r_iinc (v := (x4 + (1:Int32))) (L' := [(4, .int (x4 + (1:Int32))), (0, .ref (G.2 0)), (1, .ref (G.2 b1)), (2, .int x2), (3, .int x3)]) (pc := 76) C dX8_paysAs_76 4 rfl rfl (by decide) rfl ?_
  refine r_goto (pc := 79) C 32 dX8_paysAs_79 (by decide) ?_
  exact r_sub C [1, 2, 3, 4, 0] rfl (hrec32 _ _ _ h)
def fb_X8_paysAs_32 (b1 : Nat) (w : Wd) (rec2 : Int32 → Option (Int32)) (rec32 : Int32 → Int32 → Int32 → Option (Int32)) (x2 : Int32) (x3 : Int32) (x4 : Int32) : Option (Int32) := (if (w 2 0) ≤ x4 then f_X8_paysAs_82 b1 w rec2 x2 x3 else ald w 59 5 x4 (fun v1 => (if ¬ v1 = x2 then f_X8_paysAs_76 b1 w rec2 rec32 x2 x3 x4 else ald w 79 30 ((x4 * (6:Int32)) + x2) (fun v2 => lv (x3 + v2) (fun v3 => f_X8_paysAs_76 b1 w rec2 rec32 x2 v3 x4)))))
set_option maxRecDepth 20000 in
theorem bb_X8_paysAs_32 {G : Gv} {V : Vt} {b1 : Nat} {w : Wd} {rec2 : Int32 → Option (Int32)} {rec32 : Int32 → Int32 → Int32 → Option (Int32)} {res : Int32} (hb1 : isSh b1 = true)  (C : CX cX8_paysAs RX8 G SX 5 2 (some FieldType.boolean) (some (.int res)) w V) (hrec2 : ∀ (x2 : Int32), rec2 x2 = some res → V w 2 [(0, .ref (G.2 0)), (1, .ref (G.2 b1)), (2, .int x2)] []) (hrec32 : ∀ (x2 : Int32) (x3 : Int32) (x4 : Int32), rec32 x2 x3 x4 = some res → V w 32 [(0, .ref (G.2 0)), (1, .ref (G.2 b1)), (2, .int x2), (3, .int x3), (4, .int x4)] []) {x2 : Int32} {x3 : Int32} {x4 : Int32} (h : fb_X8_paysAs_32 b1 w rec2 rec32 x2 x3 x4 = some res) : V w 32 [(0, .ref (G.2 0)), (1, .ref (G.2 b1)), (2, .int x2), (3, .int x3), (4, .int x4)] [] := by
  unfold fb_X8_paysAs_32 at h
  refine r_iload (pc := 32) C dX8_paysAs_32 4 rfl ?_
  refine r_aload_n (pc := 34) C dX8_paysAs_34 rfl 0 rfl ?_
  refine gr_X8_10 (pc := 35) 1 C dX8_paysAs_35 kx_0 rfl ?_
  refine gr_X8_73 (pc := 38) 2 C dX8_paysAs_38 kx_1 rfl ?_
  refine gi_X8_76 (pc := 41) C dX8_paysAs_41 kx_2 rfl ?_
  refine r_icmp_ge (pc := 44) C 82 dX8_paysAs_44 (by decide) h (fun h => ?_) (fun h => ?_)
  · exact r_sub C [0, 1, 2, 3] rfl (b_X8_paysAs_82 hb1 C hrec2 h)
  · refine r_aload_n (pc := 47) C dX8_paysAs_47 rfl 0 rfl ?_
    refine gr_X8_29 (pc := 48) 58 C dX8_paysAs_48 kx_0 rfl ?_
    refine gr_X8_248 (pc := 51) 59 C dX8_paysAs_51 kx_58 rfl ?_
    refine r_iload (pc := 54) C dX8_paysAs_54 4 rfl ?_
    refine r_ald (pc := 56) C dX8_paysAs_56 h kx_59 (fun v1 h => ?_)
    refine r_iload_n (pc := 57) C dX8_paysAs_57 rfl 2 rfl ?_
    refine r_icmp_ne (pc := 58) C 76 dX8_paysAs_58 (by decide) h (fun h => ?_) (fun h => ?_)
    · exact r_sub C [0, 1, 2, 3, 4] rfl (b_X8_paysAs_76 hb1 C hrec2 hrec32 h)
    · refine r_iload_n (pc := 61) C dX8_paysAs_61 rfl 3 rfl ?_
      refine r_aload_n (pc := 62) C dX8_paysAs_62 rfl 0 rfl ?_
      refine gr_X8_54 (pc := 63) 79 C dX8_paysAs_63 kx_0 rfl ?_
      refine r_iload (pc := 66) C dX8_paysAs_66 4 rfl ?_
      refine r_bipush (v := (6:Int32)) (pc := 68) C dX8_paysAs_68 (by decide) ?_
      refine r_imul (pc := 70) C dX8_paysAs_70 ?_
      refine r_iload_n (pc := 71) C dX8_paysAs_71 rfl 2 rfl ?_
      refine r_iadd (pc := 72) C dX8_paysAs_72 ?_
      refine r_ald (pc := 73) C dX8_paysAs_73 h kx_79 (fun v2 h => ?_)
      refine r_iadd (pc := 74) C dX8_paysAs_74 ?_
      refine r_lv h (fun v3 h => ?_)
      refine r_istore_n (L' := [(3, .int v3), (0, .ref (G.2 0)), (1, .ref (G.2 b1)), (2, .int x2), (4, .int x4)]) (pc := 75) C dX8_paysAs_75 rfl (by decide) rfl ?_
      exact r_sub C [1, 2, 3, 0, 4] rfl (b_X8_paysAs_76 hb1 C hrec2 hrec32 h)
def f_X8_paysAs_32 (b1 : Nat) (w : Wd) (rec2 : Int32 → Option (Int32)) : Int32 → Int32 → Int32 → Option (Int32) := lp (fun _ _ _ => none) (fun rec => fb_X8_paysAs_32 b1 w rec2 rec) FU
theorem b_X8_paysAs_32 {G : Gv} {V : Vt} {b1 : Nat} {w : Wd} {rec2 : Int32 → Option (Int32)} {res : Int32} (hb1 : isSh b1 = true)  (C : CX cX8_paysAs RX8 G SX 5 2 (some FieldType.boolean) (some (.int res)) w V) (hrec2 : ∀ (x2 : Int32), rec2 x2 = some res → V w 2 [(0, .ref (G.2 0)), (1, .ref (G.2 b1)), (2, .int x2)] []) : ∀ (x2 : Int32) (x3 : Int32) (x4 : Int32), (f_X8_paysAs_32 b1 w rec2) x2 x3 x4 = some res → V w 32 [(0, .ref (G.2 0)), (1, .ref (G.2 b1)), (2, .int x2), (3, .int x3), (4, .int x4)] [] :=
  lp_ind (P := fun (g : Int32 → Int32 → Int32 → Option (Int32)) => ∀ (x2 : Int32) (x3 : Int32) (x4 : Int32), g x2 x3 x4 = some res → V w 32 [(0, .ref (G.2 0)), (1, .ref (G.2 b1)), (2, .int x2), (3, .int x3), (4, .int x4)] []) (fun _ _ _ h => by cases h) (fun g hg _ _ _ h => bb_X8_paysAs_32 hb1 C hrec2 hg h) FU
def fb_X8_paysAs_2 (b1 : Nat) (w : Wd) (rec2 : Int32 → Option (Int32)) (x2 : Int32) : Option (Int32) := (if (w 2 5) ≤ x2 then some (1:Int32) else ald w 10 6 x2 (fun v1 => f_X8_paysAs_32 b1 w rec2 x2 v1 (0:Int32)))
set_option maxRecDepth 20000 in
theorem bb_X8_paysAs_2 {G : Gv} {V : Vt} {b1 : Nat} {w : Wd} {rec2 : Int32 → Option (Int32)} {res : Int32} (hb1 : isSh b1 = true)  (C : CX cX8_paysAs RX8 G SX 5 2 (some FieldType.boolean) (some (.int res)) w V) (hrec2 : ∀ (x2 : Int32), rec2 x2 = some res → V w 2 [(0, .ref (G.2 0)), (1, .ref (G.2 b1)), (2, .int x2)] []) {x2 : Int32} (h : fb_X8_paysAs_2 b1 w rec2 x2 = some res) : V w 2 [(0, .ref (G.2 0)), (1, .ref (G.2 b1)), (2, .int x2)] [] := by
  unfold fb_X8_paysAs_2 at h
  refine r_iload_n (pc := 2) C dX8_paysAs_2 rfl 2 rfl ?_
  refine r_aload_n (pc := 3) C dX8_paysAs_3 rfl 0 rfl ?_
  refine gr_X8_10 (pc := 4) 1 C dX8_paysAs_4 kx_0 rfl ?_
  refine gr_X8_73 (pc := 7) 2 C dX8_paysAs_7 kx_1 rfl ?_
  refine gi_X8_116 (pc := 10) C dX8_paysAs_10 kx_2 rfl ?_
  refine r_icmp_ge (pc := 13) C 106 dX8_paysAs_13 (by decide) h (fun h => ?_) (fun h => ?_)
  · refine r_iconst (v := (1:Int32)) (pc := 106) C dX8_paysAs_106 (by decide) ?_
    exact r_zretP (pc := 107) C rfl dX8_paysAs_107 h
  · refine r_aload_n (pc := 16) C dX8_paysAs_16 rfl 0 rfl ?_
    refine gr_X8_10 (pc := 17) 1 C dX8_paysAs_17 kx_0 rfl ?_
    refine gr_X8_73 (pc := 20) 2 C dX8_paysAs_20 kx_1 rfl ?_
    refine gr_X8_134 (pc := 23) 10 C dX8_paysAs_23 kx_2 rfl ?_
    refine r_iload_n (pc := 26) C dX8_paysAs_26 rfl 2 rfl ?_
    refine r_ald (pc := 27) C dX8_paysAs_27 h kx_10 (fun v1 h => ?_)
    refine r_istore_n (L' := [(3, .int v1), (0, .ref (G.2 0)), (1, .ref (G.2 b1)), (2, .int x2)]) (pc := 28) C dX8_paysAs_28 rfl (by decide) rfl ?_
    refine r_iconst (v := (0:Int32)) (pc := 29) C dX8_paysAs_29 (by decide) ?_
    refine r_istore (L' := [(4, .int (0:Int32)), (3, .int v1), (0, .ref (G.2 0)), (1, .ref (G.2 b1)), (2, .int x2)]) (pc := 30) C dX8_paysAs_30 (by decide) rfl ?_
    exact r_sub C [2, 3, 4, 1, 0] rfl (b_X8_paysAs_32 hb1 C hrec2 _ _ _ h)
def f_X8_paysAs_2 (b1 : Nat) (w : Wd) : Int32 → Option (Int32) := lp (fun _ => none) (fun rec => fb_X8_paysAs_2 b1 w rec) FU
theorem b_X8_paysAs_2 {G : Gv} {V : Vt} {b1 : Nat} {w : Wd} {res : Int32} (hb1 : isSh b1 = true)  (C : CX cX8_paysAs RX8 G SX 5 2 (some FieldType.boolean) (some (.int res)) w V) : ∀ (x2 : Int32), (f_X8_paysAs_2 b1 w) x2 = some res → V w 2 [(0, .ref (G.2 0)), (1, .ref (G.2 b1)), (2, .int x2)] [] :=
  lp_ind (P := fun (g : Int32 → Option (Int32)) => ∀ (x2 : Int32), g x2 = some res → V w 2 [(0, .ref (G.2 0)), (1, .ref (G.2 b1)), (2, .int x2)] []) (fun _ h => by cases h) (fun g hg _ h => bb_X8_paysAs_2 hb1 C hg h) FU
def f_X8_paysAs (b1 : Nat) (w : Wd) : Option (Int32) := f_X8_paysAs_2 b1 w (0:Int32)
set_option maxRecDepth 20000 in
theorem b_X8_paysAs_E {G : Gv} {V : Vt} {b1 : Nat} {w : Wd} {res : Int32} (hb1 : isSh b1 = true)  (C : CX cX8_paysAs RX8 G SX 5 2 (some FieldType.boolean) (some (.int res)) w V) (h : f_X8_paysAs b1 w = some res) : V w 0 [(0, .ref (G.2 0)), (1, .ref (G.2 b1))] [] := by
  unfold f_X8_paysAs at h
  refine r_iconst (v := (0:Int32)) (pc := 0) C dX8_paysAs_0 (by decide) ?_
  refine r_istore_n (L' := [(2, .int (0:Int32)), (0, .ref (G.2 0)), (1, .ref (G.2 b1))]) (pc := 1) C dX8_paysAs_1 rfl (by decide) rfl ?_
  exact r_sub C [1, 2, 0] rfl (b_X8_paysAs_2 hb1 C _ h)
theorem c_X8_paysAs {G : Gv} {b1 : Nat} {w : Wd} {res : Int32} (hb1 : isSh b1 = true) (h : f_X8_paysAs b1 w = some res) (l : Launch) : MC l yX8_paysAs cX8_paysAs 5 (some FieldType.boolean) 2 G SX w [.ref (G.2 0), .ref (G.2 b1)] (some (.int res)) w := mc_of (by decide +kernel) rfl (Nat.le_of_ble_eq_true rfl) rfl (fun V C => b_X8_paysAs_E hb1 C h) l
theorem cv_X8_269 {cc : ByteArray} {G : Gv} {n hc : Nat} {rt : Option FieldType} {rv : Option Value} {w0 : Wd} {V : Vt} {w : Wd} {pc : Nat} {L : List (Nat × Value)} {rest : List Value} {α : Type} {res : α} {K : Wd → Option α} (C : CX cc RX8 G SX n hc rt rv w0 V) (hd : decode cc pc = .ok (.invokevirtual 269, 3)) (h : bd (f_X8_fillWages w) K = some res) (hR : 5 + 1 ≤ hc) (hr : (rest.map fun v => v.category).sum ≤ 8) (kk : ∀ q, K q = some res → V q (pc + 3) L (rest)) : V w pc L (.ref (G.2 0) :: rest) := r_callV (As := []) (rest := rest) (rvf := fun q => none) (wf := fun q => q) C hd h ql_X8_269 qi_X8_fillWages qs_X8_fillWages qn_X8 qc_X8_fillWages ⟨rfl, by decide +kernel, by decide +kernel, (by decide +kernel : (parseMethodDescriptor yX8_fillWages.desc).map (fun d => d.parameters.length) = some 0)⟩ ⟨hR, by decide⟩ kx_0 rfl (fun q hq l => c_X8_fillWages hq l) rfl hr kk
theorem cv_X8_272 {cc : ByteArray} {G : Gv} {n hc : Nat} {rt : Option FieldType} {rv : Option Value} {w0 : Wd} {V : Vt} {w : Wd} {pc : Nat} {L : List (Nat × Value)} {rest : List Value} {α : Type} {res : α} {b1 : Nat} {K : Int32 → Option α} (C : CX cc RX8 G SX n hc rt rv w0 V) (hd : decode cc pc = .ok (.invokevirtual 272, 3)) (hb1 : isSh b1 = true) (h : bd (f_X8_paysAs b1 w) K = some res) (hR : 2 + 1 ≤ hc) (hr : (rest.map fun v => v.category).sum ≤ 8) (kk : ∀ q, K q = some res → V w (pc + 3) L (.int q :: rest)) : V w pc L (.ref (G.2 b1) :: .ref (G.2 0) :: rest) := r_callV (As := [.ref (G.2 b1)]) (rest := rest) (rvf := fun q => (some (.int q))) (wf := fun q => w) C hd h ql_X8_272 qi_X8_paysAs qs_X8_paysAs qn_X8 qc_X8_paysAs ⟨rfl, by decide +kernel, by decide +kernel, (by decide +kernel : (parseMethodDescriptor yX8_paysAs.desc).map (fun d => d.parameters.length) = some 1)⟩ ⟨hR, by decide⟩ kx_0 rfl (fun q hq l => c_X8_paysAs hb1 hq l) rfl hr kk
def f_X8_fits_139 (x2 : Int32) (x4 : Int32) (w : Wd) : Option (Int32 × Wd) := (if x2 < 0 then some (x4, w) else bd (f_X8_error (2:Int32) w) (fun q1 => some (q1.1, q1.2)))
set_option maxRecDepth 20000 in
theorem b_X8_fits_139 {G : Gv} {V : Vt} {res : Int32 × Wd}  (C : CX cX8_fits RX8 G SX 6 6 (some FieldType.int) (some (.int res.1)) res.2 V) {x2 : Int32} {x4 : Int32} {w : Wd} (h : f_X8_fits_139 x2 x4 w = some res) : V w 139 [(0, .ref (G.2 0)), (2, .int x2), (4, .int x4)] [] := by
  unfold f_X8_fits_139 at h
  refine r_iload_n (pc := 139) C dX8_fits_139 rfl 1 rfl ?_
  refine r_if_lt (pc := 140) C 151 dX8_fits_140 (by decide) h (fun h => ?_) (fun h => ?_)
  · refine r_iload (pc := 151) C dX8_fits_151 2 rfl ?_
    exact r_iretE (pc := 153) C dX8_fits_153 h
  · refine r_aload_n (pc := 143) C dX8_fits_143 rfl 0 rfl ?_
    refine r_iconst (v := (2:Int32)) (pc := 144) C dX8_fits_144 (by decide) ?_
    refine cv_X8_69 (pc := 145) C dX8_fits_145  h (by decide) (Nat.le_of_ble_eq_true rfl) (fun q1 h => ?_)
    refine r_goto (pc := 148) C 153 dX8_fits_148 (by decide) ?_
    exact r_iretE (pc := 153) C dX8_fits_153 h
def f_X8_fits_133 (s2 : Nat) (rec91 : Int32 → Int32 → Int32 → Wd → Option (Int32 × Wd)) (x2 : Int32) (x4 : Int32) (x5 : Int32) (w : Wd) : Option (Int32 × Wd) := rec91 x2 x4 (x5 + (1:Int32)) w
set_option maxRecDepth 20000 in
theorem b_X8_fits_133 {G : Gv} {V : Vt} {s2 : Nat} {rec91 : Int32 → Int32 → Int32 → Wd → Option (Int32 × Wd)} {res : Int32 × Wd} (hs2 : isSh s2 = true)  (C : CX cX8_fits RX8 G SX 6 6 (some FieldType.int) (some (.int res.1)) res.2 V) (hrec91 : ∀ (x2 : Int32) (x4 : Int32) (x5 : Int32) (w : Wd), rec91 x2 x4 x5 w = some res → V w 91 [(0, .ref (G.2 0)), (2, .int x2), (3, .ref (G.2 s2)), (4, .int x4), (5, .int x5)] []) {x2 : Int32} {x4 : Int32} {x5 : Int32} {w : Wd} (h : f_X8_fits_133 s2 rec91 x2 x4 x5 w = some res) : V w 133 [(0, .ref (G.2 0)), (2, .int x2), (3, .ref (G.2 s2)), (4, .int x4), (5, .int x5)] [] := by
  unfold f_X8_fits_133 at h
  refine r_iinc (v := (x5 + (1:Int32))) (L' := [(5, .int (x5 + (1:Int32))), (0, .ref (G.2 0)), (2, .int x2), (3, .ref (G.2 s2)), (4, .int x4)]) (pc := 133) C dX8_fits_133 4 rfl rfl (by decide) rfl ?_
  refine r_goto (pc := 136) C 91 dX8_fits_136 (by decide) ?_
  exact r_sub C [1, 2, 3, 4, 0] rfl (hrec91 _ _ _ _ h)
def f_X8_fits_120 (x2 : Int32) (w : Wd) : Option (Int32 × Wd) := ald w 59 5 x2 (fun v1 => some (v1, w))
set_option maxRecDepth 20000 in
theorem b_X8_fits_120 {G : Gv} {V : Vt} {res : Int32 × Wd}  (C : CX cX8_fits RX8 G SX 6 6 (some FieldType.int) (some (.int res.1)) res.2 V) {x2 : Int32} {w : Wd} (h : f_X8_fits_120 x2 w = some res) : V w 120 [(0, .ref (G.2 0)), (2, .int x2)] [] := by
  unfold f_X8_fits_120 at h
  refine r_aload_n (pc := 120) C dX8_fits_120 rfl 0 rfl ?_
  refine gr_X8_29 (pc := 121) 58 C dX8_fits_121 kx_0 rfl ?_
  refine gr_X8_248 (pc := 124) 59 C dX8_fits_124 kx_58 rfl ?_
  refine r_iload_n (pc := 127) C dX8_fits_127 rfl 1 rfl ?_
  refine r_ald (pc := 128) C dX8_fits_128 h kx_59 (fun v1 h => ?_)
  exact r_iretE (pc := 129) C dX8_fits_129 h
def fb_X8_fits_91 (s2 : Nat) (rec91 : Int32 → Int32 → Int32 → Wd → Option (Int32 × Wd)) (x2 : Int32) (x4 : Int32) (x5 : Int32) (w : Wd) : Option (Int32 × Wd) := (if (1000000:Int32) ≤ x5 then f_X8_fits_139 x2 x4 w else bd (f_X1_goesOn w) (fun q1 => (if q1.1 = 0 then f_X8_fits_139 x2 x4 q1.2 else bd (f_X8_paysAs s2 q1.2) (fun q2 => (if q2 = 0 then f_X8_fits_133 s2 rec91 x2 x4 x5 q1.2 else (if x2 < 0 then f_X8_fits_133 s2 rec91 x2 (x4 + (1:Int32)) x5 q1.2 else f_X8_fits_120 x2 q1.2))))))
set_option maxRecDepth 20000 in
theorem bb_X8_fits_91 {G : Gv} {V : Vt} {s2 : Nat} {rec91 : Int32 → Int32 → Int32 → Wd → Option (Int32 × Wd)} {res : Int32 × Wd} (hs2 : isSh s2 = true)  (C : CX cX8_fits RX8 G SX 6 6 (some FieldType.int) (some (.int res.1)) res.2 V) (hrec91 : ∀ (x2 : Int32) (x4 : Int32) (x5 : Int32) (w : Wd), rec91 x2 x4 x5 w = some res → V w 91 [(0, .ref (G.2 0)), (2, .int x2), (3, .ref (G.2 s2)), (4, .int x4), (5, .int x5)] []) {x2 : Int32} {x4 : Int32} {x5 : Int32} {w : Wd} (h : fb_X8_fits_91 s2 rec91 x2 x4 x5 w = some res) : V w 91 [(0, .ref (G.2 0)), (2, .int x2), (3, .ref (G.2 s2)), (4, .int x4), (5, .int x5)] [] := by
  unfold fb_X8_fits_91 at h
  refine r_iload (pc := 91) C dX8_fits_91 4 rfl ?_
  refine r_ldc (pc := 93) C dX8_fits_93 qk_X8_251 ?_
  refine r_icmp_ge (pc := 95) C 139 dX8_fits_95 (by decide) h (fun h => ?_) (fun h => ?_)
  · exact r_sub C [0, 1, 3] rfl (b_X8_fits_139 C h)
  · refine r_aload_n (pc := 98) C dX8_fits_98 rfl 0 rfl ?_
    refine gr_X8_29 (pc := 99) 58 C dX8_fits_99 kx_0 rfl ?_
    refine cv_X8_245 (pc := 102) C dX8_fits_102  h (by decide) (Nat.le_of_ble_eq_true rfl) (fun q1 h => ?_)
    refine r_if_eq (pc := 105) C 139 dX8_fits_105 (by decide) h (fun h => ?_) (fun h => ?_)
    · exact r_sub C [0, 1, 3] rfl (b_X8_fits_139 C h)
    · refine r_aload_n (pc := 108) C dX8_fits_108 rfl 0 rfl ?_
      refine r_aload_n (pc := 109) C dX8_fits_109 rfl 2 rfl ?_
      refine cv_X8_272 (pc := 110) C dX8_fits_110 hs2 h (by decide) (Nat.le_of_ble_eq_true rfl) (fun q2 h => ?_)
      refine r_if_eq (pc := 113) C 133 dX8_fits_113 (by decide) h (fun h => ?_) (fun h => ?_)
      · exact r_sub C [0, 1, 2, 3, 4] rfl (b_X8_fits_133 hs2 C hrec91 h)
      · refine r_iload_n (pc := 116) C dX8_fits_116 rfl 1 rfl ?_
        refine r_if_lt (pc := 117) C 130 dX8_fits_117 (by decide) h (fun h => ?_) (fun h => ?_)
        · refine r_iinc (v := (x4 + (1:Int32))) (L' := [(4, .int (x4 + (1:Int32))), (0, .ref (G.2 0)), (2, .int x2), (3, .ref (G.2 s2)), (5, .int x5)]) (pc := 130) C dX8_fits_130 3 rfl rfl (by decide) rfl ?_
          exact r_sub C [1, 2, 3, 0, 4] rfl (b_X8_fits_133 hs2 C hrec91 h)
        · exact r_sub C [0, 1] rfl (b_X8_fits_120 C h)
def f_X8_fits_91 (s2 : Nat) : Int32 → Int32 → Int32 → Wd → Option (Int32 × Wd) := lp (fun _ _ _ _ => none) (fun rec => fb_X8_fits_91 s2 rec) FU
theorem b_X8_fits_91 {G : Gv} {V : Vt} {s2 : Nat} {res : Int32 × Wd} (hs2 : isSh s2 = true)  (C : CX cX8_fits RX8 G SX 6 6 (some FieldType.int) (some (.int res.1)) res.2 V) : ∀ (x2 : Int32) (x4 : Int32) (x5 : Int32) (w : Wd), (f_X8_fits_91 s2) x2 x4 x5 w = some res → V w 91 [(0, .ref (G.2 0)), (2, .int x2), (3, .ref (G.2 s2)), (4, .int x4), (5, .int x5)] [] :=
  lp_ind (P := fun (g : Int32 → Int32 → Int32 → Wd → Option (Int32 × Wd)) => ∀ (x2 : Int32) (x4 : Int32) (x5 : Int32) (w : Wd), g x2 x4 x5 w = some res → V w 91 [(0, .ref (G.2 0)), (2, .int x2), (3, .ref (G.2 s2)), (4, .int x4), (5, .int x5)] []) (fun _ _ _ _ h => by cases h) (fun g hg _ _ _ _ h => bb_X8_fits_91 hs2 C hg h) FU
def f_X8_fits_60 (w : Wd) : Option (Int32 × Wd) := bd (f_X8_error (2:Int32) w) (fun q1 => some (q1.1, q1.2))
set_option maxRecDepth 20000 in
theorem b_X8_fits_60 {G : Gv} {V : Vt} {res : Int32 × Wd}  (C : CX cX8_fits RX8 G SX 6 6 (some FieldType.int) (some (.int res.1)) res.2 V) {w : Wd} (h : f_X8_fits_60 w = some res) : V w 60 [(0, .ref (G.2 0))] [] := by
  unfold f_X8_fits_60 at h
  refine r_aload_n (pc := 60) C dX8_fits_60 rfl 0 rfl ?_
  refine r_iconst (v := (2:Int32)) (pc := 61) C dX8_fits_61 (by decide) ?_
  refine cv_X8_69 (pc := 62) C dX8_fits_62  h (by decide) (Nat.le_of_ble_eq_true rfl) (fun q1 h => ?_)
  exact r_iretE (pc := 65) C dX8_fits_65 h
def f_X8_fits_30 (w : Wd) : Option (Int32 × Wd) := bd (f_X8_error (1:Int32) w) (fun q1 => some (q1.1, q1.2))
set_option maxRecDepth 20000 in
theorem b_X8_fits_30 {G : Gv} {V : Vt} {res : Int32 × Wd}  (C : CX cX8_fits RX8 G SX 6 6 (some FieldType.int) (some (.int res.1)) res.2 V) {w : Wd} (h : f_X8_fits_30 w = some res) : V w 30 [(0, .ref (G.2 0))] [] := by
  unfold f_X8_fits_30 at h
  refine r_aload_n (pc := 30) C dX8_fits_30 rfl 0 rfl ?_
  refine r_iconst (v := (1:Int32)) (pc := 31) C dX8_fits_31 (by decide) ?_
  refine cv_X8_69 (pc := 32) C dX8_fits_32  h (by decide) (Nat.le_of_ble_eq_true rfl) (fun q1 h => ?_)
  exact r_iretE (pc := 35) C dX8_fits_35 h
def f_X8_fits (p1 : Int32) (p2 : Int32) (w : Wd) : Option (Int32 × Wd) := bd (f_X8_sheetAt w p1) (fun q1 => oc q1 isSh (f_X8_fits_30 w) (fun s2 => bd (f_X8_isWithin p2 (-1:Int32) ((w 2 0) - (1:Int32))) (fun q2 => (if ¬ q2 = 0 then bd (f_X5_isMissing s2 w) (fun q3 => (if ¬ q3 = 0 then f_X8_fits_60 w else (if (w s2 1) = (w 2 5) then bd (f_X8_fillWages w) (fun q4 => bd (f_X1_begin 2 (0:Int32) q4) (fun q5 => f_X8_fits_91 s2 p2 (0:Int32) (0:Int32) q5)) else f_X8_fits_60 w))) else f_X8_fits_30 w))))
set_option maxRecDepth 20000 in
theorem b_X8_fits_E {G : Gv} {V : Vt} {res : Int32 × Wd}  (C : CX cX8_fits RX8 G SX 6 6 (some FieldType.int) (some (.int res.1)) res.2 V) {p1 : Int32} {p2 : Int32} {w : Wd} (h : f_X8_fits p1 p2 w = some res) : V w 0 [(0, .ref (G.2 0)), (1, .int p1), (2, .int p2)] [] := by
  unfold f_X8_fits at h
  refine r_aload_n (pc := 0) C dX8_fits_0 rfl 0 rfl ?_
  refine r_iload_n (pc := 1) C dX8_fits_1 rfl 1 rfl ?_
  refine cv_X8_197 (pc := 2) C dX8_fits_2  h (by decide) (Nat.le_of_ble_eq_true rfl) (fun q1 h => ?_)
  refine r_oc (pc := 5) h (fun h => ?_) (fun s2 hs2 h => ?_)
  · refine r_astore_nN (L' := [(3, .null), (0, .ref (G.2 0)), (1, .int p1), (2, .int p2)]) (pc := 5) C dX8_fits_5 rfl (by decide) rfl ?_
    refine r_aload_nN (pc := 6) C dX8_fits_6 rfl 0 rfl ?_
    refine r_ifnullN (pc := 7) C 30 dX8_fits_7 (by decide) ?_
    exact r_sub C [1] rfl (b_X8_fits_30 C h)
  · refine r_astore_n (L' := [(3, .ref (G.2 s2)), (0, .ref (G.2 0)), (1, .int p1), (2, .int p2)]) (pc := 5) C dX8_fits_5 rfl (by decide) rfl ?_
    refine r_aload_n (pc := 6) C dX8_fits_6 rfl 0 rfl ?_
    refine r_ifnull (pc := 7) C dX8_fits_7 ?_
    refine r_iload_n (pc := 10) C dX8_fits_10 rfl 3 rfl ?_
    refine r_iconst (v := (-1:Int32)) (pc := 11) C dX8_fits_11 (by decide) ?_
    refine r_aload_n (pc := 12) C dX8_fits_12 rfl 1 rfl ?_
    refine gr_X8_10 (pc := 13) 1 C dX8_fits_13 kx_0 rfl ?_
    refine gr_X8_73 (pc := 16) 2 C dX8_fits_16 kx_1 rfl ?_
    refine gi_X8_76 (pc := 19) C dX8_fits_19 kx_2 rfl ?_
    refine r_iconst (v := (1:Int32)) (pc := 22) C dX8_fits_22 (by decide) ?_
    refine r_isub (pc := 23) C dX8_fits_23 ?_
    refine cv_X8_65 (pc := 24) C dX8_fits_24  h (by decide) (Nat.le_of_ble_eq_true rfl) (fun q2 h => ?_)
    refine r_if_ne (pc := 27) C 36 dX8_fits_27 (by decide) h (fun h => ?_) (fun h => ?_)
    · refine r_aload_n (pc := 36) C dX8_fits_36 rfl 0 rfl ?_
      refine cv_X8_201 (pc := 37) C dX8_fits_37 hs2 h (by decide) (Nat.le_of_ble_eq_true rfl) (fun q3 h => ?_)
      refine r_if_ne (pc := 40) C 60 dX8_fits_40 (by decide) h (fun h => ?_) (fun h => ?_)
      · exact r_sub C [1] rfl (b_X8_fits_60 C h)
      · refine r_aload_n (pc := 43) C dX8_fits_43 rfl 0 rfl ?_
        refine gi_X8_262 (pc := 44) C dX8_fits_44 (cSh_0 hs2) rfl ?_
        refine r_aload_n (pc := 47) C dX8_fits_47 rfl 1 rfl ?_
        refine gr_X8_10 (pc := 48) 1 C dX8_fits_48 kx_0 rfl ?_
        refine gr_X8_73 (pc := 51) 2 C dX8_fits_51 kx_1 rfl ?_
        refine gi_X8_116 (pc := 54) C dX8_fits_54 kx_2 rfl ?_
        refine r_icmp_eq (pc := 57) C 66 dX8_fits_57 (by decide) h (fun h => ?_) (fun h => ?_)
        · refine r_aload_n (pc := 66) C dX8_fits_66 rfl 1 rfl ?_
          refine cv_X8_269 (pc := 67) C dX8_fits_67  h (by decide) (Nat.le_of_ble_eq_true rfl) (fun q4 h => ?_)
          refine r_iconst (v := (0:Int32)) (pc := 70) C dX8_fits_70 (by decide) ?_
          refine r_istore (L' := [(4, .int (0:Int32)), (3, .ref (G.2 s2)), (0, .ref (G.2 0)), (1, .int p1), (2, .int p2)]) (pc := 71) C dX8_fits_71 (by decide) rfl ?_
          refine r_aload_n (pc := 73) C dX8_fits_73 rfl 2 rfl ?_
          refine gr_X8_29 (pc := 74) 58 C dX8_fits_74 kx_0 rfl ?_
          refine r_aload_n (pc := 77) C dX8_fits_77 rfl 2 rfl ?_
          refine gr_X8_10 (pc := 78) 1 C dX8_fits_78 kx_0 rfl ?_
          refine gr_X8_73 (pc := 81) 2 C dX8_fits_81 kx_1 rfl ?_
          refine r_iconst (v := (0:Int32)) (pc := 84) C dX8_fits_84 (by decide) ?_
          refine cv_X8_241 (pc := 85) C dX8_fits_85 isTr_2 h (by decide) (Nat.le_of_ble_eq_true rfl) (fun q5 h => ?_)
          refine r_iconst (v := (0:Int32)) (pc := 88) C dX8_fits_88 (by decide) ?_
          refine r_istore (L' := [(5, .int (0:Int32)), (4, .int (0:Int32)), (3, .ref (G.2 s2)), (0, .ref (G.2 0)), (1, .int p1), (2, .int p2)]) (pc := 89) C dX8_fits_89 (by decide) rfl ?_
          exact r_sub C [3, 5, 2, 1, 0] rfl (b_X8_fits_91 hs2 C _ _ _ _ h)
        · exact r_sub C [1] rfl (b_X8_fits_60 C h)
    · exact r_sub C [1] rfl (b_X8_fits_30 C h)
theorem c_X8_fits {G : Gv} {p1 : Int32} {p2 : Int32} {w : Wd} {res : Int32 × Wd} (h : f_X8_fits p1 p2 w = some res) (l : Launch) : MC l yX8_fits cX8_fits 6 (some FieldType.int) 6 G SX w [.ref (G.2 0), .int p1, .int p2] (some (.int res.1)) res.2 := mc_of (by decide +kernel) rfl (Nat.le_of_ble_eq_true rfl) rfl (fun V C => b_X8_fits_E C h) l
def f_X8_spare (p1 : Int32) (w : Wd) : Option (Int32 × Wd) := bd (f_X6_allParts 2 w) (fun q1 => bd (f_X8_isWithin p1 (0:Int32) q1) (fun q2 => (if ¬ q2 = 0 then (if (w 2 5) < (6:Int32) then bd (f_X8_think w) (fun q3 => bd (f_X8_playFirsts 49 (60:Int32) q3) (fun q4 => bd (f_X8_think q4.2) (fun q5 => bd (f_X6_addPlayer 49 (-1:Int32) p1 q5) (fun q6 => bd (f_X8_playFirsts 49 (60:Int32) q6.2) (fun q7 => some ((q7.1 - q4.1), q7.2)))))) else bd (f_X8_error (4:Int32) w) (fun q8 => some (q8.1, q8.2))) else bd (f_X8_error (1:Int32) w) (fun q9 => some (q9.1, q9.2)))))
set_option maxRecDepth 20000 in
theorem b_X8_spare_E {G : Gv} {V : Vt} {res : Int32 × Wd}  (C : CX cX8_spare RX8 G SX 4 7 (some FieldType.int) (some (.int res.1)) res.2 V) {p1 : Int32} {w : Wd} (h : f_X8_spare p1 w = some res) : V w 0 [(0, .ref (G.2 0)), (1, .int p1)] [] := by
  unfold f_X8_spare at h
  refine r_iload_n (pc := 0) C dX8_spare_0 rfl 1 rfl ?_
  refine r_iconst (v := (0:Int32)) (pc := 1) C dX8_spare_1 (by decide) ?_
  refine r_aload_n (pc := 2) C dX8_spare_2 rfl 0 rfl ?_
  refine gr_X8_10 (pc := 3) 1 C dX8_spare_3 kx_0 rfl ?_
  refine gr_X8_73 (pc := 6) 2 C dX8_spare_6 kx_1 rfl ?_
  refine cv_X8_143 (pc := 9) C dX8_spare_9 isTr_2 h (by decide) (Nat.le_of_ble_eq_true rfl) (fun q1 h => ?_)
  refine cv_X8_65 (pc := 12) C dX8_spare_12  h (by decide) (Nat.le_of_ble_eq_true rfl) (fun q2 h => ?_)
  refine r_if_ne (pc := 15) C 24 dX8_spare_15 (by decide) h (fun h => ?_) (fun h => ?_)
  · refine r_aload_n (pc := 24) C dX8_spare_24 rfl 0 rfl ?_
    refine gr_X8_10 (pc := 25) 1 C dX8_spare_25 kx_0 rfl ?_
    refine gr_X8_73 (pc := 28) 2 C dX8_spare_28 kx_1 rfl ?_
    refine gi_X8_116 (pc := 31) C dX8_spare_31 kx_2 rfl ?_
    refine r_bipush (v := (6:Int32)) (pc := 34) C dX8_spare_34 (by decide) ?_
    refine r_icmp_lt (pc := 36) C 45 dX8_spare_36 (by decide) h (fun h => ?_) (fun h => ?_)
    · refine r_aload_n (pc := 45) C dX8_spare_45 rfl 0 rfl ?_
      refine r_aload_n (pc := 46) C dX8_spare_46 rfl 0 rfl ?_
      refine cv_X8_252 (pc := 47) C dX8_spare_47  h (by decide) (Nat.le_of_ble_eq_true rfl) (fun q3 h => ?_)
      refine r_bipush (v := (60:Int32)) (pc := 50) C dX8_spare_50 (by decide) ?_
      refine cv_X8_231 (pc := 52) C dX8_spare_52 isTr_49 h (by decide) (Nat.le_of_ble_eq_true rfl) (fun q4 h => ?_)
      refine r_istore_n (L' := [(2, .int q4.1), (0, .ref (G.2 0)), (1, .int p1)]) (pc := 55) C dX8_spare_55 rfl (by decide) rfl ?_
      refine r_aload_n (pc := 56) C dX8_spare_56 rfl 1 rfl ?_
      refine cv_X8_252 (pc := 57) C dX8_spare_57  h (by decide) (Nat.le_of_ble_eq_true rfl) (fun q5 h => ?_)
      refine r_astore_n (L' := [(3, .ref (G.2 49)), (2, .int q4.1), (0, .ref (G.2 0)), (1, .int p1)]) (pc := 60) C dX8_spare_60 rfl (by decide) rfl ?_
      refine r_aload_n (pc := 61) C dX8_spare_61 rfl 0 rfl ?_
      refine r_iconst (v := (-1:Int32)) (pc := 62) C dX8_spare_62 (by decide) ?_
      refine r_iload_n (pc := 63) C dX8_spare_63 rfl 3 rfl ?_
      refine cv_X8_119 (pc := 64) C dX8_spare_64 isTr_49 h (by decide) (Nat.le_of_ble_eq_true rfl) (fun q6 h => ?_)
      refine r_pop (pc := 67) C dX8_spare_67 rfl ?_
      refine r_aload_n (pc := 68) C dX8_spare_68 rfl 2 rfl ?_
      refine r_aload_n (pc := 69) C dX8_spare_69 rfl 0 rfl ?_
      refine r_bipush (v := (60:Int32)) (pc := 70) C dX8_spare_70 (by decide) ?_
      refine cv_X8_231 (pc := 72) C dX8_spare_72 isTr_49 h (by decide) (Nat.le_of_ble_eq_true rfl) (fun q7 h => ?_)
      refine r_iload_n (pc := 75) C dX8_spare_75 rfl 1 rfl ?_
      refine r_isub (pc := 76) C dX8_spare_76 ?_
      exact r_iretE (pc := 77) C dX8_spare_77 h
    · refine r_aload_n (pc := 39) C dX8_spare_39 rfl 0 rfl ?_
      refine r_iconst (v := (4:Int32)) (pc := 40) C dX8_spare_40 (by decide) ?_
      refine cv_X8_69 (pc := 41) C dX8_spare_41  h (by decide) (Nat.le_of_ble_eq_true rfl) (fun q8 h => ?_)
      exact r_iretE (pc := 44) C dX8_spare_44 h
  · refine r_aload_n (pc := 18) C dX8_spare_18 rfl 0 rfl ?_
    refine r_iconst (v := (1:Int32)) (pc := 19) C dX8_spare_19 (by decide) ?_
    refine cv_X8_69 (pc := 20) C dX8_spare_20  h (by decide) (Nat.le_of_ble_eq_true rfl) (fun q9 h => ?_)
    exact r_iretE (pc := 23) C dX8_spare_23 h
theorem c_X8_spare {G : Gv} {p1 : Int32} {w : Wd} {res : Int32 × Wd} (h : f_X8_spare p1 w = some res) (l : Launch) : MC l yX8_spare cX8_spare 4 (some FieldType.int) 7 G SX w [.ref (G.2 0), .int p1] (some (.int res.1)) res.2 := mc_of (by decide +kernel) rfl (Nat.le_of_ble_eq_true rfl) rfl (fun V C => b_X8_spare_E C h) l
def f_X8_seed (p1 : Int32) (w : Wd) : Option (Int32 × Wd) := lv (w 1 5) (fun v1 => wl (updW w 1 5 p1) (fun w2 => some (v1, w2)))
set_option maxRecDepth 20000 in
theorem b_X8_seed_E {G : Gv} {V : Vt} {res : Int32 × Wd}  (C : CX cX8_seed RX8 G SX 3 1 (some FieldType.int) (some (.int res.1)) res.2 V) {p1 : Int32} {w : Wd} (h : f_X8_seed p1 w = some res) : V w 0 [(0, .ref (G.2 0)), (1, .int p1)] [] := by
  unfold f_X8_seed at h
  refine r_aload_n (pc := 0) C dX8_seed_0 rfl 0 rfl ?_
  refine gr_X8_10 (pc := 1) 1 C dX8_seed_1 kx_0 rfl ?_
  refine gi_X8_276 (pc := 4) C dX8_seed_4 kx_1 rfl ?_
  refine r_lv h (fun v1 h => ?_)
  refine r_istore_n (L' := [(2, .int v1), (0, .ref (G.2 0)), (1, .int p1)]) (pc := 7) C dX8_seed_7 rfl (by decide) rfl ?_
  refine r_aload_n (pc := 8) C dX8_seed_8 rfl 1 rfl ?_
  refine gr_X8_10 (pc := 9) 1 C dX8_seed_9 kx_0 rfl ?_
  refine r_iload_n (pc := 12) C dX8_seed_12 rfl 2 rfl ?_
  refine pi_X8_276 (pc := 13) C dX8_seed_13 kx_1 rfl h (fun w2 h => ?_)
  refine r_iload_n (pc := 16) C dX8_seed_16 rfl 0 rfl ?_
  exact r_iretE (pc := 17) C dX8_seed_17 h
theorem c_X8_seed {G : Gv} {p1 : Int32} {w : Wd} {res : Int32 × Wd} (h : f_X8_seed p1 w = some res) (l : Launch) : MC l yX8_seed cX8_seed 3 (some FieldType.int) 1 G SX w [.ref (G.2 0), .int p1] (some (.int res.1)) res.2 := mc_of (by decide +kernel) rfl (Nat.le_of_ble_eq_true rfl) rfl (fun V C => b_X8_seed_E C h) l
theorem cv_X8_279 {cc : ByteArray} {G : Gv} {n hc : Nat} {rt : Option FieldType} {rv : Option Value} {w0 : Wd} {V : Vt} {w : Wd} {pc : Nat} {L : List (Nat × Value)} {rest : List Value} {α : Type} {res : α} {p1 : Int32} {p2 : Int32} {p3 : Int32} {p4 : Int32} {p5 : Int32} {K : Int32 × Wd → Option α} (C : CX cc RX8 G SX n hc rt rv w0 V) (hd : decode cc pc = .ok (.invokevirtual 279, 3)) (h : bd (f_X7_raise p1 p2 p3 p4 p5 w) K = some res) (hR : 103 + 1 ≤ hc) (hr : (rest.map fun v => v.category).sum ≤ 8) (kk : ∀ q, K q = some res → V q.2 (pc + 3) L (.int q.1 :: rest)) : V w pc L (.int p5 :: .int p4 :: .int p3 :: .int p2 :: .int p1 :: .ref (G.2 67) :: rest) := r_callV (As := [.int p1, .int p2, .int p3, .int p4, .int p5]) (rest := rest) (rvf := fun q => (some (.int q.1))) (wf := fun q => q.2) C hd h ql_X8_279 qi_X7_raise qs_X7_raise qn_X7 qc_X7_raise ⟨rfl, by decide +kernel, by decide +kernel, (by decide +kernel : (parseMethodDescriptor yX7_raise.desc).map (fun d => d.parameters.length) = some 5)⟩ ⟨hR, by decide⟩ kx_67 rfl (fun q hq l => c_X7_raise hq l) rfl hr kk
def f_X8_voice_23 (w : Wd) : Option (Int32 × Wd) := bd (f_X8_error (1:Int32) w) (fun q1 => some (q1.1, q1.2))
set_option maxRecDepth 20000 in
theorem b_X8_voice_23 {G : Gv} {V : Vt} {res : Int32 × Wd}  (C : CX cX8_voice RX8 G SX 4 104 (some FieldType.int) (some (.int res.1)) res.2 V) {w : Wd} (h : f_X8_voice_23 w = some res) : V w 23 [(0, .ref (G.2 0))] [] := by
  unfold f_X8_voice_23 at h
  refine r_aload_n (pc := 23) C dX8_voice_23 rfl 0 rfl ?_
  refine r_iconst (v := (1:Int32)) (pc := 24) C dX8_voice_24 (by decide) ?_
  refine cv_X8_69 (pc := 25) C dX8_voice_25  h (by decide) (Nat.le_of_ble_eq_true rfl) (fun q1 h => ?_)
  exact r_iretE (pc := 28) C dX8_voice_28 h
def f_X8_voice (p1 : Int32) (p2 : Int32) (p3 : Int32) (w : Wd) : Option (Int32 × Wd) := bd (f_X6_hasPart 2 w p1) (fun q1 => (if q1 = 0 then f_X8_voice_23 w else bd (f_X8_isWithin p2 (0:Int32) (3:Int32)) (fun q2 => (if ¬ q2 = 0 then ald w 3 5 p1 (fun v3 => ald w 4 5 p1 (fun v4 => bd (f_X7_raise v3 p1 v4 p2 p3 w) (fun q5 => some (q5.1, q5.2)))) else f_X8_voice_23 w))))
set_option maxRecDepth 20000 in
theorem b_X8_voice_E {G : Gv} {V : Vt} {res : Int32 × Wd}  (C : CX cX8_voice RX8 G SX 4 104 (some FieldType.int) (some (.int res.1)) res.2 V) {p1 : Int32} {p2 : Int32} {p3 : Int32} {w : Wd} (h : f_X8_voice p1 p2 p3 w = some res) : V w 0 [(0, .ref (G.2 0)), (1, .int p1), (2, .int p2), (3, .int p3)] [] := by
  unfold f_X8_voice at h
  refine r_aload_n (pc := 0) C dX8_voice_0 rfl 0 rfl ?_
  refine gr_X8_10 (pc := 1) 1 C dX8_voice_1 kx_0 rfl ?_
  refine gr_X8_73 (pc := 4) 2 C dX8_voice_4 kx_1 rfl ?_
  refine r_iload_n (pc := 7) C dX8_voice_7 rfl 1 rfl ?_
  refine cv_X8_84 (pc := 8) C dX8_voice_8 isTr_2 h (by decide) (Nat.le_of_ble_eq_true rfl) (fun q1 h => ?_)
  refine r_if_eq (pc := 11) C 23 dX8_voice_11 (by decide) h (fun h => ?_) (fun h => ?_)
  · exact r_sub C [0] rfl (b_X8_voice_23 C h)
  · refine r_iload_n (pc := 14) C dX8_voice_14 rfl 2 rfl ?_
    refine r_iconst (v := (0:Int32)) (pc := 15) C dX8_voice_15 (by decide) ?_
    refine r_iconst (v := (3:Int32)) (pc := 16) C dX8_voice_16 (by decide) ?_
    refine cv_X8_65 (pc := 17) C dX8_voice_17  h (by decide) (Nat.le_of_ble_eq_true rfl) (fun q2 h => ?_)
    refine r_if_ne (pc := 20) C 29 dX8_voice_20 (by decide) h (fun h => ?_) (fun h => ?_)
    · refine r_aload_n (pc := 29) C dX8_voice_29 rfl 0 rfl ?_
      refine gr_X8_43 (pc := 30) 67 C dX8_voice_30 kx_0 rfl ?_
      refine r_aload_n (pc := 33) C dX8_voice_33 rfl 0 rfl ?_
      refine gr_X8_10 (pc := 34) 1 C dX8_voice_34 kx_0 rfl ?_
      refine gr_X8_73 (pc := 37) 2 C dX8_voice_37 kx_1 rfl ?_
      refine gr_X8_87 (pc := 40) 3 C dX8_voice_40 kx_2 rfl ?_
      refine r_iload_n (pc := 43) C dX8_voice_43 rfl 1 rfl ?_
      refine r_ald (pc := 44) C dX8_voice_44 h kx_3 (fun v3 h => ?_)
      refine r_iload_n (pc := 45) C dX8_voice_45 rfl 1 rfl ?_
      refine r_aload_n (pc := 46) C dX8_voice_46 rfl 0 rfl ?_
      refine gr_X8_10 (pc := 47) 1 C dX8_voice_47 kx_0 rfl ?_
      refine gr_X8_73 (pc := 50) 2 C dX8_voice_50 kx_1 rfl ?_
      refine gr_X8_90 (pc := 53) 4 C dX8_voice_53 kx_2 rfl ?_
      refine r_iload_n (pc := 56) C dX8_voice_56 rfl 1 rfl ?_
      refine r_ald (pc := 57) C dX8_voice_57 h kx_4 (fun v4 h => ?_)
      refine r_iload_n (pc := 58) C dX8_voice_58 rfl 2 rfl ?_
      refine r_iload_n (pc := 59) C dX8_voice_59 rfl 3 rfl ?_
      refine cv_X8_279 (pc := 60) C dX8_voice_60  h (by decide) (Nat.le_of_ble_eq_true rfl) (fun q5 h => ?_)
      exact r_iretE (pc := 63) C dX8_voice_63 h
    · exact r_sub C [0] rfl (b_X8_voice_23 C h)
theorem c_X8_voice {G : Gv} {p1 : Int32} {p2 : Int32} {p3 : Int32} {w : Wd} {res : Int32 × Wd} (h : f_X8_voice p1 p2 p3 w = some res) (l : Launch) : MC l yX8_voice cX8_voice 4 (some FieldType.int) 104 G SX w [.ref (G.2 0), .int p1, .int p2, .int p3] (some (.int res.1)) res.2 := mc_of (by decide +kernel) rfl (Nat.le_of_ble_eq_true rfl) rfl (fun V C => b_X8_voice_E C h) l
def f_X8_trace (p1 : Int32) (w : Wd) : Option (Int32 × Wd) := bd (f_X8_isWithin p1 (0:Int32) ((w 68 1) - (1:Int32))) (fun q1 => (if ¬ q1 = 0 then ald w 69 40 p1 (fun v2 => some (v2, w)) else bd (f_X8_error (2:Int32) w) (fun q3 => some (q3.1, q3.2))))
set_option maxRecDepth 20000 in
theorem b_X8_trace_E {G : Gv} {V : Vt} {res : Int32 × Wd}  (C : CX cX8_trace RX8 G SX 2 2 (some FieldType.int) (some (.int res.1)) res.2 V) {p1 : Int32} {w : Wd} (h : f_X8_trace p1 w = some res) : V w 0 [(0, .ref (G.2 0)), (1, .int p1)] [] := by
  unfold f_X8_trace at h
  refine r_iload_n (pc := 0) C dX8_trace_0 rfl 1 rfl ?_
  refine r_iconst (v := (0:Int32)) (pc := 1) C dX8_trace_1 (by decide) ?_
  refine r_aload_n (pc := 2) C dX8_trace_2 rfl 0 rfl ?_
  refine gr_X8_43 (pc := 3) 67 C dX8_trace_3 kx_0 rfl ?_
  refine gr_X8_283 (pc := 6) 68 C dX8_trace_6 kx_67 rfl ?_
  refine gi_X8_161 (pc := 9) C dX8_trace_9 kx_68 rfl ?_
  refine r_iconst (v := (1:Int32)) (pc := 12) C dX8_trace_12 (by decide) ?_
  refine r_isub (pc := 13) C dX8_trace_13 ?_
  refine cv_X8_65 (pc := 14) C dX8_trace_14  h (by decide) (Nat.le_of_ble_eq_true rfl) (fun q1 h => ?_)
  refine r_if_ne (pc := 17) C 26 dX8_trace_17 (by decide) h (fun h => ?_) (fun h => ?_)
  · refine r_aload_n (pc := 26) C dX8_trace_26 rfl 0 rfl ?_
    refine gr_X8_43 (pc := 27) 67 C dX8_trace_27 kx_0 rfl ?_
    refine gr_X8_283 (pc := 30) 68 C dX8_trace_30 kx_67 rfl ?_
    refine gr_X8_286 (pc := 33) 69 C dX8_trace_33 kx_68 rfl ?_
    refine r_iload_n (pc := 36) C dX8_trace_36 rfl 1 rfl ?_
    refine r_ald (pc := 37) C dX8_trace_37 h kx_69 (fun v2 h => ?_)
    exact r_iretE (pc := 38) C dX8_trace_38 h
  · refine r_aload_n (pc := 20) C dX8_trace_20 rfl 0 rfl ?_
    refine r_iconst (v := (2:Int32)) (pc := 21) C dX8_trace_21 (by decide) ?_
    refine cv_X8_69 (pc := 22) C dX8_trace_22  h (by decide) (Nat.le_of_ble_eq_true rfl) (fun q3 h => ?_)
    exact r_iretE (pc := 25) C dX8_trace_25 h
theorem c_X8_trace {G : Gv} {p1 : Int32} {w : Wd} {res : Int32 × Wd} (h : f_X8_trace p1 w = some res) (l : Launch) : MC l yX8_trace cX8_trace 2 (some FieldType.int) 2 G SX w [.ref (G.2 0), .int p1] (some (.int res.1)) res.2 := mc_of (by decide +kernel) rfl (Nat.le_of_ble_eq_true rfl) rfl (fun V C => b_X8_trace_E C h) l
theorem cv_X8_289 {cc : ByteArray} {G : Gv} {n hc : Nat} {rt : Option FieldType} {rv : Option Value} {w0 : Wd} {V : Vt} {w : Wd} {pc : Nat} {L : List (Nat × Value)} {rest : List Value} {α : Type} {res : α} {b0 : Nat} {p1 : Int32} {p2 : Int32} {K : Wd → Option α} (C : CX cc RX8 G SX n hc rt rv w0 V) (hd : decode cc pc = .ok (.invokevirtual 289, 3)) (hb0 : isSh b0 = true) (h : bd (f_X5_renew b0 p1 p2 w) K = some res) (hR : 1 + 1 ≤ hc) (hr : (rest.map fun v => v.category).sum ≤ 8) (kk : ∀ q, K q = some res → V q (pc + 3) L (rest)) : V w pc L (.int p2 :: .int p1 :: .ref (G.2 b0) :: rest) := r_callV (As := [.int p1, .int p2]) (rest := rest) (rvf := fun q => none) (wf := fun q => q) C hd h ql_X8_289 qi_X5_renew qs_X5_renew qn_X5 qc_X5_renew ⟨rfl, by decide +kernel, by decide +kernel, (by decide +kernel : (parseMethodDescriptor yX5_renew.desc).map (fun d => d.parameters.length) = some 2)⟩ ⟨hR, by decide⟩ (cSh_0 hb0) rfl (fun q hq l => c_X5_renew hb0 hq l) rfl hr kk
def f_X8_sheet_82 (s2 : Nat) (t0 : Int32) (t1 : Int32) (w : Wd) : Option (Int32 × Wd) := bd (f_X5_renew s2 t1 t0 w) (fun q1 => some ((1:Int32), q1))
set_option maxRecDepth 20000 in
theorem b_X8_sheet_82 {G : Gv} {V : Vt} {s2 : Nat} {res : Int32 × Wd} (hs2 : isSh s2 = true)  (C : CX cX8_sheet RX8 G SX 5 3 (some FieldType.int) (some (.int res.1)) res.2 V) {t0 : Int32} {t1 : Int32} {w : Wd} (h : f_X8_sheet_82 s2 t0 t1 w = some res) : V w 82 [] [.int t0, .int t1, .ref (G.2 s2)] := by
  unfold f_X8_sheet_82 at h
  refine cv_X8_289 (pc := 82) C dX8_sheet_82 hs2 h (by decide) (Nat.le_of_ble_eq_true rfl) (fun q1 h => ?_)
  refine r_iconst (v := (1:Int32)) (pc := 85) C dX8_sheet_85 (by decide) ?_
  exact r_iretE (pc := 86) C dX8_sheet_86 h
def f_X8_sheet_70 (s2 : Nat) (x2 : Int32) (x3 : Int32) (w : Wd) : Option (Int32 × Wd) := (if ¬ x2 = 0 then f_X8_sheet_82 s2 x3 x2 w else f_X8_sheet_82 s2 (0:Int32) x2 w)
set_option maxRecDepth 20000 in
theorem b_X8_sheet_70 {G : Gv} {V : Vt} {s2 : Nat} {res : Int32 × Wd} (hs2 : isSh s2 = true)  (C : CX cX8_sheet RX8 G SX 5 3 (some FieldType.int) (some (.int res.1)) res.2 V) {x2 : Int32} {x3 : Int32} {w : Wd} (h : f_X8_sheet_70 s2 x2 x3 w = some res) : V w 70 [(2, .int x2), (3, .int x3), (4, .ref (G.2 s2))] [] := by
  unfold f_X8_sheet_70 at h
  refine r_aload (pc := 70) C dX8_sheet_70 2 rfl ?_
  refine r_iload_n (pc := 72) C dX8_sheet_72 rfl 0 rfl ?_
  refine r_iload_n (pc := 73) C dX8_sheet_73 rfl 0 rfl ?_
  refine r_if_ne (pc := 74) C 81 dX8_sheet_74 (by decide) h (fun h => ?_) (fun h => ?_)
  · refine r_iload_n (pc := 81) C dX8_sheet_81 rfl 1 rfl ?_
    exact r_sub C [] rfl (b_X8_sheet_82 hs2 C h)
  · refine r_iconst (v := (0:Int32)) (pc := 77) C dX8_sheet_77 (by decide) ?_
    refine r_goto (pc := 78) C 82 dX8_sheet_78 (by decide) ?_
    exact r_sub C [] rfl (b_X8_sheet_82 hs2 C h)
def f_X8_sheet_54 (s2 : Nat) (x2 : Int32) (x3 : Int32) (w : Wd) : Option (Int32 × Wd) := (if x2 = 0 then f_X8_sheet_70 s2 x2 x3 w else (if x3 ≤ (40:Int32) then f_X8_sheet_70 s2 x2 x3 w else bd (f_X8_error (1:Int32) w) (fun q1 => some (q1.1, q1.2))))
set_option maxRecDepth 20000 in
theorem b_X8_sheet_54 {G : Gv} {V : Vt} {s2 : Nat} {res : Int32 × Wd} (hs2 : isSh s2 = true)  (C : CX cX8_sheet RX8 G SX 5 3 (some FieldType.int) (some (.int res.1)) res.2 V) {x2 : Int32} {x3 : Int32} {w : Wd} (h : f_X8_sheet_54 s2 x2 x3 w = some res) : V w 54 [(0, .ref (G.2 0)), (2, .int x2), (3, .int x3), (4, .ref (G.2 s2))] [] := by
  unfold f_X8_sheet_54 at h
  refine r_iload_n (pc := 54) C dX8_sheet_54 rfl 1 rfl ?_
  refine r_if_eq (pc := 55) C 70 dX8_sheet_55 (by decide) h (fun h => ?_) (fun h => ?_)
  · exact r_sub C [1, 2, 3] rfl (b_X8_sheet_70 hs2 C h)
  · refine r_iload_n (pc := 58) C dX8_sheet_58 rfl 2 rfl ?_
    refine r_bipush (v := (40:Int32)) (pc := 59) C dX8_sheet_59 (by decide) ?_
    refine r_icmp_le (pc := 61) C 70 dX8_sheet_61 (by decide) h (fun h => ?_) (fun h => ?_)
    · exact r_sub C [1, 2, 3] rfl (b_X8_sheet_70 hs2 C h)
    · refine r_aload_n (pc := 64) C dX8_sheet_64 rfl 0 rfl ?_
      refine r_iconst (v := (1:Int32)) (pc := 65) C dX8_sheet_65 (by decide) ?_
      refine cv_X8_69 (pc := 66) C dX8_sheet_66  h (by decide) (Nat.le_of_ble_eq_true rfl) (fun q1 h => ?_)
      exact r_iretE (pc := 69) C dX8_sheet_69 h
def f_X8_sheet_40 (s2 : Nat) (x2 : Int32) (x3 : Int32) (w : Wd) : Option (Int32 × Wd) := (if x2 = 0 then f_X8_sheet_54 s2 x2 x3 w else (if 0 ≤ x3 then f_X8_sheet_54 s2 x2 x3 w else bd (f_X8_error (3:Int32) w) (fun q1 => some (q1.1, q1.2))))
set_option maxRecDepth 20000 in
theorem b_X8_sheet_40 {G : Gv} {V : Vt} {s2 : Nat} {res : Int32 × Wd} (hs2 : isSh s2 = true)  (C : CX cX8_sheet RX8 G SX 5 3 (some FieldType.int) (some (.int res.1)) res.2 V) {x2 : Int32} {x3 : Int32} {w : Wd} (h : f_X8_sheet_40 s2 x2 x3 w = some res) : V w 40 [(0, .ref (G.2 0)), (2, .int x2), (3, .int x3), (4, .ref (G.2 s2))] [] := by
  unfold f_X8_sheet_40 at h
  refine r_iload_n (pc := 40) C dX8_sheet_40 rfl 1 rfl ?_
  refine r_if_eq (pc := 41) C 54 dX8_sheet_41 (by decide) h (fun h => ?_) (fun h => ?_)
  · exact r_sub C [0, 1, 2, 3] rfl (b_X8_sheet_54 hs2 C h)
  · refine r_iload_n (pc := 44) C dX8_sheet_44 rfl 2 rfl ?_
    refine r_if_ge (pc := 45) C 54 dX8_sheet_45 (by decide) h (fun h => ?_) (fun h => ?_)
    · exact r_sub C [0, 1, 2, 3] rfl (b_X8_sheet_54 hs2 C h)
    · refine r_aload_n (pc := 48) C dX8_sheet_48 rfl 0 rfl ?_
      refine r_iconst (v := (3:Int32)) (pc := 49) C dX8_sheet_49 (by decide) ?_
      refine cv_X8_69 (pc := 50) C dX8_sheet_50  h (by decide) (Nat.le_of_ble_eq_true rfl) (fun q1 h => ?_)
      exact r_iretE (pc := 53) C dX8_sheet_53 h
def f_X8_sheet_34 (w : Wd) : Option (Int32 × Wd) := bd (f_X8_error (1:Int32) w) (fun q1 => some (q1.1, q1.2))
set_option maxRecDepth 20000 in
theorem b_X8_sheet_34 {G : Gv} {V : Vt} {res : Int32 × Wd}  (C : CX cX8_sheet RX8 G SX 5 3 (some FieldType.int) (some (.int res.1)) res.2 V) {w : Wd} (h : f_X8_sheet_34 w = some res) : V w 34 [(0, .ref (G.2 0))] [] := by
  unfold f_X8_sheet_34 at h
  refine r_aload_n (pc := 34) C dX8_sheet_34 rfl 0 rfl ?_
  refine r_iconst (v := (1:Int32)) (pc := 35) C dX8_sheet_35 (by decide) ?_
  refine cv_X8_69 (pc := 36) C dX8_sheet_36  h (by decide) (Nat.le_of_ble_eq_true rfl) (fun q1 h => ?_)
  exact r_iretE (pc := 39) C dX8_sheet_39 h
def f_X8_sheet (p1 : Int32) (p2 : Int32) (p3 : Int32) (w : Wd) : Option (Int32 × Wd) := bd (f_X8_sheetAt w p1) (fun q1 => oc q1 isSh (f_X8_sheet_34 w) (fun s2 => (if p2 = 0 then f_X8_sheet_40 s2 p2 p3 w else (if p2 = (8:Int32) then f_X8_sheet_40 s2 p2 p3 w else (if p2 = (16:Int32) then f_X8_sheet_40 s2 p2 p3 w else (if p2 = (32:Int32) then f_X8_sheet_40 s2 p2 p3 w else f_X8_sheet_34 w))))))
set_option maxRecDepth 20000 in
theorem b_X8_sheet_E {G : Gv} {V : Vt} {res : Int32 × Wd}  (C : CX cX8_sheet RX8 G SX 5 3 (some FieldType.int) (some (.int res.1)) res.2 V) {p1 : Int32} {p2 : Int32} {p3 : Int32} {w : Wd} (h : f_X8_sheet p1 p2 p3 w = some res) : V w 0 [(0, .ref (G.2 0)), (1, .int p1), (2, .int p2), (3, .int p3)] [] := by
  unfold f_X8_sheet at h
  refine r_aload_n (pc := 0) C dX8_sheet_0 rfl 0 rfl ?_
  refine r_iload_n (pc := 1) C dX8_sheet_1 rfl 1 rfl ?_
  refine cv_X8_197 (pc := 2) C dX8_sheet_2  h (by decide) (Nat.le_of_ble_eq_true rfl) (fun q1 h => ?_)
  refine r_oc (pc := 5) h (fun h => ?_) (fun s2 hs2 h => ?_)
  · refine r_astoreN (L' := [(4, .null), (0, .ref (G.2 0)), (1, .int p1), (2, .int p2), (3, .int p3)]) (pc := 5) C dX8_sheet_5 (by decide) rfl ?_
    refine r_aloadN (pc := 7) C dX8_sheet_7 0 rfl ?_
    refine r_ifnullN (pc := 9) C 34 dX8_sheet_9 (by decide) ?_
    exact r_sub C [1] rfl (b_X8_sheet_34 C h)
  · refine r_astore (L' := [(4, .ref (G.2 s2)), (0, .ref (G.2 0)), (1, .int p1), (2, .int p2), (3, .int p3)]) (pc := 5) C dX8_sheet_5 (by decide) rfl ?_
    refine r_aload (pc := 7) C dX8_sheet_7 0 rfl ?_
    refine r_ifnull (pc := 9) C dX8_sheet_9 ?_
    refine r_iload_n (pc := 12) C dX8_sheet_12 rfl 3 rfl ?_
    refine r_if_eq (pc := 13) C 40 dX8_sheet_13 (by decide) h (fun h => ?_) (fun h => ?_)
    · exact r_sub C [1, 3, 4, 0] rfl (b_X8_sheet_40 hs2 C h)
    · refine r_iload_n (pc := 16) C dX8_sheet_16 rfl 3 rfl ?_
      refine r_bipush (v := (8:Int32)) (pc := 17) C dX8_sheet_17 (by decide) ?_
      refine r_icmp_eq (pc := 19) C 40 dX8_sheet_19 (by decide) h (fun h => ?_) (fun h => ?_)
      · exact r_sub C [1, 3, 4, 0] rfl (b_X8_sheet_40 hs2 C h)
      · refine r_iload_n (pc := 22) C dX8_sheet_22 rfl 3 rfl ?_
        refine r_bipush (v := (16:Int32)) (pc := 23) C dX8_sheet_23 (by decide) ?_
        refine r_icmp_eq (pc := 25) C 40 dX8_sheet_25 (by decide) h (fun h => ?_) (fun h => ?_)
        · exact r_sub C [1, 3, 4, 0] rfl (b_X8_sheet_40 hs2 C h)
        · refine r_iload_n (pc := 28) C dX8_sheet_28 rfl 3 rfl ?_
          refine r_bipush (v := (32:Int32)) (pc := 29) C dX8_sheet_29 (by decide) ?_
          refine r_icmp_eq (pc := 31) C 40 dX8_sheet_31 (by decide) h (fun h => ?_) (fun h => ?_)
          · exact r_sub C [1, 3, 4, 0] rfl (b_X8_sheet_40 hs2 C h)
          · exact r_sub C [1] rfl (b_X8_sheet_34 C h)
theorem c_X8_sheet {G : Gv} {p1 : Int32} {p2 : Int32} {p3 : Int32} {w : Wd} {res : Int32 × Wd} (h : f_X8_sheet p1 p2 p3 w = some res) (l : Launch) : MC l yX8_sheet cX8_sheet 5 (some FieldType.int) 3 G SX w [.ref (G.2 0), .int p1, .int p2, .int p3] (some (.int res.1)) res.2 := mc_of (by decide +kernel) rfl (Nat.le_of_ble_eq_true rfl) rfl (fun V C => b_X8_sheet_E C h) l
theorem cv_X8_292 {cc : ByteArray} {G : Gv} {n hc : Nat} {rt : Option FieldType} {rv : Option Value} {w0 : Wd} {V : Vt} {w : Wd} {pc : Nat} {L : List (Nat × Value)} {rest : List Value} {α : Type} {res : α} {b0 : Nat} {p1 : Int32} {K : Int32 → Option α} (C : CX cc RX8 G SX n hc rt rv w0 V) (hd : decode cc pc = .ok (.invokevirtual 292, 3)) (hb0 : isSh b0 = true) (h : bd (f_X5_lowest b0 w p1) K = some res) (hR : 1 + 1 ≤ hc) (hr : (rest.map fun v => v.category).sum ≤ 8) (kk : ∀ q, K q = some res → V w (pc + 3) L (.int q :: rest)) : V w pc L (.int p1 :: .ref (G.2 b0) :: rest) := r_callV (As := [.int p1]) (rest := rest) (rvf := fun q => (some (.int q))) (wf := fun q => w) C hd h ql_X8_292 qi_X5_lowest qs_X5_lowest qn_X5 qc_X5_lowest ⟨rfl, by decide +kernel, by decide +kernel, (by decide +kernel : (parseMethodDescriptor yX5_lowest.desc).map (fun d => d.parameters.length) = some 1)⟩ ⟨hR, by decide⟩ (cSh_0 hb0) rfl (fun q hq l => c_X5_lowest hb0 hq l) rfl hr kk
def f_X8_put (p1 : Int32) (p2 : Int32) (p3 : Int32) (w : Wd) : Option (Int32 × Wd) := bd (f_X8_sheetAt w p1) (fun q1 => oc q1 isSh (bd (f_X8_error (1:Int32) w) (fun q2 => some (q2.1, q2.2))) (fun s2 => bd (f_X5_isMissing s2 w) (fun q3 => (if q3 = 0 then bd (f_X8_isWithin p2 (0:Int32) ((w s2 1) - (1:Int32))) (fun q4 => (if ¬ q4 = 0 then bd (f_X5_lowest s2 w p3) (fun q5 => ast w (s2 + 1) 40 p2 q5 (fun w6 => some ((1:Int32), w6))) else bd (f_X8_error (1:Int32) w) (fun q7 => some (q7.1, q7.2)))) else bd (f_X8_error (2:Int32) w) (fun q8 => some (q8.1, q8.2))))))
set_option maxRecDepth 20000 in
theorem b_X8_put_E {G : Gv} {V : Vt} {res : Int32 × Wd}  (C : CX cX8_put RX8 G SX 5 3 (some FieldType.int) (some (.int res.1)) res.2 V) {p1 : Int32} {p2 : Int32} {p3 : Int32} {w : Wd} (h : f_X8_put p1 p2 p3 w = some res) : V w 0 [(0, .ref (G.2 0)), (1, .int p1), (2, .int p2), (3, .int p3)] [] := by
  unfold f_X8_put at h
  refine r_aload_n (pc := 0) C dX8_put_0 rfl 0 rfl ?_
  refine r_iload_n (pc := 1) C dX8_put_1 rfl 1 rfl ?_
  refine cv_X8_197 (pc := 2) C dX8_put_2  h (by decide) (Nat.le_of_ble_eq_true rfl) (fun q1 h => ?_)
  refine r_oc (pc := 5) h (fun h => ?_) (fun s2 hs2 h => ?_)
  · refine r_astoreN (L' := [(4, .null), (0, .ref (G.2 0)), (1, .int p1), (2, .int p2), (3, .int p3)]) (pc := 5) C dX8_put_5 (by decide) rfl ?_
    refine r_aloadN (pc := 7) C dX8_put_7 0 rfl ?_
    refine r_ifnonnullN (pc := 9) C dX8_put_9 ?_
    refine r_aload_n (pc := 12) C dX8_put_12 rfl 1 rfl ?_
    refine r_iconst (v := (1:Int32)) (pc := 13) C dX8_put_13 (by decide) ?_
    refine cv_X8_69 (pc := 14) C dX8_put_14  h (by decide) (Nat.le_of_ble_eq_true rfl) (fun q2 h => ?_)
    exact r_iretE (pc := 17) C dX8_put_17 h
  · refine r_astore (L' := [(4, .ref (G.2 s2)), (0, .ref (G.2 0)), (1, .int p1), (2, .int p2), (3, .int p3)]) (pc := 5) C dX8_put_5 (by decide) rfl ?_
    refine r_aload (pc := 7) C dX8_put_7 0 rfl ?_
    refine r_ifnonnull (pc := 9) C 18 dX8_put_9 (by decide) ?_
    refine r_aload (pc := 18) C dX8_put_18 0 rfl ?_
    refine cv_X8_201 (pc := 20) C dX8_put_20 hs2 h (by decide) (Nat.le_of_ble_eq_true rfl) (fun q3 h => ?_)
    refine r_if_eq (pc := 23) C 32 dX8_put_23 (by decide) h (fun h => ?_) (fun h => ?_)
    · refine r_iload_n (pc := 32) C dX8_put_32 rfl 3 rfl ?_
      refine r_iconst (v := (0:Int32)) (pc := 33) C dX8_put_33 (by decide) ?_
      refine r_aload (pc := 34) C dX8_put_34 0 rfl ?_
      refine gi_X8_262 (pc := 36) C dX8_put_36 (cSh_0 hs2) rfl ?_
      refine r_iconst (v := (1:Int32)) (pc := 39) C dX8_put_39 (by decide) ?_
      refine r_isub (pc := 40) C dX8_put_40 ?_
      refine cv_X8_65 (pc := 41) C dX8_put_41  h (by decide) (Nat.le_of_ble_eq_true rfl) (fun q4 h => ?_)
      refine r_if_ne (pc := 44) C 53 dX8_put_44 (by decide) h (fun h => ?_) (fun h => ?_)
      · refine r_aload (pc := 53) C dX8_put_53 0 rfl ?_
        refine gr_X8_212 (pc := 55) (s2 + 1) C dX8_put_55 (cSh_0 hs2) rfl ?_
        refine r_iload_n (pc := 58) C dX8_put_58 rfl 3 rfl ?_
        refine r_aload (pc := 59) C dX8_put_59 0 rfl ?_
        refine r_iload_n (pc := 61) C dX8_put_61 rfl 4 rfl ?_
        refine cv_X8_292 (pc := 62) C dX8_put_62 hs2 h (by decide) (Nat.le_of_ble_eq_true rfl) (fun q5 h => ?_)
        refine r_ast (pc := 65) C dX8_put_65 h (cSh_1 hs2) (fun w6 h => ?_)
        refine r_iconst (v := (1:Int32)) (pc := 66) C dX8_put_66 (by decide) ?_
        exact r_iretE (pc := 67) C dX8_put_67 h
      · refine r_aload_n (pc := 47) C dX8_put_47 rfl 1 rfl ?_
        refine r_iconst (v := (1:Int32)) (pc := 48) C dX8_put_48 (by decide) ?_
        refine cv_X8_69 (pc := 49) C dX8_put_49  h (by decide) (Nat.le_of_ble_eq_true rfl) (fun q7 h => ?_)
        exact r_iretE (pc := 52) C dX8_put_52 h
    · refine r_aload_n (pc := 26) C dX8_put_26 rfl 1 rfl ?_
      refine r_iconst (v := (2:Int32)) (pc := 27) C dX8_put_27 (by decide) ?_
      refine cv_X8_69 (pc := 28) C dX8_put_28  h (by decide) (Nat.le_of_ble_eq_true rfl) (fun q8 h => ?_)
      exact r_iretE (pc := 31) C dX8_put_31 h
theorem c_X8_put {G : Gv} {p1 : Int32} {p2 : Int32} {p3 : Int32} {w : Wd} {res : Int32 × Wd} (h : f_X8_put p1 p2 p3 w = some res) (l : Launch) : MC l yX8_put cX8_put 5 (some FieldType.int) 3 G SX w [.ref (G.2 0), .int p1, .int p2, .int p3] (some (.int res.1)) res.2 := mc_of (by decide +kernel) rfl (Nat.le_of_ble_eq_true rfl) rfl (fun V C => b_X8_put_E C h) l
theorem cv_X8_298 {cc : ByteArray} {G : Gv} {n hc : Nat} {rt : Option FieldType} {rv : Option Value} {w0 : Wd} {V : Vt} {w : Wd} {pc : Nat} {L : List (Nat × Value)} {rest : List Value} {α : Type} {res : α} {b0 : Nat} {p1 : Int32} {p2 : Int32} {K : Int32 → Option α} (C : CX cc RX8 G SX n hc rt rv w0 V) (hd : decode cc pc = .ok (.invokevirtual 298, 3)) (hb0 : isSh b0 = true) (h : bd (f_X5_holds b0 w p1 p2) K = some res) (hR : 1 + 1 ≤ hc) (hr : (rest.map fun v => v.category).sum ≤ 8) (kk : ∀ q, K q = some res → V w (pc + 3) L (.int q :: rest)) : V w pc L (.int p2 :: .int p1 :: .ref (G.2 b0) :: rest) := r_callV (As := [.int p1, .int p2]) (rest := rest) (rvf := fun q => (some (.int q))) (wf := fun q => w) C hd h ql_X8_298 qi_X5_holds qs_X5_holds qn_X5 qc_X5_holds ⟨rfl, by decide +kernel, by decide +kernel, (by decide +kernel : (parseMethodDescriptor yX5_holds.desc).map (fun d => d.parameters.length) = some 2)⟩ ⟨hR, by decide⟩ (cSh_0 hb0) rfl (fun q hq l => c_X5_holds hb0 hq l) rfl hr kk
def f_X8_move_94 (w : Wd) : Option (Int32 × Wd) := bd (f_X8_error (1:Int32) w) (fun q1 => some (q1.1, q1.2))
set_option maxRecDepth 20000 in
theorem b_X8_move_94 {G : Gv} {V : Vt} {res : Int32 × Wd}  (C : CX cX8_move RX8 G SX 8 3 (some FieldType.int) (some (.int res.1)) res.2 V) {w : Wd} (h : f_X8_move_94 w = some res) : V w 94 [(0, .ref (G.2 0))] [] := by
  unfold f_X8_move_94 at h
  refine r_aload_n (pc := 94) C dX8_move_94 rfl 0 rfl ?_
  refine r_iconst (v := (1:Int32)) (pc := 95) C dX8_move_95 (by decide) ?_
  refine cv_X8_69 (pc := 96) C dX8_move_96  h (by decide) (Nat.le_of_ble_eq_true rfl) (fun q1 h => ?_)
  exact r_iretE (pc := 99) C dX8_move_99 h
def f_X8_move_46 (w : Wd) : Option (Int32 × Wd) := bd (f_X8_error (2:Int32) w) (fun q1 => some (q1.1, q1.2))
set_option maxRecDepth 20000 in
theorem b_X8_move_46 {G : Gv} {V : Vt} {res : Int32 × Wd}  (C : CX cX8_move RX8 G SX 8 3 (some FieldType.int) (some (.int res.1)) res.2 V) {w : Wd} (h : f_X8_move_46 w = some res) : V w 46 [(0, .ref (G.2 0))] [] := by
  unfold f_X8_move_46 at h
  refine r_aload_n (pc := 46) C dX8_move_46 rfl 0 rfl ?_
  refine r_iconst (v := (2:Int32)) (pc := 47) C dX8_move_47 (by decide) ?_
  refine cv_X8_69 (pc := 48) C dX8_move_48  h (by decide) (Nat.le_of_ble_eq_true rfl) (fun q1 h => ?_)
  exact r_iretE (pc := 51) C dX8_move_51 h
def f_X8_move_24 (w : Wd) : Option (Int32 × Wd) := bd (f_X8_error (1:Int32) w) (fun q1 => some (q1.1, q1.2))
set_option maxRecDepth 20000 in
theorem b_X8_move_24 {G : Gv} {V : Vt} {res : Int32 × Wd}  (C : CX cX8_move RX8 G SX 8 3 (some FieldType.int) (some (.int res.1)) res.2 V) {w : Wd} (h : f_X8_move_24 w = some res) : V w 24 [(0, .ref (G.2 0))] [] := by
  unfold f_X8_move_24 at h
  refine r_aload_n (pc := 24) C dX8_move_24 rfl 0 rfl ?_
  refine r_iconst (v := (1:Int32)) (pc := 25) C dX8_move_25 (by decide) ?_
  refine cv_X8_69 (pc := 26) C dX8_move_26  h (by decide) (Nat.le_of_ble_eq_true rfl) (fun q1 h => ?_)
  exact r_iretE (pc := 29) C dX8_move_29 h
def f_X8_move (p1 : Int32) (p2 : Int32) (p3 : Int32) (p4 : Int32) (p5 : Int32) (w : Wd) : Option (Int32 × Wd) := bd (f_X8_sheetAt w p1) (fun q1 => oc q1 isSh (bd (f_X8_sheetAt w p3) (fun q2 => oc q2 isSh (f_X8_move_24 w) (fun s9 => f_X8_move_24 w))) (fun s2 => bd (f_X8_sheetAt w p3) (fun q3 => oc q3 isSh (f_X8_move_24 w) (fun s9 => bd (f_X5_isMissing s2 w) (fun q4 => (if ¬ q4 = 0 then f_X8_move_46 w else bd (f_X5_isMissing s9 w) (fun q5 => (if q5 = 0 then (if (w s2 0) = (w s9 0) then bd (f_X5_holds s2 w p2 p5) (fun q6 => (if q6 = 0 then f_X8_move_94 w else bd (f_X5_holds s9 w p4 p5) (fun q7 => (if ¬ q7 = 0 then cpy w (s2 + 1) 40 p2 (s9 + 1) 40 p4 p5 (fun w8 => some (p5, w8)) else f_X8_move_94 w)))) else bd (f_X8_error (5:Int32) w) (fun q9 => some (q9.1, q9.2))) else f_X8_move_46 w))))))))
set_option maxRecDepth 20000 in
theorem b_X8_move_E {G : Gv} {V : Vt} {res : Int32 × Wd}  (C : CX cX8_move RX8 G SX 8 3 (some FieldType.int) (some (.int res.1)) res.2 V) {p1 : Int32} {p2 : Int32} {p3 : Int32} {p4 : Int32} {p5 : Int32} {w : Wd} (h : f_X8_move p1 p2 p3 p4 p5 w = some res) : V w 0 [(0, .ref (G.2 0)), (1, .int p1), (2, .int p2), (3, .int p3), (4, .int p4), (5, .int p5)] [] := by
  unfold f_X8_move at h
  refine r_aload_n (pc := 0) C dX8_move_0 rfl 0 rfl ?_
  refine r_iload_n (pc := 1) C dX8_move_1 rfl 1 rfl ?_
  refine cv_X8_197 (pc := 2) C dX8_move_2  h (by decide) (Nat.le_of_ble_eq_true rfl) (fun q1 h => ?_)
  refine r_oc (pc := 5) h (fun h => ?_) (fun s2 hs2 h => ?_)
  · refine r_astoreN (L' := [(6, .null), (0, .ref (G.2 0)), (1, .int p1), (2, .int p2), (3, .int p3), (4, .int p4), (5, .int p5)]) (pc := 5) C dX8_move_5 (by decide) rfl ?_
    refine r_aload_n (pc := 7) C dX8_move_7 rfl 1 rfl ?_
    refine r_iload_n (pc := 8) C dX8_move_8 rfl 4 rfl ?_
    refine cv_X8_197 (pc := 9) C dX8_move_9  h (by decide) (Nat.le_of_ble_eq_true rfl) (fun q2 h => ?_)
    refine r_oc (pc := 12) h (fun h => ?_) (fun s9 hs9 h => ?_)
    · refine r_astoreN (L' := [(7, .null), (6, .null), (0, .ref (G.2 0)), (1, .int p1), (2, .int p2), (3, .int p3), (4, .int p4), (5, .int p5)]) (pc := 12) C dX8_move_12 (by decide) rfl ?_
      refine r_aloadN (pc := 14) C dX8_move_14 1 rfl ?_
      refine r_ifnullN (pc := 16) C 24 dX8_move_16 (by decide) ?_
      exact r_sub C [2] rfl (b_X8_move_24 C h)
    · refine r_astore (L' := [(7, .ref (G.2 s9)), (6, .null), (0, .ref (G.2 0)), (1, .int p1), (2, .int p2), (3, .int p3), (4, .int p4), (5, .int p5)]) (pc := 12) C dX8_move_12 (by decide) rfl ?_
      refine r_aloadN (pc := 14) C dX8_move_14 1 rfl ?_
      refine r_ifnullN (pc := 16) C 24 dX8_move_16 (by decide) ?_
      exact r_sub C [2] rfl (b_X8_move_24 C h)
  · refine r_astore (L' := [(6, .ref (G.2 s2)), (0, .ref (G.2 0)), (1, .int p1), (2, .int p2), (3, .int p3), (4, .int p4), (5, .int p5)]) (pc := 5) C dX8_move_5 (by decide) rfl ?_
    refine r_aload_n (pc := 7) C dX8_move_7 rfl 1 rfl ?_
    refine r_iload_n (pc := 8) C dX8_move_8 rfl 4 rfl ?_
    refine cv_X8_197 (pc := 9) C dX8_move_9  h (by decide) (Nat.le_of_ble_eq_true rfl) (fun q3 h => ?_)
    refine r_oc (pc := 12) h (fun h => ?_) (fun s9 hs9 h => ?_)
    · refine r_astoreN (L' := [(7, .null), (6, .ref (G.2 s2)), (0, .ref (G.2 0)), (1, .int p1), (2, .int p2), (3, .int p3), (4, .int p4), (5, .int p5)]) (pc := 12) C dX8_move_12 (by decide) rfl ?_
      refine r_aload (pc := 14) C dX8_move_14 1 rfl ?_
      refine r_ifnull (pc := 16) C dX8_move_16 ?_
      refine r_aloadN (pc := 19) C dX8_move_19 0 rfl ?_
      refine r_ifnonnullN (pc := 21) C dX8_move_21 ?_
      exact r_sub C [2] rfl (b_X8_move_24 C h)
    · refine r_astore (L' := [(7, .ref (G.2 s9)), (6, .ref (G.2 s2)), (0, .ref (G.2 0)), (1, .int p1), (2, .int p2), (3, .int p3), (4, .int p4), (5, .int p5)]) (pc := 12) C dX8_move_12 (by decide) rfl ?_
      refine r_aload (pc := 14) C dX8_move_14 1 rfl ?_
      refine r_ifnull (pc := 16) C dX8_move_16 ?_
      refine r_aload (pc := 19) C dX8_move_19 0 rfl ?_
      refine r_ifnonnull (pc := 21) C 30 dX8_move_21 (by decide) ?_
      refine r_aload (pc := 30) C dX8_move_30 1 rfl ?_
      refine cv_X8_201 (pc := 32) C dX8_move_32 hs2 h (by decide) (Nat.le_of_ble_eq_true rfl) (fun q4 h => ?_)
      refine r_if_ne (pc := 35) C 46 dX8_move_35 (by decide) h (fun h => ?_) (fun h => ?_)
      · exact r_sub C [2] rfl (b_X8_move_46 C h)
      · refine r_aload (pc := 38) C dX8_move_38 0 rfl ?_
        refine cv_X8_201 (pc := 40) C dX8_move_40 hs9 h (by decide) (Nat.le_of_ble_eq_true rfl) (fun q5 h => ?_)
        refine r_if_eq (pc := 43) C 52 dX8_move_43 (by decide) h (fun h => ?_) (fun h => ?_)
        · refine r_aload (pc := 52) C dX8_move_52 1 rfl ?_
          refine gi_X8_295 (pc := 54) C dX8_move_54 (cSh_0 hs2) rfl ?_
          refine r_aload (pc := 57) C dX8_move_57 0 rfl ?_
          refine gi_X8_295 (pc := 59) C dX8_move_59 (cSh_0 hs9) rfl ?_
          refine r_icmp_eq (pc := 62) C 71 dX8_move_62 (by decide) h (fun h => ?_) (fun h => ?_)
          · refine r_aload (pc := 71) C dX8_move_71 1 rfl ?_
            refine r_iload_n (pc := 73) C dX8_move_73 rfl 4 rfl ?_
            refine r_iload (pc := 74) C dX8_move_74 7 rfl ?_
            refine cv_X8_298 (pc := 76) C dX8_move_76 hs2 h (by decide) (Nat.le_of_ble_eq_true rfl) (fun q6 h => ?_)
            refine r_if_eq (pc := 79) C 94 dX8_move_79 (by decide) h (fun h => ?_) (fun h => ?_)
            · exact r_sub C [2] rfl (b_X8_move_94 C h)
            · refine r_aload (pc := 82) C dX8_move_82 0 rfl ?_
              refine r_iload (pc := 84) C dX8_move_84 6 rfl ?_
              refine r_iload (pc := 86) C dX8_move_86 7 rfl ?_
              refine cv_X8_298 (pc := 88) C dX8_move_88 hs9 h (by decide) (Nat.le_of_ble_eq_true rfl) (fun q7 h => ?_)
              refine r_if_ne (pc := 91) C 100 dX8_move_91 (by decide) h (fun h => ?_) (fun h => ?_)
              · refine r_aload (pc := 100) C dX8_move_100 1 rfl ?_
                refine gr_X8_212 (pc := 102) (s2 + 1) C dX8_move_102 (cSh_0 hs2) rfl ?_
                refine r_iload_n (pc := 105) C dX8_move_105 rfl 4 rfl ?_
                refine r_aload (pc := 106) C dX8_move_106 0 rfl ?_
                refine gr_X8_212 (pc := 108) (s9 + 1) C dX8_move_108 (cSh_0 hs9) rfl ?_
                refine r_iload (pc := 111) C dX8_move_111 6 rfl ?_
                refine r_iload (pc := 113) C dX8_move_113 7 rfl ?_
                refine r_cpy (pc := 115) C dX8_move_115 h (cSh_1 hs2) (cSh_1 hs9) ql_X8_301 qv_arraycopy qt_arraycopy qn_J10 (Nat.le_of_ble_eq_true rfl) (fun w8 h => ?_)
                refine r_iload (pc := 118) C dX8_move_118 7 rfl ?_
                exact r_iretE (pc := 120) C dX8_move_120 h
              · exact r_sub C [2] rfl (b_X8_move_94 C h)
          · refine r_aload_n (pc := 65) C dX8_move_65 rfl 2 rfl ?_
            refine r_iconst (v := (5:Int32)) (pc := 66) C dX8_move_66 (by decide) ?_
            refine cv_X8_69 (pc := 67) C dX8_move_67  h (by decide) (Nat.le_of_ble_eq_true rfl) (fun q9 h => ?_)
            exact r_iretE (pc := 70) C dX8_move_70 h
        · exact r_sub C [2] rfl (b_X8_move_46 C h)
theorem c_X8_move {G : Gv} {p1 : Int32} {p2 : Int32} {p3 : Int32} {p4 : Int32} {p5 : Int32} {w : Wd} {res : Int32 × Wd} (h : f_X8_move p1 p2 p3 p4 p5 w = some res) (l : Launch) : MC l yX8_move cX8_move 8 (some FieldType.int) 3 G SX w [.ref (G.2 0), .int p1, .int p2, .int p3, .int p4, .int p5] (some (.int res.1)) res.2 := mc_of (by decide +kernel) rfl (Nat.le_of_ble_eq_true rfl) rfl (fun V C => b_X8_move_E C h) l
def fb_X8_loads_50 (s2 : Nat) (rec50 : Int32 → Int32 → Wd → Option (Int32 × Wd)) (x3 : Int32) (x4 : Int32) (w : Wd) : Option (Int32 × Wd) := (if x3 ≤ x4 then some (x4, w) else ald w (s2 + 1) 40 x4 (fun v1 => bd (f_X8_isWithin v1 (0:Int32) (99:Int32)) (fun q2 => (if q2 = 0 then some (x4, w) else ald w (s2 + 1) 40 x4 (fun v3 => ast w 5 5 x4 v3 (fun w4 => rec50 x3 (x4 + (1:Int32)) w4))))))
set_option maxRecDepth 20000 in
theorem bb_X8_loads_50 {G : Gv} {V : Vt} {s2 : Nat} {rec50 : Int32 → Int32 → Wd → Option (Int32 × Wd)} {res : Int32 × Wd} (hs2 : isSh s2 = true)  (C : CX cX8_loads RX8 G SX 5 3 (some FieldType.int) (some (.int res.1)) res.2 V) (hrec50 : ∀ (x3 : Int32) (x4 : Int32) (w : Wd), rec50 x3 x4 w = some res → V w 50 [(0, .ref (G.2 0)), (2, .ref (G.2 s2)), (3, .int x3), (4, .int x4)] []) {x3 : Int32} {x4 : Int32} {w : Wd} (h : fb_X8_loads_50 s2 rec50 x3 x4 w = some res) : V w 50 [(0, .ref (G.2 0)), (2, .ref (G.2 s2)), (3, .int x3), (4, .int x4)] [] := by
  unfold fb_X8_loads_50 at h
  refine r_iload (pc := 50) C dX8_loads_50 3 rfl ?_
  refine r_iload_n (pc := 52) C dX8_loads_52 rfl 2 rfl ?_
  refine r_icmp_ge (pc := 53) C 98 dX8_loads_53 (by decide) h (fun h => ?_) (fun h => ?_)
  · refine r_iload (pc := 98) C dX8_loads_98 3 rfl ?_
    exact r_iretE (pc := 100) C dX8_loads_100 h
  · refine r_aload_n (pc := 56) C dX8_loads_56 rfl 1 rfl ?_
    refine gr_X8_212 (pc := 57) (s2 + 1) C dX8_loads_57 (cSh_0 hs2) rfl ?_
    refine r_iload (pc := 60) C dX8_loads_60 3 rfl ?_
    refine r_ald (pc := 62) C dX8_loads_62 h (cSh_1 hs2) (fun v1 h => ?_)
    refine r_iconst (v := (0:Int32)) (pc := 63) C dX8_loads_63 (by decide) ?_
    refine r_bipush (v := (99:Int32)) (pc := 64) C dX8_loads_64 (by decide) ?_
    refine cv_X8_65 (pc := 66) C dX8_loads_66  h (by decide) (Nat.le_of_ble_eq_true rfl) (fun q2 h => ?_)
    refine r_if_eq (pc := 69) C 98 dX8_loads_69 (by decide) h (fun h => ?_) (fun h => ?_)
    · refine r_iload (pc := 98) C dX8_loads_98 3 rfl ?_
      exact r_iretE (pc := 100) C dX8_loads_100 h
    · refine r_aload_n (pc := 72) C dX8_loads_72 rfl 0 rfl ?_
      refine gr_X8_10 (pc := 73) 1 C dX8_loads_73 kx_0 rfl ?_
      refine gr_X8_73 (pc := 76) 2 C dX8_loads_76 kx_1 rfl ?_
      refine gr_X8_93 (pc := 79) 5 C dX8_loads_79 kx_2 rfl ?_
      refine r_iload (pc := 82) C dX8_loads_82 3 rfl ?_
      refine r_aload_n (pc := 84) C dX8_loads_84 rfl 1 rfl ?_
      refine gr_X8_212 (pc := 85) (s2 + 1) C dX8_loads_85 (cSh_0 hs2) rfl ?_
      refine r_iload (pc := 88) C dX8_loads_88 3 rfl ?_
      refine r_ald (pc := 90) C dX8_loads_90 h (cSh_1 hs2) (fun v3 h => ?_)
      refine r_ast (pc := 91) C dX8_loads_91 h kx_5 (fun w4 h => ?_)
      refine r_iinc (v := (x4 + (1:Int32))) (L' := [(4, .int (x4 + (1:Int32))), (0, .ref (G.2 0)), (2, .ref (G.2 s2)), (3, .int x3)]) (pc := 92) C dX8_loads_92 3 rfl rfl (by decide) rfl ?_
      refine r_goto (pc := 95) C 50 dX8_loads_95 (by decide) ?_
      exact r_sub C [1, 2, 3, 0] rfl (hrec50 _ _ _ h)
def f_X8_loads_50 (s2 : Nat) : Int32 → Int32 → Wd → Option (Int32 × Wd) := lp (fun _ _ _ => none) (fun rec => fb_X8_loads_50 s2 rec) FU
theorem b_X8_loads_50 {G : Gv} {V : Vt} {s2 : Nat} {res : Int32 × Wd} (hs2 : isSh s2 = true)  (C : CX cX8_loads RX8 G SX 5 3 (some FieldType.int) (some (.int res.1)) res.2 V) : ∀ (x3 : Int32) (x4 : Int32) (w : Wd), (f_X8_loads_50 s2) x3 x4 w = some res → V w 50 [(0, .ref (G.2 0)), (2, .ref (G.2 s2)), (3, .int x3), (4, .int x4)] [] :=
  lp_ind (P := fun (g : Int32 → Int32 → Wd → Option (Int32 × Wd)) => ∀ (x3 : Int32) (x4 : Int32) (w : Wd), g x3 x4 w = some res → V w 50 [(0, .ref (G.2 0)), (2, .ref (G.2 s2)), (3, .int x3), (4, .int x4)] []) (fun _ _ _ h => by cases h) (fun g hg _ _ _ h => bb_X8_loads_50 hs2 C hg h) FU
def f_X8_loads (p1 : Int32) (w : Wd) : Option (Int32 × Wd) := bd (f_X8_sheetAt w p1) (fun q1 => oc q1 isSh (bd (f_X8_error (1:Int32) w) (fun q2 => some (q2.1, q2.2))) (fun s2 => bd (f_X5_isMissing s2 w) (fun q3 => (if q3 = 0 then lv (mmin (w s2 1) (w 2 0)) (fun v4 => f_X8_loads_50 s2 v4 (0:Int32) w) else bd (f_X8_error (2:Int32) w) (fun q5 => some (q5.1, q5.2))))))
set_option maxRecDepth 20000 in
theorem b_X8_loads_E {G : Gv} {V : Vt} {res : Int32 × Wd}  (C : CX cX8_loads RX8 G SX 5 3 (some FieldType.int) (some (.int res.1)) res.2 V) {p1 : Int32} {w : Wd} (h : f_X8_loads p1 w = some res) : V w 0 [(0, .ref (G.2 0)), (1, .int p1)] [] := by
  unfold f_X8_loads at h
  refine r_aload_n (pc := 0) C dX8_loads_0 rfl 0 rfl ?_
  refine r_iload_n (pc := 1) C dX8_loads_1 rfl 1 rfl ?_
  refine cv_X8_197 (pc := 2) C dX8_loads_2  h (by decide) (Nat.le_of_ble_eq_true rfl) (fun q1 h => ?_)
  refine r_oc (pc := 5) h (fun h => ?_) (fun s2 hs2 h => ?_)
  · refine r_astore_nN (L' := [(2, .null), (0, .ref (G.2 0)), (1, .int p1)]) (pc := 5) C dX8_loads_5 rfl (by decide) rfl ?_
    refine r_aload_nN (pc := 6) C dX8_loads_6 rfl 0 rfl ?_
    refine r_ifnonnullN (pc := 7) C dX8_loads_7 ?_
    refine r_aload_n (pc := 10) C dX8_loads_10 rfl 1 rfl ?_
    refine r_iconst (v := (1:Int32)) (pc := 11) C dX8_loads_11 (by decide) ?_
    refine cv_X8_69 (pc := 12) C dX8_loads_12  h (by decide) (Nat.le_of_ble_eq_true rfl) (fun q2 h => ?_)
    exact r_iretE (pc := 15) C dX8_loads_15 h
  · refine r_astore_n (L' := [(2, .ref (G.2 s2)), (0, .ref (G.2 0)), (1, .int p1)]) (pc := 5) C dX8_loads_5 rfl (by decide) rfl ?_
    refine r_aload_n (pc := 6) C dX8_loads_6 rfl 0 rfl ?_
    refine r_ifnonnull (pc := 7) C 16 dX8_loads_7 (by decide) ?_
    refine r_aload_n (pc := 16) C dX8_loads_16 rfl 0 rfl ?_
    refine cv_X8_201 (pc := 17) C dX8_loads_17 hs2 h (by decide) (Nat.le_of_ble_eq_true rfl) (fun q3 h => ?_)
    refine r_if_eq (pc := 20) C 29 dX8_loads_20 (by decide) h (fun h => ?_) (fun h => ?_)
    · refine r_aload_n (pc := 29) C dX8_loads_29 rfl 0 rfl ?_
      refine gi_X8_262 (pc := 30) C dX8_loads_30 (cSh_0 hs2) rfl ?_
      refine r_aload_n (pc := 33) C dX8_loads_33 rfl 1 rfl ?_
      refine gr_X8_10 (pc := 34) 1 C dX8_loads_34 kx_0 rfl ?_
      refine gr_X8_73 (pc := 37) 2 C dX8_loads_37 kx_1 rfl ?_
      refine gi_X8_76 (pc := 40) C dX8_loads_40 kx_2 rfl ?_
      refine r_mmin (pc := 43) C dX8_loads_43 ql_X8_226 qt_Math_min qn_J9 qc_Math_min (Nat.le_of_ble_eq_true rfl) ?_
      refine r_lv h (fun v4 h => ?_)
      refine r_istore_n (L' := [(3, .int v4), (2, .ref (G.2 s2)), (0, .ref (G.2 0)), (1, .int p1)]) (pc := 46) C dX8_loads_46 rfl (by decide) rfl ?_
      refine r_iconst (v := (0:Int32)) (pc := 47) C dX8_loads_47 (by decide) ?_
      refine r_istore (L' := [(4, .int (0:Int32)), (3, .int v4), (2, .ref (G.2 s2)), (0, .ref (G.2 0)), (1, .int p1)]) (pc := 48) C dX8_loads_48 (by decide) rfl ?_
      exact r_sub C [3, 2, 1, 0] rfl (b_X8_loads_50 hs2 C _ _ _ h)
    · refine r_aload_n (pc := 23) C dX8_loads_23 rfl 1 rfl ?_
      refine r_iconst (v := (2:Int32)) (pc := 24) C dX8_loads_24 (by decide) ?_
      refine cv_X8_69 (pc := 25) C dX8_loads_25  h (by decide) (Nat.le_of_ble_eq_true rfl) (fun q5 h => ?_)
      exact r_iretE (pc := 28) C dX8_loads_28 h
theorem c_X8_loads {G : Gv} {p1 : Int32} {w : Wd} {res : Int32 × Wd} (h : f_X8_loads p1 w = some res) (l : Launch) : MC l yX8_loads cX8_loads 5 (some FieldType.int) 3 G SX w [.ref (G.2 0), .int p1] (some (.int res.1)) res.2 := mc_of (by decide +kernel) rfl (Nat.le_of_ble_eq_true rfl) rfl (fun V C => b_X8_loads_E C h) l
def f_X8_judge (p1 : Int32) (w : Wd) : Option (Int32 × Wd) := bd (f_X8_sheetAt w p1) (fun q1 => oc q1 isSh (bd (f_X8_error (1:Int32) w) (fun q2 => some (q2.1, q2.2))) (fun s2 => bd (f_X5_isMissing s2 w) (fun q3 => (if q3 = 0 then bd (f_X8_firstWrong s2 w) (fun q4 => some (q4, w)) else bd (f_X8_error (2:Int32) w) (fun q5 => some (q5.1, q5.2))))))
set_option maxRecDepth 20000 in
theorem b_X8_judge_E {G : Gv} {V : Vt} {res : Int32 × Wd}  (C : CX cX8_judge RX8 G SX 3 6 (some FieldType.int) (some (.int res.1)) res.2 V) {p1 : Int32} {w : Wd} (h : f_X8_judge p1 w = some res) : V w 0 [(0, .ref (G.2 0)), (1, .int p1)] [] := by
  unfold f_X8_judge at h
  refine r_aload_n (pc := 0) C dX8_judge_0 rfl 0 rfl ?_
  refine r_iload_n (pc := 1) C dX8_judge_1 rfl 1 rfl ?_
  refine cv_X8_197 (pc := 2) C dX8_judge_2  h (by decide) (Nat.le_of_ble_eq_true rfl) (fun q1 h => ?_)
  refine r_oc (pc := 5) h (fun h => ?_) (fun s2 hs2 h => ?_)
  · refine r_astore_nN (L' := [(2, .null), (0, .ref (G.2 0)), (1, .int p1)]) (pc := 5) C dX8_judge_5 rfl (by decide) rfl ?_
    refine r_aload_nN (pc := 6) C dX8_judge_6 rfl 0 rfl ?_
    refine r_ifnonnullN (pc := 7) C dX8_judge_7 ?_
    refine r_aload_n (pc := 10) C dX8_judge_10 rfl 1 rfl ?_
    refine r_iconst (v := (1:Int32)) (pc := 11) C dX8_judge_11 (by decide) ?_
    refine cv_X8_69 (pc := 12) C dX8_judge_12  h (by decide) (Nat.le_of_ble_eq_true rfl) (fun q2 h => ?_)
    exact r_iretE (pc := 15) C dX8_judge_15 h
  · refine r_astore_n (L' := [(2, .ref (G.2 s2)), (0, .ref (G.2 0)), (1, .int p1)]) (pc := 5) C dX8_judge_5 rfl (by decide) rfl ?_
    refine r_aload_n (pc := 6) C dX8_judge_6 rfl 0 rfl ?_
    refine r_ifnonnull (pc := 7) C 16 dX8_judge_7 (by decide) ?_
    refine r_aload_n (pc := 16) C dX8_judge_16 rfl 0 rfl ?_
    refine cv_X8_201 (pc := 17) C dX8_judge_17 hs2 h (by decide) (Nat.le_of_ble_eq_true rfl) (fun q3 h => ?_)
    refine r_if_eq (pc := 20) C 29 dX8_judge_20 (by decide) h (fun h => ?_) (fun h => ?_)
    · refine r_aload_n (pc := 29) C dX8_judge_29 rfl 1 rfl ?_
      refine r_aload_n (pc := 30) C dX8_judge_30 rfl 0 rfl ?_
      refine cv_X8_205 (pc := 31) C dX8_judge_31 hs2 h (by decide) (Nat.le_of_ble_eq_true rfl) (fun q4 h => ?_)
      exact r_iretE (pc := 34) C dX8_judge_34 h
    · refine r_aload_n (pc := 23) C dX8_judge_23 rfl 1 rfl ?_
      refine r_iconst (v := (2:Int32)) (pc := 24) C dX8_judge_24 (by decide) ?_
      refine cv_X8_69 (pc := 25) C dX8_judge_25  h (by decide) (Nat.le_of_ble_eq_true rfl) (fun q5 h => ?_)
      exact r_iretE (pc := 28) C dX8_judge_28 h
theorem c_X8_judge {G : Gv} {p1 : Int32} {w : Wd} {res : Int32 × Wd} (h : f_X8_judge p1 w = some res) (l : Launch) : MC l yX8_judge cX8_judge 3 (some FieldType.int) 6 G SX w [.ref (G.2 0), .int p1] (some (.int res.1)) res.2 := mc_of (by decide +kernel) rfl (Nat.le_of_ble_eq_true rfl) rfl (fun V C => b_X8_judge_E C h) l
theorem cv_X8_307 {cc : ByteArray} {G : Gv} {n hc : Nat} {rt : Option FieldType} {rv : Option Value} {w0 : Wd} {V : Vt} {w : Wd} {pc : Nat} {L : List (Nat × Value)} {rest : List Value} {α : Type} {res : α} {b0 : Nat} {b1 : Nat} {K : Wd → Option α} (C : CX cc RX8 G SX n hc rt rv w0 V) (hd : decode cc pc = .ok (.invokevirtual 307, 3)) (hb0 : isBk b0 = true) (hb1 : isBk b1 = true) (h : bd (f_X0_copyFrom b0 b1 w) K = some res) (hR : 4 + 1 ≤ hc) (hr : (rest.map fun v => v.category).sum ≤ 8) (kk : ∀ q, K q = some res → V q (pc + 3) L (rest)) : V w pc L (.ref (G.2 b1) :: .ref (G.2 b0) :: rest) := r_callV (As := [.ref (G.2 b1)]) (rest := rest) (rvf := fun q => none) (wf := fun q => q) C hd h ql_X8_307 qi_X0_copyFrom qs_X0_copyFrom qn_X0 qc_X0_copyFrom ⟨rfl, by decide +kernel, by decide +kernel, (by decide +kernel : (parseMethodDescriptor yX0_copyFrom.desc).map (fun d => d.parameters.length) = some 1)⟩ ⟨hR, by decide⟩ (cBk_0 hb0) rfl (fun q hq l => c_X0_copyFrom hb0 hb1 hq l) rfl hr kk
def f_X8_image (w : Wd) : Option (Int32 × Wd) := bd (f_X0_copyFrom 25 1 w) (fun q1 => wl (updW q1 0 9 ((q1 0 9) + (1:Int32))) (fun w2 => some ((w2 0 9), w2)))
set_option maxRecDepth 20000 in
theorem b_X8_image_E {G : Gv} {V : Vt} {res : Int32 × Wd}  (C : CX cX8_image RX8 G SX 1 5 (some FieldType.int) (some (.int res.1)) res.2 V) {w : Wd} (h : f_X8_image w = some res) : V w 0 [(0, .ref (G.2 0))] [] := by
  unfold f_X8_image at h
  refine r_aload_n (pc := 0) C dX8_image_0 rfl 0 rfl ?_
  refine gr_X8_16 (pc := 1) 25 C dX8_image_1 kx_0 rfl ?_
  refine r_aload_n (pc := 4) C dX8_image_4 rfl 0 rfl ?_
  refine gr_X8_10 (pc := 5) 1 C dX8_image_5 kx_0 rfl ?_
  refine cv_X8_307 (pc := 8) C dX8_image_8 isBk_25 isBk_1 h (by decide) (Nat.le_of_ble_eq_true rfl) (fun q1 h => ?_)
  refine r_aload_n (pc := 11) C dX8_image_11 rfl 0 rfl ?_
  refine r_dup (pc := 12) C dX8_image_12 rfl ?_
  refine gi_X8_311 (pc := 13) C dX8_image_13 kx_0 rfl ?_
  refine r_iconst (v := (1:Int32)) (pc := 16) C dX8_image_16 (by decide) ?_
  refine r_iadd (pc := 17) C dX8_image_17 ?_
  refine pi_X8_311 (pc := 18) C dX8_image_18 kx_0 rfl h (fun w2 h => ?_)
  refine r_aload_n (pc := 21) C dX8_image_21 rfl 0 rfl ?_
  refine gi_X8_311 (pc := 22) C dX8_image_22 kx_0 rfl ?_
  exact r_iretE (pc := 25) C dX8_image_25 h
theorem c_X8_image {G : Gv} {w : Wd} {res : Int32 × Wd} (h : f_X8_image w = some res) (l : Launch) : MC l yX8_image cX8_image 1 (some FieldType.int) 5 G SX w [.ref (G.2 0)] (some (.int res.1)) res.2 := mc_of (by decide +kernel) rfl (Nat.le_of_ble_eq_true rfl) rfl (fun V C => b_X8_image_E C h) l
def f_X8_restore (w : Wd) : Option (Int32 × Wd) := (if ¬ (w 0 9) = 0 then bd (f_X0_copyFrom 1 25 w) (fun q1 => some ((q1 2 12), q1)) else bd (f_X8_error (2:Int32) w) (fun q2 => some (q2.1, q2.2)))
set_option maxRecDepth 20000 in
theorem b_X8_restore_E {G : Gv} {V : Vt} {res : Int32 × Wd}  (C : CX cX8_restore RX8 G SX 1 5 (some FieldType.int) (some (.int res.1)) res.2 V) {w : Wd} (h : f_X8_restore w = some res) : V w 0 [(0, .ref (G.2 0))] [] := by
  unfold f_X8_restore at h
  refine r_aload_n (pc := 0) C dX8_restore_0 rfl 0 rfl ?_
  refine gi_X8_311 (pc := 1) C dX8_restore_1 kx_0 rfl ?_
  refine r_if_ne (pc := 4) C 13 dX8_restore_4 (by decide) h (fun h => ?_) (fun h => ?_)
  · refine r_aload_n (pc := 13) C dX8_restore_13 rfl 0 rfl ?_
    refine gr_X8_10 (pc := 14) 1 C dX8_restore_14 kx_0 rfl ?_
    refine r_aload_n (pc := 17) C dX8_restore_17 rfl 0 rfl ?_
    refine gr_X8_16 (pc := 18) 25 C dX8_restore_18 kx_0 rfl ?_
    refine cv_X8_307 (pc := 21) C dX8_restore_21 isBk_1 isBk_25 h (by decide) (Nat.le_of_ble_eq_true rfl) (fun q1 h => ?_)
    refine r_aload_n (pc := 24) C dX8_restore_24 rfl 0 rfl ?_
    refine gr_X8_10 (pc := 25) 1 C dX8_restore_25 kx_0 rfl ?_
    refine gr_X8_73 (pc := 28) 2 C dX8_restore_28 kx_1 rfl ?_
    refine gi_X8_209 (pc := 31) C dX8_restore_31 kx_2 rfl ?_
    exact r_iretE (pc := 34) C dX8_restore_34 h
  · refine r_aload_n (pc := 7) C dX8_restore_7 rfl 0 rfl ?_
    refine r_iconst (v := (2:Int32)) (pc := 8) C dX8_restore_8 (by decide) ?_
    refine cv_X8_69 (pc := 9) C dX8_restore_9  h (by decide) (Nat.le_of_ble_eq_true rfl) (fun q2 h => ?_)
    exact r_iretE (pc := 12) C dX8_restore_12 h
theorem c_X8_restore {G : Gv} {w : Wd} {res : Int32 × Wd} (h : f_X8_restore w = some res) (l : Launch) : MC l yX8_restore cX8_restore 1 (some FieldType.int) 5 G SX w [.ref (G.2 0)] (some (.int res.1)) res.2 := mc_of (by decide +kernel) rfl (Nat.le_of_ble_eq_true rfl) rfl (fun V C => b_X8_restore_E C h) l
def f_X8_tell (p1 : Int32) (w : Wd) : Option (Int32 × Wd) := (if (w 23 1) < (20:Int32) then bd (f_X4_add 23 p1 w) (fun q1 => some ((q1 23 1), q1)) else bd (f_X8_error (4:Int32) w) (fun q2 => some (q2.1, q2.2)))
set_option maxRecDepth 20000 in
theorem b_X8_tell_E {G : Gv} {V : Vt} {res : Int32 × Wd}  (C : CX cX8_tell RX8 G SX 2 2 (some FieldType.int) (some (.int res.1)) res.2 V) {p1 : Int32} {w : Wd} (h : f_X8_tell p1 w = some res) : V w 0 [(0, .ref (G.2 0)), (1, .int p1)] [] := by
  unfold f_X8_tell at h
  refine r_aload_n (pc := 0) C dX8_tell_0 rfl 0 rfl ?_
  refine gr_X8_10 (pc := 1) 1 C dX8_tell_1 kx_0 rfl ?_
  refine gr_X8_314 (pc := 4) 23 C dX8_tell_4 kx_1 rfl ?_
  refine gi_X8_161 (pc := 7) C dX8_tell_7 kx_23 rfl ?_
  refine r_bipush (v := (20:Int32)) (pc := 10) C dX8_tell_10 (by decide) ?_
  refine r_icmp_lt (pc := 12) C 21 dX8_tell_12 (by decide) h (fun h => ?_) (fun h => ?_)
  · refine r_aload_n (pc := 21) C dX8_tell_21 rfl 0 rfl ?_
    refine gr_X8_10 (pc := 22) 1 C dX8_tell_22 kx_0 rfl ?_
    refine gr_X8_314 (pc := 25) 23 C dX8_tell_25 kx_1 rfl ?_
    refine r_iload_n (pc := 28) C dX8_tell_28 rfl 1 rfl ?_
    refine cv_X8_166 (pc := 29) C dX8_tell_29 isRo_23 h (by decide) (Nat.le_of_ble_eq_true rfl) (fun q1 h => ?_)
    refine r_aload_n (pc := 32) C dX8_tell_32 rfl 0 rfl ?_
    refine gr_X8_10 (pc := 33) 1 C dX8_tell_33 kx_0 rfl ?_
    refine gr_X8_314 (pc := 36) 23 C dX8_tell_36 kx_1 rfl ?_
    refine gi_X8_161 (pc := 39) C dX8_tell_39 kx_23 rfl ?_
    exact r_iretE (pc := 42) C dX8_tell_42 h
  · refine r_aload_n (pc := 15) C dX8_tell_15 rfl 0 rfl ?_
    refine r_iconst (v := (4:Int32)) (pc := 16) C dX8_tell_16 (by decide) ?_
    refine cv_X8_69 (pc := 17) C dX8_tell_17  h (by decide) (Nat.le_of_ble_eq_true rfl) (fun q2 h => ?_)
    exact r_iretE (pc := 20) C dX8_tell_20 h
theorem c_X8_tell {G : Gv} {p1 : Int32} {w : Wd} {res : Int32 × Wd} (h : f_X8_tell p1 w = some res) (l : Launch) : MC l yX8_tell cX8_tell 2 (some FieldType.int) 2 G SX w [.ref (G.2 0), .int p1] (some (.int res.1)) res.2 := mc_of (by decide +kernel) rfl (Nat.le_of_ble_eq_true rfl) rfl (fun V C => b_X8_tell_E C h) l
def f_X8_check_63 (x1 : Int32) (w : Wd) : Option (Int32 × Wd) := bd (f_X4_clear 23 w) (fun q1 => some (x1, q1))
set_option maxRecDepth 20000 in
theorem b_X8_check_63 {G : Gv} {V : Vt} {res : Int32 × Wd}  (C : CX cX8_check RX8 G SX 4 7 (some FieldType.int) (some (.int res.1)) res.2 V) {x1 : Int32} {w : Wd} (h : f_X8_check_63 x1 w = some res) : V w 63 [(0, .ref (G.2 0)), (1, .int x1)] [] := by
  unfold f_X8_check_63 at h
  refine r_aload_n (pc := 63) C dX8_check_63 rfl 0 rfl ?_
  refine gr_X8_10 (pc := 64) 1 C dX8_check_64 kx_0 rfl ?_
  refine gr_X8_314 (pc := 67) 23 C dX8_check_67 kx_1 rfl ?_
  refine cv_X8_174 (pc := 70) C dX8_check_70 isRo_23 h (by decide) (Nat.le_of_ble_eq_true rfl) (fun q1 h => ?_)
  refine r_iload_n (pc := 73) C dX8_check_73 rfl 1 rfl ?_
  exact r_iretE (pc := 74) C dX8_check_74 h
def f_X8_check_57 (rec9 : Int32 → Int32 → Wd → Option (Int32 × Wd)) (x1 : Int32) (x3 : Int32) (w : Wd) : Option (Int32 × Wd) := rec9 x1 (x3 + (1:Int32)) w
set_option maxRecDepth 20000 in
theorem b_X8_check_57 {G : Gv} {V : Vt} {rec9 : Int32 → Int32 → Wd → Option (Int32 × Wd)} {res : Int32 × Wd}  (C : CX cX8_check RX8 G SX 4 7 (some FieldType.int) (some (.int res.1)) res.2 V) (hrec9 : ∀ (x1 : Int32) (x3 : Int32) (w : Wd), rec9 x1 x3 w = some res → V w 9 [(0, .ref (G.2 0)), (1, .int x1), (2, .ref (G.2 49)), (3, .int x3)] []) {x1 : Int32} {x3 : Int32} {w : Wd} (h : f_X8_check_57 rec9 x1 x3 w = some res) : V w 57 [(0, .ref (G.2 0)), (1, .int x1), (2, .ref (G.2 49)), (3, .int x3)] [] := by
  unfold f_X8_check_57 at h
  refine r_iinc (v := (x3 + (1:Int32))) (L' := [(3, .int (x3 + (1:Int32))), (0, .ref (G.2 0)), (1, .int x1), (2, .ref (G.2 49))]) (pc := 57) C dX8_check_57 3 rfl rfl (by decide) rfl ?_
  refine r_goto (pc := 60) C 9 dX8_check_60 (by decide) ?_
  exact r_sub C [1, 2, 3, 0] rfl (hrec9 _ _ _ h)
def fb_X8_check_9 (rec9 : Int32 → Int32 → Wd → Option (Int32 × Wd)) (x1 : Int32) (x3 : Int32) (w : Wd) : Option (Int32 × Wd) := (if (w 23 1) ≤ x3 then f_X8_check_63 x1 w else (if ¬ x1 = 0 then f_X8_check_63 x1 w else bd (f_X8_playFirsts 49 (1:Int32) w) (fun q1 => ald q1.2 24 20 x3 (fun v2 => bd (f_X6_allPurses 49 q1.2) (fun q3 => (if v2 = q3 then f_X8_check_57 rec9 x1 x3 q1.2 else lv ((1:Int32) + x3) (fun v4 => f_X8_check_57 rec9 v4 x3 q1.2)))))))
set_option maxRecDepth 20000 in
theorem bb_X8_check_9 {G : Gv} {V : Vt} {rec9 : Int32 → Int32 → Wd → Option (Int32 × Wd)} {res : Int32 × Wd}  (C : CX cX8_check RX8 G SX 4 7 (some FieldType.int) (some (.int res.1)) res.2 V) (hrec9 : ∀ (x1 : Int32) (x3 : Int32) (w : Wd), rec9 x1 x3 w = some res → V w 9 [(0, .ref (G.2 0)), (1, .int x1), (2, .ref (G.2 49)), (3, .int x3)] []) {x1 : Int32} {x3 : Int32} {w : Wd} (h : fb_X8_check_9 rec9 x1 x3 w = some res) : V w 9 [(0, .ref (G.2 0)), (1, .int x1), (2, .ref (G.2 49)), (3, .int x3)] [] := by
  unfold fb_X8_check_9 at h
  refine r_iload_n (pc := 9) C dX8_check_9 rfl 3 rfl ?_
  refine r_aload_n (pc := 10) C dX8_check_10 rfl 0 rfl ?_
  refine gr_X8_10 (pc := 11) 1 C dX8_check_11 kx_0 rfl ?_
  refine gr_X8_314 (pc := 14) 23 C dX8_check_14 kx_1 rfl ?_
  refine gi_X8_161 (pc := 17) C dX8_check_17 kx_23 rfl ?_
  refine r_icmp_ge (pc := 20) C 63 dX8_check_20 (by decide) h (fun h => ?_) (fun h => ?_)
  · exact r_sub C [0, 1] rfl (b_X8_check_63 C h)
  · refine r_iload_n (pc := 23) C dX8_check_23 rfl 1 rfl ?_
    refine r_if_ne (pc := 24) C 63 dX8_check_24 (by decide) h (fun h => ?_) (fun h => ?_)
    · exact r_sub C [0, 1] rfl (b_X8_check_63 C h)
    · refine r_aload_n (pc := 27) C dX8_check_27 rfl 0 rfl ?_
      refine r_aload_n (pc := 28) C dX8_check_28 rfl 2 rfl ?_
      refine r_iconst (v := (1:Int32)) (pc := 29) C dX8_check_29 (by decide) ?_
      refine cv_X8_231 (pc := 30) C dX8_check_30 isTr_49 h (by decide) (Nat.le_of_ble_eq_true rfl) (fun q1 h => ?_)
      refine r_pop (pc := 33) C dX8_check_33 rfl ?_
      refine r_aload_n (pc := 34) C dX8_check_34 rfl 0 rfl ?_
      refine gr_X8_10 (pc := 35) 1 C dX8_check_35 kx_0 rfl ?_
      refine gr_X8_314 (pc := 38) 23 C dX8_check_38 kx_1 rfl ?_
      refine gr_X8_286 (pc := 41) 24 C dX8_check_41 kx_23 rfl ?_
      refine r_iload_n (pc := 44) C dX8_check_44 rfl 3 rfl ?_
      refine r_ald (pc := 45) C dX8_check_45 h kx_24 (fun v2 h => ?_)
      refine r_aload_n (pc := 46) C dX8_check_46 rfl 2 rfl ?_
      refine cv_X8_238 (pc := 47) C dX8_check_47 isTr_49 h (by decide) (Nat.le_of_ble_eq_true rfl) (fun q3 h => ?_)
      refine r_icmp_eq (pc := 50) C 57 dX8_check_50 (by decide) h (fun h => ?_) (fun h => ?_)
      · exact r_sub C [0, 1, 2, 3] rfl (b_X8_check_57 C hrec9 h)
      · refine r_iconst (v := (1:Int32)) (pc := 53) C dX8_check_53 (by decide) ?_
        refine r_iload_n (pc := 54) C dX8_check_54 rfl 3 rfl ?_
        refine r_iadd (pc := 55) C dX8_check_55 ?_
        refine r_lv h (fun v4 h => ?_)
        refine r_istore_n (L' := [(1, .int v4), (0, .ref (G.2 0)), (2, .ref (G.2 49)), (3, .int x3)]) (pc := 56) C dX8_check_56 rfl (by decide) rfl ?_
        exact r_sub C [1, 0, 2, 3] rfl (b_X8_check_57 C hrec9 h)
def f_X8_check_9 : Int32 → Int32 → Wd → Option (Int32 × Wd) := lp (fun _ _ _ => none) (fun rec => fb_X8_check_9 rec) FU
theorem b_X8_check_9 {G : Gv} {V : Vt} {res : Int32 × Wd}  (C : CX cX8_check RX8 G SX 4 7 (some FieldType.int) (some (.int res.1)) res.2 V) : ∀ (x1 : Int32) (x3 : Int32) (w : Wd), (f_X8_check_9) x1 x3 w = some res → V w 9 [(0, .ref (G.2 0)), (1, .int x1), (2, .ref (G.2 49)), (3, .int x3)] [] :=
  lp_ind (P := fun (g : Int32 → Int32 → Wd → Option (Int32 × Wd)) => ∀ (x1 : Int32) (x3 : Int32) (w : Wd), g x1 x3 w = some res → V w 9 [(0, .ref (G.2 0)), (1, .int x1), (2, .ref (G.2 49)), (3, .int x3)] []) (fun _ _ _ h => by cases h) (fun g hg _ _ _ h => bb_X8_check_9 C hg h) FU
def f_X8_check (w : Wd) : Option (Int32 × Wd) := bd (f_X8_think w) (fun q1 => f_X8_check_9 (0:Int32) (0:Int32) q1)
set_option maxRecDepth 20000 in
theorem b_X8_check_E {G : Gv} {V : Vt} {res : Int32 × Wd}  (C : CX cX8_check RX8 G SX 4 7 (some FieldType.int) (some (.int res.1)) res.2 V) {w : Wd} (h : f_X8_check w = some res) : V w 0 [(0, .ref (G.2 0))] [] := by
  unfold f_X8_check at h
  refine r_iconst (v := (0:Int32)) (pc := 0) C dX8_check_0 (by decide) ?_
  refine r_istore_n (L' := [(1, .int (0:Int32)), (0, .ref (G.2 0))]) (pc := 1) C dX8_check_1 rfl (by decide) rfl ?_
  refine r_aload_n (pc := 2) C dX8_check_2 rfl 1 rfl ?_
  refine cv_X8_252 (pc := 3) C dX8_check_3  h (by decide) (Nat.le_of_ble_eq_true rfl) (fun q1 h => ?_)
  refine r_astore_n (L' := [(2, .ref (G.2 49)), (1, .int (0:Int32)), (0, .ref (G.2 0))]) (pc := 6) C dX8_check_6 rfl (by decide) rfl ?_
  refine r_iconst (v := (0:Int32)) (pc := 7) C dX8_check_7 (by decide) ?_
  refine r_istore_n (L' := [(3, .int (0:Int32)), (2, .ref (G.2 49)), (1, .int (0:Int32)), (0, .ref (G.2 0))]) (pc := 8) C dX8_check_8 rfl (by decide) rfl ?_
  exact r_sub C [3, 2, 1, 0] rfl (b_X8_check_9 C _ _ _ h)
theorem c_X8_check {G : Gv} {w : Wd} {res : Int32 × Wd} (h : f_X8_check w = some res) (l : Launch) : MC l yX8_check cX8_check 4 (some FieldType.int) 7 G SX w [.ref (G.2 0)] (some (.int res.1)) res.2 := mc_of (by decide +kernel) rfl (Nat.le_of_ble_eq_true rfl) rfl (fun V C => b_X8_check_E C h) l
theorem cv_X8_317 {cc : ByteArray} {G : Gv} {n hc : Nat} {rt : Option FieldType} {rv : Option Value} {w0 : Wd} {V : Vt} {w : Wd} {pc : Nat} {L : List (Nat × Value)} {rest : List Value} {α : Type} {res : α} {b0 : Nat} {K : Int32 → Option α} (C : CX cc RX8 G SX n hc rt rv w0 V) (hd : decode cc pc = .ok (.invokevirtual 317, 3)) (hb0 : isTr b0 = true) (h : bd (f_X6_allApplause b0 w) K = some res) (hR : 1 + 1 ≤ hc) (hr : (rest.map fun v => v.category).sum ≤ 8) (kk : ∀ q, K q = some res → V w (pc + 3) L (.int q :: rest)) : V w pc L (.ref (G.2 b0) :: rest) := r_callV (As := []) (rest := rest) (rvf := fun q => (some (.int q))) (wf := fun q => w) C hd h ql_X8_317 qi_X6_allApplause qs_X6_allApplause qn_X6 qc_X6_allApplause ⟨rfl, by decide +kernel, by decide +kernel, (by decide +kernel : (parseMethodDescriptor yX6_allApplause.desc).map (fun d => d.parameters.length) = some 0)⟩ ⟨hR, by decide⟩ (cTr_0 hb0) rfl (fun q hq l => c_X6_allApplause hb0 hq l) rfl hr kk
def f_X8_count (p1 : Int32) (w : Wd) : Option (Int32 × Wd) := (if p1 = (0:Int32) then some ((w 2 0), w) else (if p1 = (1:Int32) then some ((w 2 5), w) else (if p1 = (2:Int32) then some ((w 2 12), w) else (if p1 = (3:Int32) then some ((w 2 11), w) else (if p1 = (4:Int32) then bd (f_X6_allApplause 2 w) (fun q1 => some (q1, w)) else (if p1 = (5:Int32) then bd (f_X6_allPurses 2 w) (fun q2 => some (q2, w)) else (if p1 = (6:Int32) then some ((w 2 10), w) else (if p1 = (7:Int32) then some ((w 21 1), w) else (if p1 = (8:Int32) then some ((w 23 1), w) else (if p1 = (9:Int32) then some ((w 68 1), w) else (if p1 = (10:Int32) then some ((w 1 5), w) else bd (f_X8_error (1:Int32) w) (fun q3 => some (q3.1, q3.2)))))))))))))
set_option maxRecDepth 20000 in
theorem b_X8_count_E {G : Gv} {V : Vt} {res : Int32 × Wd}  (C : CX cX8_count RX8 G SX 2 2 (some FieldType.int) (some (.int res.1)) res.2 V) {p1 : Int32} {w : Wd} (h : f_X8_count p1 w = some res) : V w 0 [(0, .ref (G.2 0)), (1, .int p1)] [] := by
  unfold f_X8_count at h
  refine r_iload_n (pc := 0) C dX8_count_0 rfl 1 rfl ?_
  refine r_tsw (pc := 1) C (0:Int32) 60 dX8_count_1 (by decide) (by decide) rfl (by decide) h (fun h => ?_) (fun n0 h => ?_)
  · refine r_aload_n (pc := 60) C dX8_count_60 rfl 0 rfl ?_
    refine gr_X8_10 (pc := 61) 1 C dX8_count_61 kx_0 rfl ?_
    refine gr_X8_73 (pc := 64) 2 C dX8_count_64 kx_1 rfl ?_
    refine gi_X8_76 (pc := 67) C dX8_count_67 kx_2 rfl ?_
    exact r_iretE (pc := 70) C dX8_count_70 h
  refine r_tsw (pc := 1) C (1:Int32) 71 dX8_count_1 (by decide) (by decide) rfl (by decide) h (fun h => ?_) (fun n1 h => ?_)
  · refine r_aload_n (pc := 71) C dX8_count_71 rfl 0 rfl ?_
    refine gr_X8_10 (pc := 72) 1 C dX8_count_72 kx_0 rfl ?_
    refine gr_X8_73 (pc := 75) 2 C dX8_count_75 kx_1 rfl ?_
    refine gi_X8_116 (pc := 78) C dX8_count_78 kx_2 rfl ?_
    exact r_iretE (pc := 81) C dX8_count_81 h
  refine r_tsw (pc := 1) C (2:Int32) 82 dX8_count_1 (by decide) (by decide) rfl (by decide) h (fun h => ?_) (fun n2 h => ?_)
  · refine r_aload_n (pc := 82) C dX8_count_82 rfl 0 rfl ?_
    refine gr_X8_10 (pc := 83) 1 C dX8_count_83 kx_0 rfl ?_
    refine gr_X8_73 (pc := 86) 2 C dX8_count_86 kx_1 rfl ?_
    refine gi_X8_209 (pc := 89) C dX8_count_89 kx_2 rfl ?_
    exact r_iretE (pc := 92) C dX8_count_92 h
  refine r_tsw (pc := 1) C (3:Int32) 93 dX8_count_1 (by decide) (by decide) rfl (by decide) h (fun h => ?_) (fun n3 h => ?_)
  · refine r_aload_n (pc := 93) C dX8_count_93 rfl 0 rfl ?_
    refine gr_X8_10 (pc := 94) 1 C dX8_count_94 kx_0 rfl ?_
    refine gr_X8_73 (pc := 97) 2 C dX8_count_97 kx_1 rfl ?_
    refine gi_X8_154 (pc := 100) C dX8_count_100 kx_2 rfl ?_
    exact r_iretE (pc := 103) C dX8_count_103 h
  refine r_tsw (pc := 1) C (4:Int32) 104 dX8_count_1 (by decide) (by decide) rfl (by decide) h (fun h => ?_) (fun n4 h => ?_)
  · refine r_aload_n (pc := 104) C dX8_count_104 rfl 0 rfl ?_
    refine gr_X8_10 (pc := 105) 1 C dX8_count_105 kx_0 rfl ?_
    refine gr_X8_73 (pc := 108) 2 C dX8_count_108 kx_1 rfl ?_
    refine cv_X8_317 (pc := 111) C dX8_count_111 isTr_2 h (by decide) (Nat.le_of_ble_eq_true rfl) (fun q1 h => ?_)
    exact r_iretE (pc := 114) C dX8_count_114 h
  refine r_tsw (pc := 1) C (5:Int32) 115 dX8_count_1 (by decide) (by decide) rfl (by decide) h (fun h => ?_) (fun n5 h => ?_)
  · refine r_aload_n (pc := 115) C dX8_count_115 rfl 0 rfl ?_
    refine gr_X8_10 (pc := 116) 1 C dX8_count_116 kx_0 rfl ?_
    refine gr_X8_73 (pc := 119) 2 C dX8_count_119 kx_1 rfl ?_
    refine cv_X8_238 (pc := 122) C dX8_count_122 isTr_2 h (by decide) (Nat.le_of_ble_eq_true rfl) (fun q2 h => ?_)
    exact r_iretE (pc := 125) C dX8_count_125 h
  refine r_tsw (pc := 1) C (6:Int32) 126 dX8_count_1 (by decide) (by decide) rfl (by decide) h (fun h => ?_) (fun n6 h => ?_)
  · refine r_aload_n (pc := 126) C dX8_count_126 rfl 0 rfl ?_
    refine gr_X8_10 (pc := 127) 1 C dX8_count_127 kx_0 rfl ?_
    refine gr_X8_73 (pc := 130) 2 C dX8_count_130 kx_1 rfl ?_
    refine gi_X8_137 (pc := 133) C dX8_count_133 kx_2 rfl ?_
    exact r_iretE (pc := 136) C dX8_count_136 h
  refine r_tsw (pc := 1) C (7:Int32) 137 dX8_count_1 (by decide) (by decide) rfl (by decide) h (fun h => ?_) (fun n7 h => ?_)
  · refine r_aload_n (pc := 137) C dX8_count_137 rfl 0 rfl ?_
    refine gr_X8_10 (pc := 138) 1 C dX8_count_138 kx_0 rfl ?_
    refine gr_X8_157 (pc := 141) 21 C dX8_count_141 kx_1 rfl ?_
    refine gi_X8_161 (pc := 144) C dX8_count_144 kx_21 rfl ?_
    exact r_iretE (pc := 147) C dX8_count_147 h
  refine r_tsw (pc := 1) C (8:Int32) 148 dX8_count_1 (by decide) (by decide) rfl (by decide) h (fun h => ?_) (fun n8 h => ?_)
  · refine r_aload_n (pc := 148) C dX8_count_148 rfl 0 rfl ?_
    refine gr_X8_10 (pc := 149) 1 C dX8_count_149 kx_0 rfl ?_
    refine gr_X8_314 (pc := 152) 23 C dX8_count_152 kx_1 rfl ?_
    refine gi_X8_161 (pc := 155) C dX8_count_155 kx_23 rfl ?_
    exact r_iretE (pc := 158) C dX8_count_158 h
  refine r_tsw (pc := 1) C (9:Int32) 159 dX8_count_1 (by decide) (by decide) rfl (by decide) h (fun h => ?_) (fun n9 h => ?_)
  · refine r_aload_n (pc := 159) C dX8_count_159 rfl 0 rfl ?_
    refine gr_X8_43 (pc := 160) 67 C dX8_count_160 kx_0 rfl ?_
    refine gr_X8_283 (pc := 163) 68 C dX8_count_163 kx_67 rfl ?_
    refine gi_X8_161 (pc := 166) C dX8_count_166 kx_68 rfl ?_
    exact r_iretE (pc := 169) C dX8_count_169 h
  refine r_tsw (pc := 1) C (10:Int32) 170 dX8_count_1 (by decide) (by decide) rfl (by decide) h (fun h => ?_) (fun n10 h => ?_)
  · refine r_aload_n (pc := 170) C dX8_count_170 rfl 0 rfl ?_
    refine gr_X8_10 (pc := 171) 1 C dX8_count_171 kx_0 rfl ?_
    refine gi_X8_276 (pc := 174) C dX8_count_174 kx_1 rfl ?_
    exact r_iretE (pc := 177) C dX8_count_177 h
  refine r_tswD (pc := 1) C 178 dX8_count_1 (by have z0 := toInt_ne n0; have z1 := toInt_ne n1; have z2 := toInt_ne n2; have z3 := toInt_ne n3; have z4 := toInt_ne n4; have z5 := toInt_ne n5; have z6 := toInt_ne n6; have z7 := toInt_ne n7; have z8 := toInt_ne n8; have z9 := toInt_ne n9; have z10 := toInt_ne n10; simp only [Int32.reduceToInt, ne_eq] at *; omega) (by decide) ?_
  refine r_aload_n (pc := 178) C dX8_count_178 rfl 0 rfl ?_
  refine r_iconst (v := (1:Int32)) (pc := 179) C dX8_count_179 (by decide) ?_
  refine cv_X8_69 (pc := 180) C dX8_count_180  h (by decide) (Nat.le_of_ble_eq_true rfl) (fun q3 h => ?_)
  exact r_iretE (pc := 183) C dX8_count_183 h
theorem c_X8_count {G : Gv} {p1 : Int32} {w : Wd} {res : Int32 × Wd} (h : f_X8_count p1 w = some res) (l : Launch) : MC l yX8_count cX8_count 2 (some FieldType.int) 2 G SX w [.ref (G.2 0), .int p1] (some (.int res.1)) res.2 := mc_of (by decide +kernel) rfl (Nat.le_of_ble_eq_true rfl) rfl (fun V C => b_X8_count_E C h) l
def f_X8_told (p1 : Int32) (w : Wd) : Option (Int32 × Wd) := bd (f_X8_isWithin p1 (1:Int32) (5:Int32)) (fun q1 => (if q1 = 0 then bd (f_X8_error (1:Int32) w) (fun q2 => some (q2.1, q2.2)) else ald w 80 6 p1 (fun v3 => some (v3, w))))
set_option maxRecDepth 20000 in
theorem b_X8_told_E {G : Gv} {V : Vt} {res : Int32 × Wd}  (C : CX cX8_told RX8 G SX 2 2 (some FieldType.int) (some (.int res.1)) res.2 V) {p1 : Int32} {w : Wd} (h : f_X8_told p1 w = some res) : V w 0 [(0, .ref (G.2 0)), (1, .int p1)] [] := by
  unfold f_X8_told at h
  refine r_iload_n (pc := 0) C dX8_told_0 rfl 1 rfl ?_
  refine r_iconst (v := (1:Int32)) (pc := 1) C dX8_told_1 (by decide) ?_
  refine r_iconst (v := (5:Int32)) (pc := 2) C dX8_told_2 (by decide) ?_
  refine cv_X8_65 (pc := 3) C dX8_told_3  h (by decide) (Nat.le_of_ble_eq_true rfl) (fun q1 h => ?_)
  refine r_if_eq (pc := 6) C 18 dX8_told_6 (by decide) h (fun h => ?_) (fun h => ?_)
  · refine r_aload_n (pc := 18) C dX8_told_18 rfl 0 rfl ?_
    refine r_iconst (v := (1:Int32)) (pc := 19) C dX8_told_19 (by decide) ?_
    refine cv_X8_69 (pc := 20) C dX8_told_20  h (by decide) (Nat.le_of_ble_eq_true rfl) (fun q2 h => ?_)
    exact r_iretE (pc := 23) C dX8_told_23 h
  · refine r_aload_n (pc := 9) C dX8_told_9 rfl 0 rfl ?_
    refine gr_X8_58 (pc := 10) 80 C dX8_told_10 kx_0 rfl ?_
    refine r_iload_n (pc := 13) C dX8_told_13 rfl 1 rfl ?_
    refine r_ald (pc := 14) C dX8_told_14 h kx_80 (fun v3 h => ?_)
    refine r_goto (pc := 15) C 23 dX8_told_15 (by decide) ?_
    exact r_iretE (pc := 23) C dX8_told_23 h
theorem c_X8_told {G : Gv} {p1 : Int32} {w : Wd} {res : Int32 × Wd} (h : f_X8_told p1 w = some res) (l : Launch) : MC l yX8_told cX8_told 2 (some FieldType.int) 2 G SX w [.ref (G.2 0), .int p1] (some (.int res.1)) res.2 := mc_of (by decide +kernel) rfl (Nat.le_of_ble_eq_true rfl) rfl (fun V C => b_X8_told_E C h) l
