def f_X9_in (p0 : Int32) (p1 : Int32) (p2 : Int32) : Option (Int32) := (if p0 < p1 then some (0:Int32) else (if p2 < p0 then some (0:Int32) else some (1:Int32)))
set_option maxRecDepth 20000 in
theorem b_X9_in_E {G : Gv} {V : Vt} {w : Wd} {res : Int32}  (C : CX cX9_in RX9 G SM 3 1 (some FieldType.boolean) (some (.int res)) w V) {p0 : Int32} {p1 : Int32} {p2 : Int32} (h : f_X9_in p0 p1 p2 = some res) : V w 0 [(0, .int p0), (1, .int p1), (2, .int p2)] [] := by
  unfold f_X9_in at h
  refine r_iload_n (pc := 0) C dX9_in_0 rfl 0 rfl ?_
  refine r_iload_n (pc := 1) C dX9_in_1 rfl 1 rfl ?_
  refine r_icmp_lt (pc := 2) C 14 dX9_in_2 (by decide) h (fun h => ?_) (fun h => ?_)
  · refine r_iconst (v := (0:Int32)) (pc := 14) C dX9_in_14 (by decide) ?_
    exact r_zretP (pc := 15) C rfl dX9_in_15 h
  · refine r_iload_n (pc := 5) C dX9_in_5 rfl 0 rfl ?_
    refine r_iload_n (pc := 6) C dX9_in_6 rfl 2 rfl ?_
    refine r_icmp_gt (pc := 7) C 14 dX9_in_7 (by decide) h (fun h => ?_) (fun h => ?_)
    · refine r_iconst (v := (0:Int32)) (pc := 14) C dX9_in_14 (by decide) ?_
      exact r_zretP (pc := 15) C rfl dX9_in_15 h
    · refine r_iconst (v := (1:Int32)) (pc := 10) C dX9_in_10 (by decide) ?_
      refine r_goto (pc := 11) C 15 dX9_in_11 (by decide) ?_
      exact r_zretP (pc := 15) C rfl dX9_in_15 h
theorem c_X9_in {G : Gv} {p0 : Int32} {p1 : Int32} {p2 : Int32} {w : Wd} {res : Int32} (h : f_X9_in p0 p1 p2 = some res) (l : Launch) : MC l yX9_in cX9_in 3 (some FieldType.boolean) 1 G SM w [.int p0, .int p1, .int p2] (some (.int res)) w := mc_of (by decide +kernel) rfl (Nat.le_of_ble_eq_true rfl) rfl (fun V C => b_X9_in_E C h) l
def f_X9_errs (p1 : Int32) (w : Wd) : Option (Int32 × Wd) := ald w 105 6 ((-1000000000:Int32) - p1) (fun v1 => ast w 105 6 ((-1000000000:Int32) - p1) (v1 + (1:Int32)) (fun w2 => some (p1, w2)))
set_option maxRecDepth 20000 in
theorem b_X9_errs_E {G : Gv} {V : Vt} {res : Int32 × Wd}  (C : CX cX9_errs RX9 G SM 2 1 (some FieldType.int) (some (.int res.1)) res.2 V) {p1 : Int32} {w : Wd} (h : f_X9_errs p1 w = some res) : V w 0 [(0, .ref (G.2 100)), (1, .int p1)] [] := by
  unfold f_X9_errs at h
  refine r_aload_n (pc := 0) C dX9_errs_0 rfl 0 rfl ?_
  refine gr_X9_22 (pc := 1) 105 C dX9_errs_1 kx_100 rfl ?_
  refine r_ldc (pc := 4) C dX9_errs_4 qk_X9_52 ?_
  refine r_iload_n (pc := 6) C dX9_errs_6 rfl 1 rfl ?_
  refine r_isub (pc := 7) C dX9_errs_7 ?_
  refine r_dup2 (pc := 8) C dX9_errs_8 rfl rfl ?_
  refine r_ald (pc := 9) C dX9_errs_9 h kx_105 (fun v1 h => ?_)
  refine r_iconst (v := (1:Int32)) (pc := 10) C dX9_errs_10 (by decide) ?_
  refine r_iadd (pc := 11) C dX9_errs_11 ?_
  refine r_ast (pc := 12) C dX9_errs_12 h kx_105 (fun w2 h => ?_)
  refine r_iload_n (pc := 13) C dX9_errs_13 rfl 1 rfl ?_
  exact r_iretE (pc := 14) C dX9_errs_14 h
theorem c_X9_errs {G : Gv} {p1 : Int32} {w : Wd} {res : Int32 × Wd} (h : f_X9_errs p1 w = some res) (l : Launch) : MC l yX9_errs cX9_errs 2 (some FieldType.int) 1 G SM w [.ref (G.2 100), .int p1] (some (.int res.1)) res.2 := mc_of (by decide +kernel) rfl (Nat.le_of_ble_eq_true rfl) rfl (fun V C => b_X9_errs_E C h) l
def f_X9_held (p0 : Int32) (p1 : Int32) (p2 : Int32) : Option (Int32) := (if p1 ≤ p0 then (if p0 ≤ p2 then some p0 else some p2) else some p1)
set_option maxRecDepth 20000 in
theorem b_X9_held_E {G : Gv} {V : Vt} {w : Wd} {res : Int32}  (C : CX cX9_held RX9 G SM 3 1 (some FieldType.int) (some (.int res)) w V) {p0 : Int32} {p1 : Int32} {p2 : Int32} (h : f_X9_held p0 p1 p2 = some res) : V w 0 [(0, .int p0), (1, .int p1), (2, .int p2)] [] := by
  unfold f_X9_held at h
  refine r_iload_n (pc := 0) C dX9_held_0 rfl 0 rfl ?_
  refine r_iload_n (pc := 1) C dX9_held_1 rfl 1 rfl ?_
  refine r_icmp_ge (pc := 2) C 9 dX9_held_2 (by decide) h (fun h => ?_) (fun h => ?_)
  · refine r_iload_n (pc := 9) C dX9_held_9 rfl 0 rfl ?_
    refine r_iload_n (pc := 10) C dX9_held_10 rfl 2 rfl ?_
    refine r_icmp_le (pc := 11) C 18 dX9_held_11 (by decide) h (fun h => ?_) (fun h => ?_)
    · refine r_iload_n (pc := 18) C dX9_held_18 rfl 0 rfl ?_
      exact r_iretP (pc := 19) C dX9_held_19 h
    · refine r_iload_n (pc := 14) C dX9_held_14 rfl 2 rfl ?_
      refine r_goto (pc := 15) C 19 dX9_held_15 (by decide) ?_
      exact r_iretP (pc := 19) C dX9_held_19 h
  · refine r_iload_n (pc := 5) C dX9_held_5 rfl 1 rfl ?_
    refine r_goto (pc := 6) C 19 dX9_held_6 (by decide) ?_
    exact r_iretP (pc := 19) C dX9_held_19 h
theorem c_X9_held {G : Gv} {p0 : Int32} {p1 : Int32} {p2 : Int32} {w : Wd} {res : Int32} (h : f_X9_held p0 p1 p2 = some res) (l : Launch) : MC l yX9_held cX9_held 3 (some FieldType.int) 1 G SM w [.int p0, .int p1, .int p2] (some (.int res)) w := mc_of (by decide +kernel) rfl (Nat.le_of_ble_eq_true rfl) rfl (fun V C => b_X9_held_E C h) l
def fb_X9_moveAll_2 (b1 : Nat) (b2 : Nat) (rec2 : Int32 → Wd → Option (Wd)) (x3 : Int32) (w : Wd) : Option (Wd) := (if (229:Int32) ≤ x3 then some w else ald w b1 (lenM b1) x3 (fun v1 => ast w b2 (lenM b2) x3 v1 (fun w2 => rec2 (x3 + (1:Int32)) w2)))
set_option maxRecDepth 20000 in
theorem bb_X9_moveAll_2 {G : Gv} {V : Vt} {b1 : Nat} {b2 : Nat} {rec2 : Int32 → Wd → Option (Wd)} {res : Wd} (hb1 : isAm b1 = true) (hb2 : isAm b2 = true)  (C : CX cX9_moveAll RX9 G SM 4 1 none none res V) (hrec2 : ∀ (x3 : Int32) (w : Wd), rec2 x3 w = some res → V w 2 [(1, .ref (G.2 b1)), (2, .ref (G.2 b2)), (3, .int x3)] []) {x3 : Int32} {w : Wd} (h : fb_X9_moveAll_2 b1 b2 rec2 x3 w = some res) : V w 2 [(1, .ref (G.2 b1)), (2, .ref (G.2 b2)), (3, .int x3)] [] := by
  unfold fb_X9_moveAll_2 at h
  refine r_iload_n (pc := 2) C dX9_moveAll_2 rfl 2 rfl ?_
  refine r_sipush (v := (229:Int32)) (pc := 3) C dX9_moveAll_3 (by decide) ?_
  refine r_icmp_ge (pc := 6) C 21 dX9_moveAll_6 (by decide) h (fun h => ?_) (fun h => ?_)
  · exact r_vretE (pc := 21) C dX9_moveAll_21 h
  · refine r_aload_n (pc := 9) C dX9_moveAll_9 rfl 1 rfl ?_
    refine r_iload_n (pc := 10) C dX9_moveAll_10 rfl 2 rfl ?_
    refine r_aload_n (pc := 11) C dX9_moveAll_11 rfl 0 rfl ?_
    refine r_iload_n (pc := 12) C dX9_moveAll_12 rfl 2 rfl ?_
    refine r_ald (pc := 13) C dX9_moveAll_13 h (cAm_0 hb1) (fun v1 h => ?_)
    refine r_ast (pc := 14) C dX9_moveAll_14 h (cAm_0 hb2) (fun w2 h => ?_)
    refine r_iinc (v := (x3 + (1:Int32))) (L' := [(3, .int (x3 + (1:Int32))), (1, .ref (G.2 b1)), (2, .ref (G.2 b2))]) (pc := 15) C dX9_moveAll_15 2 rfl rfl (by decide) rfl ?_
    refine r_goto (pc := 18) C 2 dX9_moveAll_18 (by decide) ?_
    exact r_sub C [1, 2, 0] rfl (hrec2 _ _ h)
def f_X9_moveAll_2 (b1 : Nat) (b2 : Nat) : Int32 → Wd → Option (Wd) := lp (fun _ _ => none) (fun rec => fb_X9_moveAll_2 b1 b2 rec) FU
theorem b_X9_moveAll_2 {G : Gv} {V : Vt} {b1 : Nat} {b2 : Nat} {res : Wd} (hb1 : isAm b1 = true) (hb2 : isAm b2 = true)  (C : CX cX9_moveAll RX9 G SM 4 1 none none res V) : ∀ (x3 : Int32) (w : Wd), (f_X9_moveAll_2 b1 b2) x3 w = some res → V w 2 [(1, .ref (G.2 b1)), (2, .ref (G.2 b2)), (3, .int x3)] [] :=
  lp_ind (P := fun (g : Int32 → Wd → Option (Wd)) => ∀ (x3 : Int32) (w : Wd), g x3 w = some res → V w 2 [(1, .ref (G.2 b1)), (2, .ref (G.2 b2)), (3, .int x3)] []) (fun _ _ h => by cases h) (fun g hg _ _ h => bb_X9_moveAll_2 hb1 hb2 C hg h) FU
def f_X9_moveAll (b1 : Nat) (b2 : Nat) (w : Wd) : Option (Wd) := f_X9_moveAll_2 b1 b2 (0:Int32) w
set_option maxRecDepth 20000 in
theorem b_X9_moveAll_E {G : Gv} {V : Vt} {b1 : Nat} {b2 : Nat} {res : Wd} (hb1 : isAm b1 = true) (hb2 : isAm b2 = true)  (C : CX cX9_moveAll RX9 G SM 4 1 none none res V) {w : Wd} (h : f_X9_moveAll b1 b2 w = some res) : V w 0 [(0, .ref (G.2 100)), (1, .ref (G.2 b1)), (2, .ref (G.2 b2))] [] := by
  unfold f_X9_moveAll at h
  refine r_iconst (v := (0:Int32)) (pc := 0) C dX9_moveAll_0 (by decide) ?_
  refine r_istore_n (L' := [(3, .int (0:Int32)), (0, .ref (G.2 100)), (1, .ref (G.2 b1)), (2, .ref (G.2 b2))]) (pc := 1) C dX9_moveAll_1 rfl (by decide) rfl ?_
  exact r_sub C [2, 3, 0] rfl (b_X9_moveAll_2 hb1 hb2 C _ _ h)
theorem c_X9_moveAll {G : Gv} {b1 : Nat} {b2 : Nat} {w : Wd} {res : Wd} (hb1 : isAm b1 = true) (hb2 : isAm b2 = true) (h : f_X9_moveAll b1 b2 w = some res) (l : Launch) : MC l yX9_moveAll cX9_moveAll 4 none 1 G SM w [.ref (G.2 100), .ref (G.2 b1), .ref (G.2 b2)] none res := mc_of (by decide +kernel) rfl (Nat.le_of_ble_eq_true rfl) rfl (fun V C => b_X9_moveAll_E hb1 hb2 C h) l
def f_X9_its (w : Wd) (p1 : Int32) (p2 : Int32) : Option (Int32) := ald w 101 229 (((9:Int32) + ((4:Int32) * p1)) + p2) (fun v1 => some v1)
set_option maxRecDepth 20000 in
theorem b_X9_its_E {G : Gv} {V : Vt} {w : Wd} {res : Int32}  (C : CX cX9_its RX9 G SM 3 1 (some FieldType.int) (some (.int res)) w V) {p1 : Int32} {p2 : Int32} (h : f_X9_its w p1 p2 = some res) : V w 0 [(0, .ref (G.2 100)), (1, .int p1), (2, .int p2)] [] := by
  unfold f_X9_its at h
  refine r_aload_n (pc := 0) C dX9_its_0 rfl 0 rfl ?_
  refine gr_X9_7 (pc := 1) 101 C dX9_its_1 kx_100 rfl ?_
  refine r_bipush (v := (9:Int32)) (pc := 4) C dX9_its_4 (by decide) ?_
  refine r_iconst (v := (4:Int32)) (pc := 6) C dX9_its_6 (by decide) ?_
  refine r_iload_n (pc := 7) C dX9_its_7 rfl 1 rfl ?_
  refine r_imul (pc := 8) C dX9_its_8 ?_
  refine r_iadd (pc := 9) C dX9_its_9 ?_
  refine r_iload_n (pc := 10) C dX9_its_10 rfl 2 rfl ?_
  refine r_iadd (pc := 11) C dX9_its_11 ?_
  refine r_ald (pc := 12) C dX9_its_12 h kx_101 (fun v1 h => ?_)
  exact r_iretP (pc := 13) C dX9_its_13 h
theorem c_X9_its {G : Gv} {p1 : Int32} {p2 : Int32} {w : Wd} {res : Int32} (h : f_X9_its w p1 p2 = some res) (l : Launch) : MC l yX9_its cX9_its 3 (some FieldType.int) 1 G SM w [.ref (G.2 100), .int p1, .int p2] (some (.int res)) w := mc_of (by decide +kernel) rfl (Nat.le_of_ble_eq_true rfl) rfl (fun V C => b_X9_its_E C h) l
def f_X9_of (w : Wd) (p1 : Int32) (p2 : Int32) : Option (Int32) := ald w 101 229 (((29:Int32) + ((5:Int32) * p1)) + p2) (fun v1 => some v1)
set_option maxRecDepth 20000 in
theorem b_X9_of_E {G : Gv} {V : Vt} {w : Wd} {res : Int32}  (C : CX cX9_of RX9 G SM 3 1 (some FieldType.int) (some (.int res)) w V) {p1 : Int32} {p2 : Int32} (h : f_X9_of w p1 p2 = some res) : V w 0 [(0, .ref (G.2 100)), (1, .int p1), (2, .int p2)] [] := by
  unfold f_X9_of at h
  refine r_aload_n (pc := 0) C dX9_of_0 rfl 0 rfl ?_
  refine gr_X9_7 (pc := 1) 101 C dX9_of_1 kx_100 rfl ?_
  refine r_bipush (v := (29:Int32)) (pc := 4) C dX9_of_4 (by decide) ?_
  refine r_iconst (v := (5:Int32)) (pc := 6) C dX9_of_6 (by decide) ?_
  refine r_iload_n (pc := 7) C dX9_of_7 rfl 1 rfl ?_
  refine r_imul (pc := 8) C dX9_of_8 ?_
  refine r_iadd (pc := 9) C dX9_of_9 ?_
  refine r_iload_n (pc := 10) C dX9_of_10 rfl 2 rfl ?_
  refine r_iadd (pc := 11) C dX9_of_11 ?_
  refine r_ald (pc := 12) C dX9_of_12 h kx_101 (fun v1 h => ?_)
  exact r_iretP (pc := 13) C dX9_of_13 h
theorem c_X9_of {G : Gv} {p1 : Int32} {p2 : Int32} {w : Wd} {res : Int32} (h : f_X9_of w p1 p2 = some res) (l : Launch) : MC l yX9_of cX9_of 3 (some FieldType.int) 1 G SM w [.ref (G.2 100), .int p1, .int p2] (some (.int res)) w := mc_of (by decide +kernel) rfl (Nat.le_of_ble_eq_true rfl) rfl (fun V C => b_X9_of_E C h) l
def f_X9_gets (p1 : Int32) (p2 : Int32) (p3 : Int32) (w : Wd) : Option (Wd) := ast w 101 229 (((29:Int32) + ((5:Int32) * p1)) + p2) p3 (fun w1 => some w1)
set_option maxRecDepth 20000 in
theorem b_X9_gets_E {G : Gv} {V : Vt} {res : Wd}  (C : CX cX9_gets RX9 G SM 4 1 none none res V) {p1 : Int32} {p2 : Int32} {p3 : Int32} {w : Wd} (h : f_X9_gets p1 p2 p3 w = some res) : V w 0 [(0, .ref (G.2 100)), (1, .int p1), (2, .int p2), (3, .int p3)] [] := by
  unfold f_X9_gets at h
  refine r_aload_n (pc := 0) C dX9_gets_0 rfl 0 rfl ?_
  refine gr_X9_7 (pc := 1) 101 C dX9_gets_1 kx_100 rfl ?_
  refine r_bipush (v := (29:Int32)) (pc := 4) C dX9_gets_4 (by decide) ?_
  refine r_iconst (v := (5:Int32)) (pc := 6) C dX9_gets_6 (by decide) ?_
  refine r_iload_n (pc := 7) C dX9_gets_7 rfl 1 rfl ?_
  refine r_imul (pc := 8) C dX9_gets_8 ?_
  refine r_iadd (pc := 9) C dX9_gets_9 ?_
  refine r_iload_n (pc := 10) C dX9_gets_10 rfl 2 rfl ?_
  refine r_iadd (pc := 11) C dX9_gets_11 ?_
  refine r_iload_n (pc := 12) C dX9_gets_12 rfl 3 rfl ?_
  refine r_ast (pc := 13) C dX9_gets_13 h kx_101 (fun w1 h => ?_)
  exact r_vretE (pc := 14) C dX9_gets_14 h
theorem c_X9_gets {G : Gv} {p1 : Int32} {p2 : Int32} {p3 : Int32} {w : Wd} {res : Wd} (h : f_X9_gets p1 p2 p3 w = some res) (l : Launch) : MC l yX9_gets cX9_gets 4 none 1 G SM w [.ref (G.2 100), .int p1, .int p2, .int p3] none res := mc_of (by decide +kernel) rfl (Nat.le_of_ble_eq_true rfl) rfl (fun V C => b_X9_gets_E C h) l
theorem cv_X9_53 {cc : ByteArray} {G : Gv} {n hc : Nat} {rt : Option FieldType} {rv : Option Value} {w0 : Wd} {V : Vt} {w : Wd} {pc : Nat} {L : List (Nat × Value)} {rest : List Value} {α : Type} {res : α} {p0 : Int32} {p1 : Int32} {p2 : Int32} {K : Int32 → Option α} (C : CX cc RX9 G SM n hc rt rv w0 V) (hd : decode cc pc = .ok (.invokestatic 53, 3)) (h : bd (f_X9_in p0 p1 p2) K = some res) (hR : 1 + 1 ≤ hc) (hr : (rest.map fun v => v.category).sum ≤ 8) (kk : ∀ q, K q = some res → V w (pc + 3) L (.int q :: rest)) : V w pc L (.int p2 :: .int p1 :: .int p0 :: rest) := r_callS (As := [.int p0, .int p1, .int p2]) (rest := rest) (rvf := fun q => (some (.int q))) (wf := fun q => w) C hd h ql_X9_53 qt_X9_in qn_X9 qc_X9_in ⟨by decide +kernel, by decide +kernel, (by decide +kernel : (parseMethodDescriptor yX9_in.desc).map (fun d => d.parameters.length) = some 3)⟩ ⟨hR, by decide⟩ (fun q hq l => c_X9_in hq l) rfl hr kk
def f_X9_isPart (w : Wd) (p1 : Int32) : Option (Int32) := ald w 101 229 (3:Int32) (fun v1 => bd (f_X9_in p1 (0:Int32) (v1 - (1:Int32))) (fun q2 => zk q2 (some q2)))
set_option maxRecDepth 20000 in
theorem b_X9_isPart_E {G : Gv} {V : Vt} {w : Wd} {res : Int32}  (C : CX cX9_isPart RX9 G SM 2 2 (some FieldType.boolean) (some (.int res)) w V) {p1 : Int32} (h : f_X9_isPart w p1 = some res) : V w 0 [(0, .ref (G.2 100)), (1, .int p1)] [] := by
  unfold f_X9_isPart at h
  refine r_iload_n (pc := 0) C dX9_isPart_0 rfl 1 rfl ?_
  refine r_iconst (v := (0:Int32)) (pc := 1) C dX9_isPart_1 (by decide) ?_
  refine r_aload_n (pc := 2) C dX9_isPart_2 rfl 0 rfl ?_
  refine gr_X9_7 (pc := 3) 101 C dX9_isPart_3 kx_100 rfl ?_
  refine r_iconst (v := (3:Int32)) (pc := 6) C dX9_isPart_6 (by decide) ?_
  refine r_ald (pc := 7) C dX9_isPart_7 h kx_101 (fun v1 h => ?_)
  refine r_iconst (v := (1:Int32)) (pc := 8) C dX9_isPart_8 (by decide) ?_
  refine r_isub (pc := 9) C dX9_isPart_9 ?_
  refine cv_X9_53 (pc := 10) C dX9_isPart_10  h (by decide) (Nat.le_of_ble_eq_true rfl) (fun q2 h => ?_)
  refine r_zk h (fun hn h => ?_)
  exact r_zretP (pc := 13) C hn dX9_isPart_13 h
theorem c_X9_isPart {G : Gv} {p1 : Int32} {w : Wd} {res : Int32} (h : f_X9_isPart w p1 = some res) (l : Launch) : MC l yX9_isPart cX9_isPart 2 (some FieldType.boolean) 2 G SM w [.ref (G.2 100), .int p1] (some (.int res)) w := mc_of (by decide +kernel) rfl (Nat.le_of_ble_eq_true rfl) rfl (fun V C => b_X9_isPart_E C h) l
def f_X9_isPlayer (w : Wd) (p1 : Int32) : Option (Int32) := ald w 101 229 (8:Int32) (fun v1 => bd (f_X9_in p1 (0:Int32) (v1 - (1:Int32))) (fun q2 => zk q2 (some q2)))
set_option maxRecDepth 20000 in
theorem b_X9_isPlayer_E {G : Gv} {V : Vt} {w : Wd} {res : Int32}  (C : CX cX9_isPlayer RX9 G SM 2 2 (some FieldType.boolean) (some (.int res)) w V) {p1 : Int32} (h : f_X9_isPlayer w p1 = some res) : V w 0 [(0, .ref (G.2 100)), (1, .int p1)] [] := by
  unfold f_X9_isPlayer at h
  refine r_iload_n (pc := 0) C dX9_isPlayer_0 rfl 1 rfl ?_
  refine r_iconst (v := (0:Int32)) (pc := 1) C dX9_isPlayer_1 (by decide) ?_
  refine r_aload_n (pc := 2) C dX9_isPlayer_2 rfl 0 rfl ?_
  refine gr_X9_7 (pc := 3) 101 C dX9_isPlayer_3 kx_100 rfl ?_
  refine r_bipush (v := (8:Int32)) (pc := 6) C dX9_isPlayer_6 (by decide) ?_
  refine r_ald (pc := 8) C dX9_isPlayer_8 h kx_101 (fun v1 h => ?_)
  refine r_iconst (v := (1:Int32)) (pc := 9) C dX9_isPlayer_9 (by decide) ?_
  refine r_isub (pc := 10) C dX9_isPlayer_10 ?_
  refine cv_X9_53 (pc := 11) C dX9_isPlayer_11  h (by decide) (Nat.le_of_ble_eq_true rfl) (fun q2 h => ?_)
  refine r_zk h (fun hn h => ?_)
  exact r_zretP (pc := 14) C hn dX9_isPlayer_14 h
theorem c_X9_isPlayer {G : Gv} {p1 : Int32} {w : Wd} {res : Int32} (h : f_X9_isPlayer w p1 = some res) (l : Launch) : MC l yX9_isPlayer cX9_isPlayer 2 (some FieldType.boolean) 2 G SM w [.ref (G.2 100), .int p1] (some (.int res)) w := mc_of (by decide +kernel) rfl (Nat.le_of_ble_eq_true rfl) rfl (fun V C => b_X9_isPlayer_E C h) l
theorem cv_X9_57 {cc : ByteArray} {G : Gv} {n hc : Nat} {rt : Option FieldType} {rv : Option Value} {w0 : Wd} {V : Vt} {w : Wd} {pc : Nat} {L : List (Nat × Value)} {rest : List Value} {α : Type} {res : α} {p1 : Int32} {K : Int32 → Option α} (C : CX cc RX9 G SM n hc rt rv w0 V) (hd : decode cc pc = .ok (.invokevirtual 57, 3)) (h : bd (f_X9_isPart w p1) K = some res) (hR : 2 + 1 ≤ hc) (hr : (rest.map fun v => v.category).sum ≤ 8) (kk : ∀ q, K q = some res → V w (pc + 3) L (.int q :: rest)) : V w pc L (.int p1 :: .ref (G.2 100) :: rest) := r_callV (As := [.int p1]) (rest := rest) (rvf := fun q => (some (.int q))) (wf := fun q => w) C hd h ql_X9_57 qi_X9_isPart qs_X9_isPart qn_X9 qc_X9_isPart ⟨rfl, by decide +kernel, by decide +kernel, (by decide +kernel : (parseMethodDescriptor yX9_isPart.desc).map (fun d => d.parameters.length) = some 1)⟩ ⟨hR, by decide⟩ kx_100 rfl (fun q hq l => c_X9_isPart hq l) rfl hr kk
def f_X9_isOwn_13 (w : Wd) : Option (Int32) := some (1:Int32)
set_option maxRecDepth 20000 in
theorem b_X9_isOwn_13 {G : Gv} {V : Vt} {w : Wd} {res : Int32}  (C : CX cX9_isOwn RX9 G SM 2 3 (some FieldType.boolean) (some (.int res)) w V) (h : f_X9_isOwn_13 w = some res) : V w 13 [] [] := by
  unfold f_X9_isOwn_13 at h
  refine r_iconst (v := (1:Int32)) (pc := 13) C dX9_isOwn_13 (by decide) ?_
  refine r_goto (pc := 14) C 18 dX9_isOwn_14 (by decide) ?_
  exact r_zretP (pc := 18) C rfl dX9_isOwn_18 h
def f_X9_isOwn (w : Wd) (p1 : Int32) : Option (Int32) := (if p1 = (-1:Int32) then f_X9_isOwn_13 w else bd (f_X9_isPart w p1) (fun q1 => (if q1 = 0 then some (0:Int32) else f_X9_isOwn_13 w)))
set_option maxRecDepth 20000 in
theorem b_X9_isOwn_E {G : Gv} {V : Vt} {w : Wd} {res : Int32}  (C : CX cX9_isOwn RX9 G SM 2 3 (some FieldType.boolean) (some (.int res)) w V) {p1 : Int32} (h : f_X9_isOwn w p1 = some res) : V w 0 [(0, .ref (G.2 100)), (1, .int p1)] [] := by
  unfold f_X9_isOwn at h
  refine r_iload_n (pc := 0) C dX9_isOwn_0 rfl 1 rfl ?_
  refine r_iconst (v := (-1:Int32)) (pc := 1) C dX9_isOwn_1 (by decide) ?_
  refine r_icmp_eq (pc := 2) C 13 dX9_isOwn_2 (by decide) h (fun h => ?_) (fun h => ?_)
  · exact r_sub C [] rfl (b_X9_isOwn_13 C h)
  · refine r_aload_n (pc := 5) C dX9_isOwn_5 rfl 0 rfl ?_
    refine r_iload_n (pc := 6) C dX9_isOwn_6 rfl 1 rfl ?_
    refine cv_X9_57 (pc := 7) C dX9_isOwn_7  h (by decide) (Nat.le_of_ble_eq_true rfl) (fun q1 h => ?_)
    refine r_if_eq (pc := 10) C 17 dX9_isOwn_10 (by decide) h (fun h => ?_) (fun h => ?_)
    · refine r_iconst (v := (0:Int32)) (pc := 17) C dX9_isOwn_17 (by decide) ?_
      exact r_zretP (pc := 18) C rfl dX9_isOwn_18 h
    · exact r_sub C [] rfl (b_X9_isOwn_13 C h)
theorem c_X9_isOwn {G : Gv} {p1 : Int32} {w : Wd} {res : Int32} (h : f_X9_isOwn w p1 = some res) (l : Launch) : MC l yX9_isOwn cX9_isOwn 2 (some FieldType.boolean) 3 G SM w [.ref (G.2 100), .int p1] (some (.int res)) w := mc_of (by decide +kernel) rfl (Nat.le_of_ble_eq_true rfl) rfl (fun V C => b_X9_isOwn_E C h) l
def f_X9_isSet (w : Wd) (p1 : Int32) : Option (Int32) := ald w 101 229 (3:Int32) (fun v1 => bd (f_X9_in p1 (0:Int32) (((1:Int32) <<< (v1 &&& 31)) - (1:Int32))) (fun q2 => zk q2 (some q2)))
set_option maxRecDepth 20000 in
theorem b_X9_isSet_E {G : Gv} {V : Vt} {w : Wd} {res : Int32}  (C : CX cX9_isSet RX9 G SM 2 2 (some FieldType.boolean) (some (.int res)) w V) {p1 : Int32} (h : f_X9_isSet w p1 = some res) : V w 0 [(0, .ref (G.2 100)), (1, .int p1)] [] := by
  unfold f_X9_isSet at h
  refine r_iload_n (pc := 0) C dX9_isSet_0 rfl 1 rfl ?_
  refine r_iconst (v := (0:Int32)) (pc := 1) C dX9_isSet_1 (by decide) ?_
  refine r_iconst (v := (1:Int32)) (pc := 2) C dX9_isSet_2 (by decide) ?_
  refine r_aload_n (pc := 3) C dX9_isSet_3 rfl 0 rfl ?_
  refine gr_X9_7 (pc := 4) 101 C dX9_isSet_4 kx_100 rfl ?_
  refine r_iconst (v := (3:Int32)) (pc := 7) C dX9_isSet_7 (by decide) ?_
  refine r_ald (pc := 8) C dX9_isSet_8 h kx_101 (fun v1 h => ?_)
  refine r_ishl (pc := 9) C dX9_isSet_9 ?_
  refine r_iconst (v := (1:Int32)) (pc := 10) C dX9_isSet_10 (by decide) ?_
  refine r_isub (pc := 11) C dX9_isSet_11 ?_
  refine cv_X9_53 (pc := 12) C dX9_isSet_12  h (by decide) (Nat.le_of_ble_eq_true rfl) (fun q2 h => ?_)
  refine r_zk h (fun hn h => ?_)
  exact r_zretP (pc := 15) C hn dX9_isSet_15 h
theorem c_X9_isSet {G : Gv} {p1 : Int32} {w : Wd} {res : Int32} (h : f_X9_isSet w p1 = some res) (l : Launch) : MC l yX9_isSet cX9_isSet 2 (some FieldType.boolean) 2 G SM w [.ref (G.2 100), .int p1] (some (.int res)) w := mc_of (by decide +kernel) rfl (Nat.le_of_ble_eq_true rfl) rfl (fun V C => b_X9_isSet_E C h) l
def f_X9_has (p0 : Int32) (p1 : Int32) : Option (Int32) := (if ¬ ((p0 >>> (p1 &&& 31)) &&& (1:Int32)) = (1:Int32) then some (0:Int32) else some (1:Int32))
set_option maxRecDepth 20000 in
theorem b_X9_has_E {G : Gv} {V : Vt} {w : Wd} {res : Int32}  (C : CX cX9_has RX9 G SM 2 1 (some FieldType.boolean) (some (.int res)) w V) {p0 : Int32} {p1 : Int32} (h : f_X9_has p0 p1 = some res) : V w 0 [(0, .int p0), (1, .int p1)] [] := by
  unfold f_X9_has at h
  refine r_iload_n (pc := 0) C dX9_has_0 rfl 0 rfl ?_
  refine r_iload_n (pc := 1) C dX9_has_1 rfl 1 rfl ?_
  refine r_ishr (pc := 2) C dX9_has_2 ?_
  refine r_iconst (v := (1:Int32)) (pc := 3) C dX9_has_3 (by decide) ?_
  refine r_iand (pc := 4) C dX9_has_4 ?_
  refine r_iconst (v := (1:Int32)) (pc := 5) C dX9_has_5 (by decide) ?_
  refine r_icmp_ne (pc := 6) C 13 dX9_has_6 (by decide) h (fun h => ?_) (fun h => ?_)
  · refine r_iconst (v := (0:Int32)) (pc := 13) C dX9_has_13 (by decide) ?_
    exact r_zretP (pc := 14) C rfl dX9_has_14 h
  · refine r_iconst (v := (1:Int32)) (pc := 9) C dX9_has_9 (by decide) ?_
    refine r_goto (pc := 10) C 14 dX9_has_10 (by decide) ?_
    exact r_zretP (pc := 14) C rfl dX9_has_14 h
theorem c_X9_has {G : Gv} {p0 : Int32} {p1 : Int32} {w : Wd} {res : Int32} (h : f_X9_has p0 p1 = some res) (l : Launch) : MC l yX9_has cX9_has 2 (some FieldType.boolean) 1 G SM w [.int p0, .int p1] (some (.int res)) w := mc_of (by decide +kernel) rfl (Nat.le_of_ble_eq_true rfl) rfl (fun V C => b_X9_has_E C h) l
def fb_X9_bits_4 (rec4 : Int32 → Int32 → Int32 → Option (Int32)) (x0 : Int32) (x1 : Int32) (x2 : Int32) : Option (Int32) := (if (6:Int32) ≤ x2 then some x1 else lv (x1 + ((x0 >>> (x2 &&& 31)) &&& (1:Int32))) (fun v1 => rec4 x0 v1 (x2 + (1:Int32))))
set_option maxRecDepth 20000 in
theorem bb_X9_bits_4 {G : Gv} {V : Vt} {w : Wd} {rec4 : Int32 → Int32 → Int32 → Option (Int32)} {res : Int32}  (C : CX cX9_bits RX9 G SM 3 1 (some FieldType.int) (some (.int res)) w V) (hrec4 : ∀ (x0 : Int32) (x1 : Int32) (x2 : Int32), rec4 x0 x1 x2 = some res → V w 4 [(0, .int x0), (1, .int x1), (2, .int x2)] []) {x0 : Int32} {x1 : Int32} {x2 : Int32} (h : fb_X9_bits_4 rec4 x0 x1 x2 = some res) : V w 4 [(0, .int x0), (1, .int x1), (2, .int x2)] [] := by
  unfold fb_X9_bits_4 at h
  refine r_iload_n (pc := 4) C dX9_bits_4 rfl 2 rfl ?_
  refine r_bipush (v := (6:Int32)) (pc := 5) C dX9_bits_5 (by decide) ?_
  refine r_icmp_ge (pc := 7) C 24 dX9_bits_7 (by decide) h (fun h => ?_) (fun h => ?_)
  · refine r_iload_n (pc := 24) C dX9_bits_24 rfl 1 rfl ?_
    exact r_iretP (pc := 25) C dX9_bits_25 h
  · refine r_iload_n (pc := 10) C dX9_bits_10 rfl 1 rfl ?_
    refine r_iload_n (pc := 11) C dX9_bits_11 rfl 0 rfl ?_
    refine r_iload_n (pc := 12) C dX9_bits_12 rfl 2 rfl ?_
    refine r_ishr (pc := 13) C dX9_bits_13 ?_
    refine r_iconst (v := (1:Int32)) (pc := 14) C dX9_bits_14 (by decide) ?_
    refine r_iand (pc := 15) C dX9_bits_15 ?_
    refine r_iadd (pc := 16) C dX9_bits_16 ?_
    refine r_lv h (fun v1 h => ?_)
    refine r_istore_n (L' := [(1, .int v1), (0, .int x0), (2, .int x2)]) (pc := 17) C dX9_bits_17 rfl (by decide) rfl ?_
    refine r_iinc (v := (x2 + (1:Int32))) (L' := [(2, .int (x2 + (1:Int32))), (1, .int v1), (0, .int x0)]) (pc := 18) C dX9_bits_18 2 rfl rfl (by decide) rfl ?_
    refine r_goto (pc := 21) C 4 dX9_bits_21 (by decide) ?_
    exact r_sub C [2, 1, 0] rfl (hrec4 _ _ _ h)
def f_X9_bits_4 : Int32 → Int32 → Int32 → Option (Int32) := lp (fun _ _ _ => none) (fun rec => fb_X9_bits_4 rec) FU
theorem b_X9_bits_4 {G : Gv} {V : Vt} {w : Wd} {res : Int32}  (C : CX cX9_bits RX9 G SM 3 1 (some FieldType.int) (some (.int res)) w V) : ∀ (x0 : Int32) (x1 : Int32) (x2 : Int32), (f_X9_bits_4) x0 x1 x2 = some res → V w 4 [(0, .int x0), (1, .int x1), (2, .int x2)] [] :=
  lp_ind (P := fun (g : Int32 → Int32 → Int32 → Option (Int32)) => ∀ (x0 : Int32) (x1 : Int32) (x2 : Int32), g x0 x1 x2 = some res → V w 4 [(0, .int x0), (1, .int x1), (2, .int x2)] []) (fun _ _ _ h => by cases h) (fun g hg _ _ _ h => bb_X9_bits_4 C hg h) FU
def f_X9_bits (p0 : Int32) : Option (Int32) := f_X9_bits_4 p0 (0:Int32) (0:Int32)
set_option maxRecDepth 20000 in
theorem b_X9_bits_E {G : Gv} {V : Vt} {w : Wd} {res : Int32}  (C : CX cX9_bits RX9 G SM 3 1 (some FieldType.int) (some (.int res)) w V) {p0 : Int32} (h : f_X9_bits p0 = some res) : V w 0 [(0, .int p0)] [] := by
  unfold f_X9_bits at h
  refine r_iconst (v := (0:Int32)) (pc := 0) C dX9_bits_0 (by decide) ?_
  refine r_istore_n (L' := [(1, .int (0:Int32)), (0, .int p0)]) (pc := 1) C dX9_bits_1 rfl (by decide) rfl ?_
  refine r_iconst (v := (0:Int32)) (pc := 2) C dX9_bits_2 (by decide) ?_
  refine r_istore_n (L' := [(2, .int (0:Int32)), (1, .int (0:Int32)), (0, .int p0)]) (pc := 3) C dX9_bits_3 rfl (by decide) rfl ?_
  exact r_sub C [2, 1, 0] rfl (b_X9_bits_4 C _ _ _ h)
theorem c_X9_bits {G : Gv} {p0 : Int32} {w : Wd} {res : Int32} (h : f_X9_bits p0 = some res) (l : Launch) : MC l yX9_bits cX9_bits 3 (some FieldType.int) 1 G SM w [.int p0] (some (.int res)) w := mc_of (by decide +kernel) rfl (Nat.le_of_ble_eq_true rfl) rfl (fun V C => b_X9_bits_E C h) l
def f_X9_becomes (p1 : Int32) (p2 : Int32) (w : Wd) : Option (Int32 × Wd) := ald w 101 229 p1 (fun v1 => ast w 101 229 p1 p2 (fun w2 => some (v1, w2)))
set_option maxRecDepth 20000 in
theorem b_X9_becomes_E {G : Gv} {V : Vt} {res : Int32 × Wd}  (C : CX cX9_becomes RX9 G SM 4 1 (some FieldType.int) (some (.int res.1)) res.2 V) {p1 : Int32} {p2 : Int32} {w : Wd} (h : f_X9_becomes p1 p2 w = some res) : V w 0 [(0, .ref (G.2 100)), (1, .int p1), (2, .int p2)] [] := by
  unfold f_X9_becomes at h
  refine r_aload_n (pc := 0) C dX9_becomes_0 rfl 0 rfl ?_
  refine gr_X9_7 (pc := 1) 101 C dX9_becomes_1 kx_100 rfl ?_
  refine r_iload_n (pc := 4) C dX9_becomes_4 rfl 1 rfl ?_
  refine r_ald (pc := 5) C dX9_becomes_5 h kx_101 (fun v1 h => ?_)
  refine r_istore_n (L' := [(3, .int v1), (0, .ref (G.2 100)), (1, .int p1), (2, .int p2)]) (pc := 6) C dX9_becomes_6 rfl (by decide) rfl ?_
  refine r_aload_n (pc := 7) C dX9_becomes_7 rfl 1 rfl ?_
  refine gr_X9_7 (pc := 8) 101 C dX9_becomes_8 kx_100 rfl ?_
  refine r_iload_n (pc := 11) C dX9_becomes_11 rfl 2 rfl ?_
  refine r_iload_n (pc := 12) C dX9_becomes_12 rfl 3 rfl ?_
  refine r_ast (pc := 13) C dX9_becomes_13 h kx_101 (fun w2 h => ?_)
  refine r_iload_n (pc := 14) C dX9_becomes_14 rfl 0 rfl ?_
  exact r_iretE (pc := 15) C dX9_becomes_15 h
theorem c_X9_becomes {G : Gv} {p1 : Int32} {p2 : Int32} {w : Wd} {res : Int32 × Wd} (h : f_X9_becomes p1 p2 w = some res) (l : Launch) : MC l yX9_becomes cX9_becomes 4 (some FieldType.int) 1 G SM w [.ref (G.2 100), .int p1, .int p2] (some (.int res.1)) res.2 := mc_of (by decide +kernel) rfl (Nat.le_of_ble_eq_true rfl) rfl (fun V C => b_X9_becomes_E C h) l
theorem cv_X9_62 {cc : ByteArray} {G : Gv} {n hc : Nat} {rt : Option FieldType} {rv : Option Value} {w0 : Wd} {V : Vt} {w : Wd} {pc : Nat} {L : List (Nat × Value)} {rest : List Value} {α : Type} {res : α} {p1 : Int32} {K : Int32 × Wd → Option α} (C : CX cc RX9 G SM n hc rt rv w0 V) (hd : decode cc pc = .ok (.invokevirtual 62, 3)) (h : bd (f_X9_errs p1 w) K = some res) (hR : 1 + 1 ≤ hc) (hr : (rest.map fun v => v.category).sum ≤ 8) (kk : ∀ q, K q = some res → V q.2 (pc + 3) L (.int q.1 :: rest)) : V w pc L (.int p1 :: .ref (G.2 100) :: rest) := r_callV (As := [.int p1]) (rest := rest) (rvf := fun q => (some (.int q.1))) (wf := fun q => q.2) C hd h ql_X9_62 qi_X9_errs qs_X9_errs qn_X9 qc_X9_errs ⟨rfl, by decide +kernel, by decide +kernel, (by decide +kernel : (parseMethodDescriptor yX9_errs.desc).map (fun d => d.parameters.length) = some 1)⟩ ⟨hR, by decide⟩ kx_100 rfl (fun q hq l => c_X9_errs hq l) rfl hr kk
def f_X9_part_20 (w : Wd) : Option (Int32 × Wd) := bd (f_X9_errs (-1000000001:Int32) w) (fun q1 => some (q1.1, q1.2))
set_option maxRecDepth 20000 in
theorem b_X9_part_20 {G : Gv} {V : Vt} {res : Int32 × Wd}  (C : CX cX9_part RX9 G SM 4 2 (some FieldType.int) (some (.int res.1)) res.2 V) {w : Wd} (h : f_X9_part_20 w = some res) : V w 20 [(0, .ref (G.2 100))] [] := by
  unfold f_X9_part_20 at h
  refine r_aload_n (pc := 20) C dX9_part_20 rfl 0 rfl ?_
  refine r_ldc (pc := 21) C dX9_part_21 qk_X9_61 ?_
  refine cv_X9_62 (pc := 23) C dX9_part_23  h (by decide) (Nat.le_of_ble_eq_true rfl) (fun q1 h => ?_)
  exact r_iretE (pc := 26) C dX9_part_26 h
def f_X9_part (p1 : Int32) (p2 : Int32) (w : Wd) : Option (Int32 × Wd) := bd (f_X9_in p1 (0:Int32) (69:Int32)) (fun q1 => (if q1 = 0 then f_X9_part_20 w else bd (f_X9_in p2 (0:Int32) (99:Int32)) (fun q2 => (if ¬ q2 = 0 then ald w 101 229 (3:Int32) (fun v3 => (if ¬ v3 = (5:Int32) then ald w 101 229 (3:Int32) (fun v4 => lv ((9:Int32) + ((4:Int32) * v4)) (fun v5 => nz (10:Int32) (ast w 101 229 v5 (p1 / (10:Int32)) (fun w6 => nz (10:Int32) (ast w6 101 229 (v5 + (1:Int32)) (p1 - p1 / (10:Int32) * (10:Int32)) (fun w7 => ast w7 101 229 (v5 + (2:Int32)) p2 (fun w8 => ast w8 101 229 (v5 + (3:Int32)) (0:Int32) (fun w9 => ald w9 101 229 (3:Int32) (fun v10 => ast w9 101 229 (3:Int32) (v10 + (1:Int32)) (fun w11 => ald w11 101 229 (3:Int32) (fun v12 => some ((v12 - (1:Int32)), w11)))))))))))) else bd (f_X9_errs (-1000000004:Int32) w) (fun q13 => some (q13.1, q13.2)))) else f_X9_part_20 w))))
set_option maxRecDepth 20000 in
theorem b_X9_part_E {G : Gv} {V : Vt} {res : Int32 × Wd}  (C : CX cX9_part RX9 G SM 4 2 (some FieldType.int) (some (.int res.1)) res.2 V) {p1 : Int32} {p2 : Int32} {w : Wd} (h : f_X9_part p1 p2 w = some res) : V w 0 [(0, .ref (G.2 100)), (1, .int p1), (2, .int p2)] [] := by
  unfold f_X9_part at h
  refine r_iload_n (pc := 0) C dX9_part_0 rfl 1 rfl ?_
  refine r_iconst (v := (0:Int32)) (pc := 1) C dX9_part_1 (by decide) ?_
  refine r_bipush (v := (69:Int32)) (pc := 2) C dX9_part_2 (by decide) ?_
  refine cv_X9_53 (pc := 4) C dX9_part_4  h (by decide) (Nat.le_of_ble_eq_true rfl) (fun q1 h => ?_)
  refine r_if_eq (pc := 7) C 20 dX9_part_7 (by decide) h (fun h => ?_) (fun h => ?_)
  · exact r_sub C [0] rfl (b_X9_part_20 C h)
  · refine r_iload_n (pc := 10) C dX9_part_10 rfl 2 rfl ?_
    refine r_iconst (v := (0:Int32)) (pc := 11) C dX9_part_11 (by decide) ?_
    refine r_bipush (v := (99:Int32)) (pc := 12) C dX9_part_12 (by decide) ?_
    refine cv_X9_53 (pc := 14) C dX9_part_14  h (by decide) (Nat.le_of_ble_eq_true rfl) (fun q2 h => ?_)
    refine r_if_ne (pc := 17) C 27 dX9_part_17 (by decide) h (fun h => ?_) (fun h => ?_)
    · refine r_aload_n (pc := 27) C dX9_part_27 rfl 0 rfl ?_
      refine gr_X9_7 (pc := 28) 101 C dX9_part_28 kx_100 rfl ?_
      refine r_iconst (v := (3:Int32)) (pc := 31) C dX9_part_31 (by decide) ?_
      refine r_ald (pc := 32) C dX9_part_32 h kx_101 (fun v3 h => ?_)
      refine r_iconst (v := (5:Int32)) (pc := 33) C dX9_part_33 (by decide) ?_
      refine r_icmp_ne (pc := 34) C 44 dX9_part_34 (by decide) h (fun h => ?_) (fun h => ?_)
      · refine r_bipush (v := (9:Int32)) (pc := 44) C dX9_part_44 (by decide) ?_
        refine r_iconst (v := (4:Int32)) (pc := 46) C dX9_part_46 (by decide) ?_
        refine r_aload_n (pc := 47) C dX9_part_47 rfl 0 rfl ?_
        refine gr_X9_7 (pc := 48) 101 C dX9_part_48 kx_100 rfl ?_
        refine r_iconst (v := (3:Int32)) (pc := 51) C dX9_part_51 (by decide) ?_
        refine r_ald (pc := 52) C dX9_part_52 h kx_101 (fun v4 h => ?_)
        refine r_imul (pc := 53) C dX9_part_53 ?_
        refine r_iadd (pc := 54) C dX9_part_54 ?_
        refine r_lv h (fun v5 h => ?_)
        refine r_istore_n (L' := [(3, .int v5), (0, .ref (G.2 100)), (1, .int p1), (2, .int p2)]) (pc := 55) C dX9_part_55 rfl (by decide) rfl ?_
        refine r_aload_n (pc := 56) C dX9_part_56 rfl 1 rfl ?_
        refine gr_X9_7 (pc := 57) 101 C dX9_part_57 kx_100 rfl ?_
        refine r_iload_n (pc := 60) C dX9_part_60 rfl 0 rfl ?_
        refine r_iload_n (pc := 61) C dX9_part_61 rfl 2 rfl ?_
        refine r_bipush (v := (10:Int32)) (pc := 62) C dX9_part_62 (by decide) ?_
        refine r_nz_div (pc := 64) C dX9_part_64 h (fun h => ?_)
        refine r_ast (pc := 65) C dX9_part_65 h kx_101 (fun w6 h => ?_)
        refine r_aload_n (pc := 66) C dX9_part_66 rfl 1 rfl ?_
        refine gr_X9_7 (pc := 67) 101 C dX9_part_67 kx_100 rfl ?_
        refine r_iload_n (pc := 70) C dX9_part_70 rfl 0 rfl ?_
        refine r_iconst (v := (1:Int32)) (pc := 71) C dX9_part_71 (by decide) ?_
        refine r_iadd (pc := 72) C dX9_part_72 ?_
        refine r_iload_n (pc := 73) C dX9_part_73 rfl 2 rfl ?_
        refine r_bipush (v := (10:Int32)) (pc := 74) C dX9_part_74 (by decide) ?_
        refine r_nz_rem (pc := 76) C dX9_part_76 h (fun h => ?_)
        refine r_ast (pc := 77) C dX9_part_77 h kx_101 (fun w7 h => ?_)
        refine r_aload_n (pc := 78) C dX9_part_78 rfl 1 rfl ?_
        refine gr_X9_7 (pc := 79) 101 C dX9_part_79 kx_100 rfl ?_
        refine r_iload_n (pc := 82) C dX9_part_82 rfl 0 rfl ?_
        refine r_iconst (v := (2:Int32)) (pc := 83) C dX9_part_83 (by decide) ?_
        refine r_iadd (pc := 84) C dX9_part_84 ?_
        refine r_iload_n (pc := 85) C dX9_part_85 rfl 3 rfl ?_
        refine r_ast (pc := 86) C dX9_part_86 h kx_101 (fun w8 h => ?_)
        refine r_aload_n (pc := 87) C dX9_part_87 rfl 1 rfl ?_
        refine gr_X9_7 (pc := 88) 101 C dX9_part_88 kx_100 rfl ?_
        refine r_iload_n (pc := 91) C dX9_part_91 rfl 0 rfl ?_
        refine r_iconst (v := (3:Int32)) (pc := 92) C dX9_part_92 (by decide) ?_
        refine r_iadd (pc := 93) C dX9_part_93 ?_
        refine r_iconst (v := (0:Int32)) (pc := 94) C dX9_part_94 (by decide) ?_
        refine r_ast (pc := 95) C dX9_part_95 h kx_101 (fun w9 h => ?_)
        refine r_aload_n (pc := 96) C dX9_part_96 rfl 1 rfl ?_
        refine gr_X9_7 (pc := 97) 101 C dX9_part_97 kx_100 rfl ?_
        refine r_iconst (v := (3:Int32)) (pc := 100) C dX9_part_100 (by decide) ?_
        refine r_dup2 (pc := 101) C dX9_part_101 rfl rfl ?_
        refine r_ald (pc := 102) C dX9_part_102 h kx_101 (fun v10 h => ?_)
        refine r_iconst (v := (1:Int32)) (pc := 103) C dX9_part_103 (by decide) ?_
        refine r_iadd (pc := 104) C dX9_part_104 ?_
        refine r_ast (pc := 105) C dX9_part_105 h kx_101 (fun w11 h => ?_)
        refine r_aload_n (pc := 106) C dX9_part_106 rfl 1 rfl ?_
        refine gr_X9_7 (pc := 107) 101 C dX9_part_107 kx_100 rfl ?_
        refine r_iconst (v := (3:Int32)) (pc := 110) C dX9_part_110 (by decide) ?_
        refine r_ald (pc := 111) C dX9_part_111 h kx_101 (fun v12 h => ?_)
        refine r_iconst (v := (1:Int32)) (pc := 112) C dX9_part_112 (by decide) ?_
        refine r_isub (pc := 113) C dX9_part_113 ?_
        exact r_iretE (pc := 114) C dX9_part_114 h
      · refine r_aload_n (pc := 37) C dX9_part_37 rfl 0 rfl ?_
        refine r_ldc (pc := 38) C dX9_part_38 qk_X9_66 ?_
        refine cv_X9_62 (pc := 40) C dX9_part_40  h (by decide) (Nat.le_of_ble_eq_true rfl) (fun q13 h => ?_)
        exact r_iretE (pc := 43) C dX9_part_43 h
    · exact r_sub C [0] rfl (b_X9_part_20 C h)
theorem c_X9_part {G : Gv} {p1 : Int32} {p2 : Int32} {w : Wd} {res : Int32 × Wd} (h : f_X9_part p1 p2 w = some res) (l : Launch) : MC l yX9_part cX9_part 4 (some FieldType.int) 2 G SM w [.ref (G.2 100), .int p1, .int p2] (some (.int res.1)) res.2 := mc_of (by decide +kernel) rfl (Nat.le_of_ble_eq_true rfl) rfl (fun V C => b_X9_part_E C h) l
theorem cv_X9_67 {cc : ByteArray} {G : Gv} {n hc : Nat} {rt : Option FieldType} {rv : Option Value} {w0 : Wd} {V : Vt} {w : Wd} {pc : Nat} {L : List (Nat × Value)} {rest : List Value} {α : Type} {res : α} {p1 : Int32} {p2 : Int32} {K : Int32 → Option α} (C : CX cc RX9 G SM n hc rt rv w0 V) (hd : decode cc pc = .ok (.invokevirtual 67, 3)) (h : bd (f_X9_its w p1 p2) K = some res) (hR : 1 + 1 ≤ hc) (hr : (rest.map fun v => v.category).sum ≤ 8) (kk : ∀ q, K q = some res → V w (pc + 3) L (.int q :: rest)) : V w pc L (.int p2 :: .int p1 :: .ref (G.2 100) :: rest) := r_callV (As := [.int p1, .int p2]) (rest := rest) (rvf := fun q => (some (.int q))) (wf := fun q => w) C hd h ql_X9_67 qi_X9_its qs_X9_its qn_X9 qc_X9_its ⟨rfl, by decide +kernel, by decide +kernel, (by decide +kernel : (parseMethodDescriptor yX9_its.desc).map (fun d => d.parameters.length) = some 2)⟩ ⟨hR, by decide⟩ kx_100 rfl (fun q hq l => c_X9_its hq l) rfl hr kk
def f_X9_isEmpty_32 (w : Wd) : Option (Int32) := some (1:Int32)
set_option maxRecDepth 20000 in
theorem b_X9_isEmpty_32 {G : Gv} {V : Vt} {w : Wd} {res : Int32}  (C : CX cX9_isEmpty RX9 G SM 2 2 (some FieldType.boolean) (some (.int res)) w V) (h : f_X9_isEmpty_32 w = some res) : V w 32 [] [] := by
  unfold f_X9_isEmpty_32 at h
  refine r_iconst (v := (1:Int32)) (pc := 32) C dX9_isEmpty_32 (by decide) ?_
  refine r_goto (pc := 33) C 37 dX9_isEmpty_33 (by decide) ?_
  exact r_zretP (pc := 37) C rfl dX9_isEmpty_37 h
def f_X9_isEmpty (w : Wd) (p1 : Int32) : Option (Int32) := bd (f_X9_its w p1 (0:Int32)) (fun q1 => (if q1 = (3:Int32) then f_X9_isEmpty_32 w else bd (f_X9_its w p1 (0:Int32)) (fun q2 => (if ¬ q2 = (6:Int32) then some (0:Int32) else ald w 101 229 (0:Int32) (fun v3 => nz (2:Int32) ((if ¬ (v3 - v3 / (2:Int32) * (2:Int32)) = 0 then some (0:Int32) else f_X9_isEmpty_32 w)))))))
set_option maxRecDepth 20000 in
theorem b_X9_isEmpty_E {G : Gv} {V : Vt} {w : Wd} {res : Int32}  (C : CX cX9_isEmpty RX9 G SM 2 2 (some FieldType.boolean) (some (.int res)) w V) {p1 : Int32} (h : f_X9_isEmpty w p1 = some res) : V w 0 [(0, .ref (G.2 100)), (1, .int p1)] [] := by
  unfold f_X9_isEmpty at h
  refine r_aload_n (pc := 0) C dX9_isEmpty_0 rfl 0 rfl ?_
  refine r_iload_n (pc := 1) C dX9_isEmpty_1 rfl 1 rfl ?_
  refine r_iconst (v := (0:Int32)) (pc := 2) C dX9_isEmpty_2 (by decide) ?_
  refine cv_X9_67 (pc := 3) C dX9_isEmpty_3  h (by decide) (Nat.le_of_ble_eq_true rfl) (fun q1 h => ?_)
  refine r_iconst (v := (3:Int32)) (pc := 6) C dX9_isEmpty_6 (by decide) ?_
  refine r_icmp_eq (pc := 7) C 32 dX9_isEmpty_7 (by decide) h (fun h => ?_) (fun h => ?_)
  · exact r_sub C [] rfl (b_X9_isEmpty_32 C h)
  · refine r_aload_n (pc := 10) C dX9_isEmpty_10 rfl 0 rfl ?_
    refine r_iload_n (pc := 11) C dX9_isEmpty_11 rfl 1 rfl ?_
    refine r_iconst (v := (0:Int32)) (pc := 12) C dX9_isEmpty_12 (by decide) ?_
    refine cv_X9_67 (pc := 13) C dX9_isEmpty_13  h (by decide) (Nat.le_of_ble_eq_true rfl) (fun q2 h => ?_)
    refine r_bipush (v := (6:Int32)) (pc := 16) C dX9_isEmpty_16 (by decide) ?_
    refine r_icmp_ne (pc := 18) C 36 dX9_isEmpty_18 (by decide) h (fun h => ?_) (fun h => ?_)
    · refine r_iconst (v := (0:Int32)) (pc := 36) C dX9_isEmpty_36 (by decide) ?_
      exact r_zretP (pc := 37) C rfl dX9_isEmpty_37 h
    · refine r_aload_n (pc := 21) C dX9_isEmpty_21 rfl 0 rfl ?_
      refine gr_X9_7 (pc := 22) 101 C dX9_isEmpty_22 kx_100 rfl ?_
      refine r_iconst (v := (0:Int32)) (pc := 25) C dX9_isEmpty_25 (by decide) ?_
      refine r_ald (pc := 26) C dX9_isEmpty_26 h kx_101 (fun v3 h => ?_)
      refine r_iconst (v := (2:Int32)) (pc := 27) C dX9_isEmpty_27 (by decide) ?_
      refine r_nz_rem (pc := 28) C dX9_isEmpty_28 h (fun h => ?_)
      refine r_if_ne (pc := 29) C 36 dX9_isEmpty_29 (by decide) h (fun h => ?_) (fun h => ?_)
      · refine r_iconst (v := (0:Int32)) (pc := 36) C dX9_isEmpty_36 (by decide) ?_
        exact r_zretP (pc := 37) C rfl dX9_isEmpty_37 h
      · exact r_sub C [] rfl (b_X9_isEmpty_32 C h)
theorem c_X9_isEmpty {G : Gv} {p1 : Int32} {w : Wd} {res : Int32} (h : f_X9_isEmpty w p1 = some res) (l : Launch) : MC l yX9_isEmpty cX9_isEmpty 2 (some FieldType.boolean) 2 G SM w [.ref (G.2 100), .int p1] (some (.int res)) w := mc_of (by decide +kernel) rfl (Nat.le_of_ble_eq_true rfl) rfl (fun V C => b_X9_isEmpty_E C h) l
theorem cv_X9_71 {cc : ByteArray} {G : Gv} {n hc : Nat} {rt : Option FieldType} {rv : Option Value} {w0 : Wd} {V : Vt} {w : Wd} {pc : Nat} {L : List (Nat × Value)} {rest : List Value} {α : Type} {res : α} {p1 : Int32} {p2 : Int32} {K : Int32 → Option α} (C : CX cc RX9 G SM n hc rt rv w0 V) (hd : decode cc pc = .ok (.invokevirtual 71, 3)) (h : bd (f_X9_of w p1 p2) K = some res) (hR : 1 + 1 ≤ hc) (hr : (rest.map fun v => v.category).sum ≤ 8) (kk : ∀ q, K q = some res → V w (pc + 3) L (.int q :: rest)) : V w pc L (.int p2 :: .int p1 :: .ref (G.2 100) :: rest) := r_callV (As := [.int p1, .int p2]) (rest := rest) (rvf := fun q => (some (.int q))) (wf := fun q => w) C hd h ql_X9_71 qi_X9_of qs_X9_of qn_X9 qc_X9_of ⟨rfl, by decide +kernel, by decide +kernel, (by decide +kernel : (parseMethodDescriptor yX9_of.desc).map (fun d => d.parameters.length) = some 2)⟩ ⟨hR, by decide⟩ kx_100 rfl (fun q hq l => c_X9_of hq l) rfl hr kk
theorem cv_X9_74 {cc : ByteArray} {G : Gv} {n hc : Nat} {rt : Option FieldType} {rv : Option Value} {w0 : Wd} {V : Vt} {w : Wd} {pc : Nat} {L : List (Nat × Value)} {rest : List Value} {α : Type} {res : α} {p0 : Int32} {p1 : Int32} {K : Int32 → Option α} (C : CX cc RX9 G SM n hc rt rv w0 V) (hd : decode cc pc = .ok (.invokestatic 74, 3)) (h : bd (f_X9_has p0 p1) K = some res) (hR : 1 + 1 ≤ hc) (hr : (rest.map fun v => v.category).sum ≤ 8) (kk : ∀ q, K q = some res → V w (pc + 3) L (.int q :: rest)) : V w pc L (.int p1 :: .int p0 :: rest) := r_callS (As := [.int p0, .int p1]) (rest := rest) (rvf := fun q => (some (.int q))) (wf := fun q => w) C hd h ql_X9_74 qt_X9_has qn_X9 qc_X9_has ⟨by decide +kernel, by decide +kernel, (by decide +kernel : (parseMethodDescriptor yX9_has.desc).map (fun d => d.parameters.length) = some 2)⟩ ⟨hR, by decide⟩ (fun q hq l => c_X9_has hq l) rfl hr kk
theorem cv_X9_78 {cc : ByteArray} {G : Gv} {n hc : Nat} {rt : Option FieldType} {rv : Option Value} {w0 : Wd} {V : Vt} {w : Wd} {pc : Nat} {L : List (Nat × Value)} {rest : List Value} {α : Type} {res : α} {p1 : Int32} {K : Int32 → Option α} (C : CX cc RX9 G SM n hc rt rv w0 V) (hd : decode cc pc = .ok (.invokevirtual 78, 3)) (h : bd (f_X9_isEmpty w p1) K = some res) (hR : 2 + 1 ≤ hc) (hr : (rest.map fun v => v.category).sum ≤ 8) (kk : ∀ q, K q = some res → V w (pc + 3) L (.int q :: rest)) : V w pc L (.int p1 :: .ref (G.2 100) :: rest) := r_callV (As := [.int p1]) (rest := rest) (rvf := fun q => (some (.int q))) (wf := fun q => w) C hd h ql_X9_78 qi_X9_isEmpty qs_X9_isEmpty qn_X9 qc_X9_isEmpty ⟨rfl, by decide +kernel, by decide +kernel, (by decide +kernel : (parseMethodDescriptor yX9_isEmpty.desc).map (fun d => d.parameters.length) = some 1)⟩ ⟨hR, by decide⟩ kx_100 rfl (fun q hq l => c_X9_isEmpty hq l) rfl hr kk
def f_X9_may_74 (w : Wd) (x1 : Int32) (x2 : Int32) (x3 : Int32) (x4 : Int32) (x5 : Int32) (t0 : Int32) : Option (Int32) := bd (f_X9_of w x1 (4:Int32)) (fun q1 => (if ¬ q1 = (1:Int32) then bd (f_X9_its w x2 (0:Int32)) (fun q2 => (if q2 = (2:Int32) then (if ¬ x4 = 0 then some (0:Int32) else some (1:Int32)) else (if q2 = (3:Int32) then some (0:Int32) else (if q2 = (4:Int32) then bd (f_X9_its w x2 (2:Int32)) (fun q3 => (if q3 ≤ (50:Int32) then zk t0 (some t0) else zk x3 (some x3))) else (if q2 = (5:Int32) then some (1:Int32) else (if q2 = (6:Int32) then (if x5 = 0 then some (0:Int32) else bd (f_X9_isEmpty w x2) (fun q4 => (if ¬ q4 = 0 then some (0:Int32) else some (1:Int32)))) else zk t0 (some t0))))))) else some (0:Int32)))
set_option maxRecDepth 20000 in
theorem b_X9_may_74 {G : Gv} {V : Vt} {w : Wd} {res : Int32}  (C : CX cX9_may RX9 G SM 7 3 (some FieldType.boolean) (some (.int res)) w V) {x1 : Int32} {x2 : Int32} {x3 : Int32} {x4 : Int32} {x5 : Int32} {t0 : Int32} (h : f_X9_may_74 w x1 x2 x3 x4 x5 t0 = some res) : V w 74 [(0, .ref (G.2 100)), (1, .int x1), (2, .int x2), (3, .int x3), (4, .int x4), (5, .int x5)] [.int t0] := by
  unfold f_X9_may_74 at h
  refine r_istore (L' := [(6, .int t0), (0, .ref (G.2 100)), (1, .int x1), (2, .int x2), (3, .int x3), (4, .int x4), (5, .int x5)]) (pc := 74) C dX9_may_74 (by decide) rfl ?_
  refine r_aload_n (pc := 76) C dX9_may_76 rfl 1 rfl ?_
  refine r_iload_n (pc := 77) C dX9_may_77 rfl 2 rfl ?_
  refine r_iconst (v := (4:Int32)) (pc := 78) C dX9_may_78 (by decide) ?_
  refine cv_X9_71 (pc := 79) C dX9_may_79  h (by decide) (Nat.le_of_ble_eq_true rfl) (fun q1 h => ?_)
  refine r_iconst (v := (1:Int32)) (pc := 82) C dX9_may_82 (by decide) ?_
  refine r_icmp_ne (pc := 83) C 88 dX9_may_83 (by decide) h (fun h => ?_) (fun h => ?_)
  · refine r_aload_n (pc := 88) C dX9_may_88 rfl 1 rfl ?_
    refine r_iload_n (pc := 89) C dX9_may_89 rfl 3 rfl ?_
    refine r_iconst (v := (0:Int32)) (pc := 90) C dX9_may_90 (by decide) ?_
    refine cv_X9_67 (pc := 91) C dX9_may_91  h (by decide) (Nat.le_of_ble_eq_true rfl) (fun q2 h => ?_)
    refine r_tsw (pc := 94) C (2:Int32) 128 dX9_may_94 (by decide) (by decide) rfl (by decide) h (fun h => ?_) (fun n0 h => ?_)
    · refine r_iload (pc := 128) C dX9_may_128 5 rfl ?_
      refine r_if_ne (pc := 130) C 137 dX9_may_130 (by decide) h (fun h => ?_) (fun h => ?_)
      · refine r_iconst (v := (0:Int32)) (pc := 137) C dX9_may_137 (by decide) ?_
        exact r_zretP (pc := 138) C rfl dX9_may_138 h
      · refine r_iconst (v := (1:Int32)) (pc := 133) C dX9_may_133 (by decide) ?_
        refine r_goto (pc := 134) C 138 dX9_may_134 (by decide) ?_
        exact r_zretP (pc := 138) C rfl dX9_may_138 h
    refine r_tsw (pc := 94) C (3:Int32) 141 dX9_may_94 (by decide) (by decide) rfl (by decide) h (fun h => ?_) (fun n1 h => ?_)
    · refine r_iconst (v := (0:Int32)) (pc := 141) C dX9_may_141 (by decide) ?_
      exact r_zretP (pc := 142) C rfl dX9_may_142 h
    refine r_tsw (pc := 94) C (4:Int32) 143 dX9_may_94 (by decide) (by decide) rfl (by decide) h (fun h => ?_) (fun n2 h => ?_)
    · refine r_aload_n (pc := 143) C dX9_may_143 rfl 1 rfl ?_
      refine r_iload_n (pc := 144) C dX9_may_144 rfl 3 rfl ?_
      refine r_iconst (v := (2:Int32)) (pc := 145) C dX9_may_145 (by decide) ?_
      refine cv_X9_67 (pc := 146) C dX9_may_146  h (by decide) (Nat.le_of_ble_eq_true rfl) (fun q3 h => ?_)
      refine r_bipush (v := (50:Int32)) (pc := 149) C dX9_may_149 (by decide) ?_
      refine r_icmp_le (pc := 151) C 158 dX9_may_151 (by decide) h (fun h => ?_) (fun h => ?_)
      · refine r_iload (pc := 158) C dX9_may_158 0 rfl ?_
        refine r_zk h (fun hn h => ?_)
        exact r_zretP (pc := 160) C hn dX9_may_160 h
      · refine r_iload_n (pc := 154) C dX9_may_154 rfl 4 rfl ?_
        refine r_goto (pc := 155) C 160 dX9_may_155 (by decide) ?_
        refine r_zk h (fun hn h => ?_)
        exact r_zretP (pc := 160) C hn dX9_may_160 h
    refine r_tsw (pc := 94) C (5:Int32) 139 dX9_may_94 (by decide) (by decide) rfl (by decide) h (fun h => ?_) (fun n3 h => ?_)
    · refine r_iconst (v := (1:Int32)) (pc := 139) C dX9_may_139 (by decide) ?_
      exact r_zretP (pc := 140) C rfl dX9_may_140 h
    refine r_tsw (pc := 94) C (6:Int32) 161 dX9_may_94 (by decide) (by decide) rfl (by decide) h (fun h => ?_) (fun n4 h => ?_)
    · refine r_iload (pc := 161) C dX9_may_161 6 rfl ?_
      refine r_if_eq (pc := 163) C 178 dX9_may_163 (by decide) h (fun h => ?_) (fun h => ?_)
      · refine r_iconst (v := (0:Int32)) (pc := 178) C dX9_may_178 (by decide) ?_
        exact r_zretP (pc := 179) C rfl dX9_may_179 h
      · refine r_aload_n (pc := 166) C dX9_may_166 rfl 1 rfl ?_
        refine r_iload_n (pc := 167) C dX9_may_167 rfl 3 rfl ?_
        refine cv_X9_78 (pc := 168) C dX9_may_168  h (by decide) (Nat.le_of_ble_eq_true rfl) (fun q4 h => ?_)
        refine r_if_ne (pc := 171) C 178 dX9_may_171 (by decide) h (fun h => ?_) (fun h => ?_)
        · refine r_iconst (v := (0:Int32)) (pc := 178) C dX9_may_178 (by decide) ?_
          exact r_zretP (pc := 179) C rfl dX9_may_179 h
        · refine r_iconst (v := (1:Int32)) (pc := 174) C dX9_may_174 (by decide) ?_
          refine r_goto (pc := 175) C 179 dX9_may_175 (by decide) ?_
          exact r_zretP (pc := 179) C rfl dX9_may_179 h
    refine r_tswD (pc := 94) C 180 dX9_may_94 (by have z0 := toInt_ne n0; have z1 := toInt_ne n1; have z2 := toInt_ne n2; have z3 := toInt_ne n3; have z4 := toInt_ne n4; simp only [Int32.reduceToInt, ne_eq] at *; omega) (by decide) ?_
    refine r_iload (pc := 180) C dX9_may_180 0 rfl ?_
    refine r_zk h (fun hn h => ?_)
    exact r_zretP (pc := 182) C hn dX9_may_182 h
  · refine r_iconst (v := (0:Int32)) (pc := 86) C dX9_may_86 (by decide) ?_
    exact r_zretP (pc := 87) C rfl dX9_may_87 h
def f_X9_may_73 (w : Wd) (x1 : Int32) (x2 : Int32) (x3 : Int32) (x4 : Int32) (x5 : Int32) : Option (Int32) := f_X9_may_74 w x1 x2 x3 x4 x5 (0:Int32)
set_option maxRecDepth 20000 in
theorem b_X9_may_73 {G : Gv} {V : Vt} {w : Wd} {res : Int32}  (C : CX cX9_may RX9 G SM 7 3 (some FieldType.boolean) (some (.int res)) w V) {x1 : Int32} {x2 : Int32} {x3 : Int32} {x4 : Int32} {x5 : Int32} (h : f_X9_may_73 w x1 x2 x3 x4 x5 = some res) : V w 73 [(0, .ref (G.2 100)), (1, .int x1), (2, .int x2), (3, .int x3), (4, .int x4), (5, .int x5)] [] := by
  unfold f_X9_may_73 at h
  refine r_iconst (v := (0:Int32)) (pc := 73) C dX9_may_73 (by decide) ?_
  exact r_sub C [0, 1, 2, 3, 4, 5] rfl (b_X9_may_74 C h)
def f_X9_may_38 (w : Wd) (x1 : Int32) (x2 : Int32) (x3 : Int32) (x4 : Int32) (t0 : Int32) : Option (Int32) := ald w 101 229 (1:Int32) (fun v1 => (if ¬ v1 = (1:Int32) then (if x3 = 0 then f_X9_may_73 w x1 x2 x3 x4 t0 else (if ¬ x4 = 0 then f_X9_may_73 w x1 x2 x3 x4 t0 else (if ¬ t0 = 0 then f_X9_may_73 w x1 x2 x3 x4 t0 else f_X9_may_74 w x1 x2 x3 x4 t0 (1:Int32)))) else f_X9_may_74 w x1 x2 x3 x4 t0 t0))
set_option maxRecDepth 20000 in
theorem b_X9_may_38 {G : Gv} {V : Vt} {w : Wd} {res : Int32}  (C : CX cX9_may RX9 G SM 7 3 (some FieldType.boolean) (some (.int res)) w V) {x1 : Int32} {x2 : Int32} {x3 : Int32} {x4 : Int32} {t0 : Int32} (h : f_X9_may_38 w x1 x2 x3 x4 t0 = some res) : V w 38 [(0, .ref (G.2 100)), (1, .int x1), (2, .int x2), (3, .int x3), (4, .int x4)] [.int t0] := by
  unfold f_X9_may_38 at h
  refine r_istore (L' := [(5, .int t0), (0, .ref (G.2 100)), (1, .int x1), (2, .int x2), (3, .int x3), (4, .int x4)]) (pc := 38) C dX9_may_38 (by decide) rfl ?_
  refine r_aload_n (pc := 40) C dX9_may_40 rfl 1 rfl ?_
  refine gr_X9_7 (pc := 41) 101 C dX9_may_41 kx_100 rfl ?_
  refine r_iconst (v := (1:Int32)) (pc := 44) C dX9_may_44 (by decide) ?_
  refine r_ald (pc := 45) C dX9_may_45 h kx_101 (fun v1 h => ?_)
  refine r_iconst (v := (1:Int32)) (pc := 46) C dX9_may_46 (by decide) ?_
  refine r_icmp_ne (pc := 47) C 55 dX9_may_47 (by decide) h (fun h => ?_) (fun h => ?_)
  · refine r_iload_n (pc := 55) C dX9_may_55 rfl 4 rfl ?_
    refine r_if_eq (pc := 56) C 73 dX9_may_56 (by decide) h (fun h => ?_) (fun h => ?_)
    · exact r_sub C [1, 2, 3, 4, 5, 0] rfl (b_X9_may_73 C h)
    · refine r_iload (pc := 59) C dX9_may_59 5 rfl ?_
      refine r_if_ne (pc := 61) C 73 dX9_may_61 (by decide) h (fun h => ?_) (fun h => ?_)
      · exact r_sub C [1, 2, 3, 4, 5, 0] rfl (b_X9_may_73 C h)
      · refine r_iload (pc := 64) C dX9_may_64 0 rfl ?_
        refine r_if_ne (pc := 66) C 73 dX9_may_66 (by decide) h (fun h => ?_) (fun h => ?_)
        · exact r_sub C [1, 2, 3, 4, 5, 0] rfl (b_X9_may_73 C h)
        · refine r_iconst (v := (1:Int32)) (pc := 69) C dX9_may_69 (by decide) ?_
          refine r_goto (pc := 70) C 74 dX9_may_70 (by decide) ?_
          exact r_sub C [1, 2, 3, 4, 5, 0] rfl (b_X9_may_74 C h)
  · refine r_iload (pc := 50) C dX9_may_50 0 rfl ?_
    refine r_goto (pc := 52) C 74 dX9_may_52 (by decide) ?_
    exact r_sub C [1, 2, 3, 4, 5, 0] rfl (b_X9_may_74 C h)
def f_X9_may (w : Wd) (p1 : Int32) (p2 : Int32) : Option (Int32) := bd (f_X9_of w p1 (0:Int32)) (fun q1 => bd (f_X9_has q1 p2) (fun q2 => bd (f_X9_of w p1 (1:Int32)) (fun q3 => bd (f_X9_has q3 p2) (fun q4 => bd (f_X9_of w p1 (2:Int32)) (fun q5 => (if ¬ q5 = p2 then f_X9_may_38 w p1 p2 q2 q4 (0:Int32) else f_X9_may_38 w p1 p2 q2 q4 (1:Int32)))))))
set_option maxRecDepth 20000 in
theorem b_X9_may_E {G : Gv} {V : Vt} {w : Wd} {res : Int32}  (C : CX cX9_may RX9 G SM 7 3 (some FieldType.boolean) (some (.int res)) w V) {p1 : Int32} {p2 : Int32} (h : f_X9_may w p1 p2 = some res) : V w 0 [(0, .ref (G.2 100)), (1, .int p1), (2, .int p2)] [] := by
  unfold f_X9_may at h
  refine r_aload_n (pc := 0) C dX9_may_0 rfl 0 rfl ?_
  refine r_iload_n (pc := 1) C dX9_may_1 rfl 1 rfl ?_
  refine r_iconst (v := (0:Int32)) (pc := 2) C dX9_may_2 (by decide) ?_
  refine cv_X9_71 (pc := 3) C dX9_may_3  h (by decide) (Nat.le_of_ble_eq_true rfl) (fun q1 h => ?_)
  refine r_iload_n (pc := 6) C dX9_may_6 rfl 2 rfl ?_
  refine cv_X9_74 (pc := 7) C dX9_may_7  h (by decide) (Nat.le_of_ble_eq_true rfl) (fun q2 h => ?_)
  refine r_istore_n (L' := [(3, .int q2), (0, .ref (G.2 100)), (1, .int p1), (2, .int p2)]) (pc := 10) C dX9_may_10 rfl (by decide) rfl ?_
  refine r_aload_n (pc := 11) C dX9_may_11 rfl 1 rfl ?_
  refine r_iload_n (pc := 12) C dX9_may_12 rfl 2 rfl ?_
  refine r_iconst (v := (1:Int32)) (pc := 13) C dX9_may_13 (by decide) ?_
  refine cv_X9_71 (pc := 14) C dX9_may_14  h (by decide) (Nat.le_of_ble_eq_true rfl) (fun q3 h => ?_)
  refine r_iload_n (pc := 17) C dX9_may_17 rfl 3 rfl ?_
  refine cv_X9_74 (pc := 18) C dX9_may_18  h (by decide) (Nat.le_of_ble_eq_true rfl) (fun q4 h => ?_)
  refine r_istore (L' := [(4, .int q4), (3, .int q2), (0, .ref (G.2 100)), (1, .int p1), (2, .int p2)]) (pc := 21) C dX9_may_21 (by decide) rfl ?_
  refine r_aload_n (pc := 23) C dX9_may_23 rfl 2 rfl ?_
  refine r_iload_n (pc := 24) C dX9_may_24 rfl 3 rfl ?_
  refine r_iconst (v := (2:Int32)) (pc := 25) C dX9_may_25 (by decide) ?_
  refine cv_X9_71 (pc := 26) C dX9_may_26  h (by decide) (Nat.le_of_ble_eq_true rfl) (fun q5 h => ?_)
  refine r_iload_n (pc := 29) C dX9_may_29 rfl 4 rfl ?_
  refine r_icmp_ne (pc := 30) C 37 dX9_may_30 (by decide) h (fun h => ?_) (fun h => ?_)
  · refine r_iconst (v := (0:Int32)) (pc := 37) C dX9_may_37 (by decide) ?_
    exact r_sub C [2, 3, 4, 1, 0] rfl (b_X9_may_38 C h)
  · refine r_iconst (v := (1:Int32)) (pc := 33) C dX9_may_33 (by decide) ?_
    refine r_goto (pc := 34) C 38 dX9_may_34 (by decide) ?_
    exact r_sub C [2, 3, 4, 1, 0] rfl (b_X9_may_38 C h)
theorem c_X9_may {G : Gv} {p1 : Int32} {p2 : Int32} {w : Wd} {res : Int32} (h : f_X9_may w p1 p2 = some res) (l : Launch) : MC l yX9_may cX9_may 7 (some FieldType.boolean) 3 G SM w [.ref (G.2 100), .int p1, .int p2] (some (.int res)) w := mc_of (by decide +kernel) rfl (Nat.le_of_ble_eq_true rfl) rfl (fun V C => b_X9_may_E C h) l
theorem cv_X9_81 {cc : ByteArray} {G : Gv} {n hc : Nat} {rt : Option FieldType} {rv : Option Value} {w0 : Wd} {V : Vt} {w : Wd} {pc : Nat} {L : List (Nat × Value)} {rest : List Value} {α : Type} {res : α} {p1 : Int32} {p2 : Int32} {K : Int32 → Option α} (C : CX cc RX9 G SM n hc rt rv w0 V) (hd : decode cc pc = .ok (.invokevirtual 81, 3)) (h : bd (f_X9_may w p1 p2) K = some res) (hR : 3 + 1 ≤ hc) (hr : (rest.map fun v => v.category).sum ≤ 8) (kk : ∀ q, K q = some res → V w (pc + 3) L (.int q :: rest)) : V w pc L (.int p2 :: .int p1 :: .ref (G.2 100) :: rest) := r_callV (As := [.int p1, .int p2]) (rest := rest) (rvf := fun q => (some (.int q))) (wf := fun q => w) C hd h ql_X9_81 qi_X9_may qs_X9_may qn_X9 qc_X9_may ⟨rfl, by decide +kernel, by decide +kernel, (by decide +kernel : (parseMethodDescriptor yX9_may.desc).map (fun d => d.parameters.length) = some 2)⟩ ⟨hR, by decide⟩ kx_100 rfl (fun q hq l => c_X9_may hq l) rfl hr kk
def f_X9_maySet_32 (w : Wd) (rec4 : Int32 → Int32 → Int32 → Option (Int32)) (x1 : Int32) (x3 : Int32) (t0 : Int32) (t1 : Int32) : Option (Int32) := lv (t1 ||| t0) (fun v1 => rec4 x1 v1 (x3 + (1:Int32)))
set_option maxRecDepth 20000 in
theorem b_X9_maySet_32 {G : Gv} {V : Vt} {w : Wd} {rec4 : Int32 → Int32 → Int32 → Option (Int32)} {res : Int32}  (C : CX cX9_maySet RX9 G SM 4 4 (some FieldType.int) (some (.int res)) w V) (hrec4 : ∀ (x1 : Int32) (x2 : Int32) (x3 : Int32), rec4 x1 x2 x3 = some res → V w 4 [(0, .ref (G.2 100)), (1, .int x1), (2, .int x2), (3, .int x3)] []) {x1 : Int32} {x3 : Int32} {t0 : Int32} {t1 : Int32} (h : f_X9_maySet_32 w rec4 x1 x3 t0 t1 = some res) : V w 32 [(0, .ref (G.2 100)), (1, .int x1), (3, .int x3)] [.int t0, .int t1] := by
  unfold f_X9_maySet_32 at h
  refine r_ior (pc := 32) C dX9_maySet_32 ?_
  refine r_lv h (fun v1 h => ?_)
  refine r_istore_n (L' := [(2, .int v1), (0, .ref (G.2 100)), (1, .int x1), (3, .int x3)]) (pc := 33) C dX9_maySet_33 rfl (by decide) rfl ?_
  refine r_iinc (v := (x3 + (1:Int32))) (L' := [(3, .int (x3 + (1:Int32))), (2, .int v1), (0, .ref (G.2 100)), (1, .int x1)]) (pc := 34) C dX9_maySet_34 3 rfl rfl (by decide) rfl ?_
  refine r_goto (pc := 37) C 4 dX9_maySet_37 (by decide) ?_
  exact r_sub C [2, 3, 1, 0] rfl (hrec4 _ _ _ h)
def fb_X9_maySet_4 (w : Wd) (rec4 : Int32 → Int32 → Int32 → Option (Int32)) (x1 : Int32) (x2 : Int32) (x3 : Int32) : Option (Int32) := ald w 101 229 (8:Int32) (fun v1 => (if v1 ≤ x3 then some x2 else bd (f_X9_may w x3 x1) (fun q2 => (if q2 = 0 then f_X9_maySet_32 w rec4 x1 x3 (0:Int32) x2 else f_X9_maySet_32 w rec4 x1 x3 ((1:Int32) <<< (x3 &&& 31)) x2))))
set_option maxRecDepth 20000 in
theorem bb_X9_maySet_4 {G : Gv} {V : Vt} {w : Wd} {rec4 : Int32 → Int32 → Int32 → Option (Int32)} {res : Int32}  (C : CX cX9_maySet RX9 G SM 4 4 (some FieldType.int) (some (.int res)) w V) (hrec4 : ∀ (x1 : Int32) (x2 : Int32) (x3 : Int32), rec4 x1 x2 x3 = some res → V w 4 [(0, .ref (G.2 100)), (1, .int x1), (2, .int x2), (3, .int x3)] []) {x1 : Int32} {x2 : Int32} {x3 : Int32} (h : fb_X9_maySet_4 w rec4 x1 x2 x3 = some res) : V w 4 [(0, .ref (G.2 100)), (1, .int x1), (2, .int x2), (3, .int x3)] [] := by
  unfold fb_X9_maySet_4 at h
  refine r_iload_n (pc := 4) C dX9_maySet_4 rfl 3 rfl ?_
  refine r_aload_n (pc := 5) C dX9_maySet_5 rfl 0 rfl ?_
  refine gr_X9_7 (pc := 6) 101 C dX9_maySet_6 kx_100 rfl ?_
  refine r_bipush (v := (8:Int32)) (pc := 9) C dX9_maySet_9 (by decide) ?_
  refine r_ald (pc := 11) C dX9_maySet_11 h kx_101 (fun v1 h => ?_)
  refine r_icmp_ge (pc := 12) C 40 dX9_maySet_12 (by decide) h (fun h => ?_) (fun h => ?_)
  · refine r_iload_n (pc := 40) C dX9_maySet_40 rfl 2 rfl ?_
    exact r_iretP (pc := 41) C dX9_maySet_41 h
  · refine r_iload_n (pc := 15) C dX9_maySet_15 rfl 2 rfl ?_
    refine r_aload_n (pc := 16) C dX9_maySet_16 rfl 0 rfl ?_
    refine r_iload_n (pc := 17) C dX9_maySet_17 rfl 3 rfl ?_
    refine r_iload_n (pc := 18) C dX9_maySet_18 rfl 1 rfl ?_
    refine cv_X9_81 (pc := 19) C dX9_maySet_19  h (by decide) (Nat.le_of_ble_eq_true rfl) (fun q2 h => ?_)
    refine r_if_eq (pc := 22) C 31 dX9_maySet_22 (by decide) h (fun h => ?_) (fun h => ?_)
    · refine r_iconst (v := (0:Int32)) (pc := 31) C dX9_maySet_31 (by decide) ?_
      exact r_sub C [0, 1, 3] rfl (b_X9_maySet_32 C hrec4 h)
    · refine r_iconst (v := (1:Int32)) (pc := 25) C dX9_maySet_25 (by decide) ?_
      refine r_iload_n (pc := 26) C dX9_maySet_26 rfl 3 rfl ?_
      refine r_ishl (pc := 27) C dX9_maySet_27 ?_
      refine r_goto (pc := 28) C 32 dX9_maySet_28 (by decide) ?_
      exact r_sub C [0, 1, 3] rfl (b_X9_maySet_32 C hrec4 h)
def f_X9_maySet_4 (w : Wd) : Int32 → Int32 → Int32 → Option (Int32) := lp (fun _ _ _ => none) (fun rec => fb_X9_maySet_4 w rec) FU
theorem b_X9_maySet_4 {G : Gv} {V : Vt} {w : Wd} {res : Int32}  (C : CX cX9_maySet RX9 G SM 4 4 (some FieldType.int) (some (.int res)) w V) : ∀ (x1 : Int32) (x2 : Int32) (x3 : Int32), (f_X9_maySet_4 w) x1 x2 x3 = some res → V w 4 [(0, .ref (G.2 100)), (1, .int x1), (2, .int x2), (3, .int x3)] [] :=
  lp_ind (P := fun (g : Int32 → Int32 → Int32 → Option (Int32)) => ∀ (x1 : Int32) (x2 : Int32) (x3 : Int32), g x1 x2 x3 = some res → V w 4 [(0, .ref (G.2 100)), (1, .int x1), (2, .int x2), (3, .int x3)] []) (fun _ _ _ h => by cases h) (fun g hg _ _ _ h => bb_X9_maySet_4 C hg h) FU
def f_X9_maySet (w : Wd) (p1 : Int32) : Option (Int32) := f_X9_maySet_4 w p1 (0:Int32) (0:Int32)
set_option maxRecDepth 20000 in
theorem b_X9_maySet_E {G : Gv} {V : Vt} {w : Wd} {res : Int32}  (C : CX cX9_maySet RX9 G SM 4 4 (some FieldType.int) (some (.int res)) w V) {p1 : Int32} (h : f_X9_maySet w p1 = some res) : V w 0 [(0, .ref (G.2 100)), (1, .int p1)] [] := by
  unfold f_X9_maySet at h
  refine r_iconst (v := (0:Int32)) (pc := 0) C dX9_maySet_0 (by decide) ?_
  refine r_istore_n (L' := [(2, .int (0:Int32)), (0, .ref (G.2 100)), (1, .int p1)]) (pc := 1) C dX9_maySet_1 rfl (by decide) rfl ?_
  refine r_iconst (v := (0:Int32)) (pc := 2) C dX9_maySet_2 (by decide) ?_
  refine r_istore_n (L' := [(3, .int (0:Int32)), (2, .int (0:Int32)), (0, .ref (G.2 100)), (1, .int p1)]) (pc := 3) C dX9_maySet_3 rfl (by decide) rfl ?_
  exact r_sub C [2, 3, 1, 0] rfl (b_X9_maySet_4 C _ _ _ h)
theorem c_X9_maySet {G : Gv} {p1 : Int32} {w : Wd} {res : Int32} (h : f_X9_maySet w p1 = some res) (l : Launch) : MC l yX9_maySet cX9_maySet 4 (some FieldType.int) 4 G SM w [.ref (G.2 100), .int p1] (some (.int res)) w := mc_of (by decide +kernel) rfl (Nat.le_of_ble_eq_true rfl) rfl (fun V C => b_X9_maySet_E C h) l
def f_X9_knowers_36 (w : Wd) (rec4 : Int32 → Int32 → Int32 → Option (Int32)) (x1 : Int32) (x3 : Int32) (t0 : Int32) (t1 : Int32) : Option (Int32) := lv (t1 ||| t0) (fun v1 => rec4 x1 v1 (x3 + (1:Int32)))
set_option maxRecDepth 20000 in
theorem b_X9_knowers_36 {G : Gv} {V : Vt} {w : Wd} {rec4 : Int32 → Int32 → Int32 → Option (Int32)} {res : Int32}  (C : CX cX9_knowers RX9 G SM 4 2 (some FieldType.int) (some (.int res)) w V) (hrec4 : ∀ (x1 : Int32) (x2 : Int32) (x3 : Int32), rec4 x1 x2 x3 = some res → V w 4 [(0, .ref (G.2 100)), (1, .int x1), (2, .int x2), (3, .int x3)] []) {x1 : Int32} {x3 : Int32} {t0 : Int32} {t1 : Int32} (h : f_X9_knowers_36 w rec4 x1 x3 t0 t1 = some res) : V w 36 [(0, .ref (G.2 100)), (1, .int x1), (3, .int x3)] [.int t0, .int t1] := by
  unfold f_X9_knowers_36 at h
  refine r_ior (pc := 36) C dX9_knowers_36 ?_
  refine r_lv h (fun v1 h => ?_)
  refine r_istore_n (L' := [(2, .int v1), (0, .ref (G.2 100)), (1, .int x1), (3, .int x3)]) (pc := 37) C dX9_knowers_37 rfl (by decide) rfl ?_
  refine r_iinc (v := (x3 + (1:Int32))) (L' := [(3, .int (x3 + (1:Int32))), (2, .int v1), (0, .ref (G.2 100)), (1, .int x1)]) (pc := 38) C dX9_knowers_38 3 rfl rfl (by decide) rfl ?_
  refine r_goto (pc := 41) C 4 dX9_knowers_41 (by decide) ?_
  exact r_sub C [2, 3, 1, 0] rfl (hrec4 _ _ _ h)
def fb_X9_knowers_4 (w : Wd) (rec4 : Int32 → Int32 → Int32 → Option (Int32)) (x1 : Int32) (x2 : Int32) (x3 : Int32) : Option (Int32) := ald w 101 229 (8:Int32) (fun v1 => (if v1 ≤ x3 then some x2 else bd (f_X9_of w x3 (0:Int32)) (fun q2 => bd (f_X9_has q2 x1) (fun q3 => (if q3 = 0 then f_X9_knowers_36 w rec4 x1 x3 (0:Int32) x2 else f_X9_knowers_36 w rec4 x1 x3 ((1:Int32) <<< (x3 &&& 31)) x2)))))
set_option maxRecDepth 20000 in
theorem bb_X9_knowers_4 {G : Gv} {V : Vt} {w : Wd} {rec4 : Int32 → Int32 → Int32 → Option (Int32)} {res : Int32}  (C : CX cX9_knowers RX9 G SM 4 2 (some FieldType.int) (some (.int res)) w V) (hrec4 : ∀ (x1 : Int32) (x2 : Int32) (x3 : Int32), rec4 x1 x2 x3 = some res → V w 4 [(0, .ref (G.2 100)), (1, .int x1), (2, .int x2), (3, .int x3)] []) {x1 : Int32} {x2 : Int32} {x3 : Int32} (h : fb_X9_knowers_4 w rec4 x1 x2 x3 = some res) : V w 4 [(0, .ref (G.2 100)), (1, .int x1), (2, .int x2), (3, .int x3)] [] := by
  unfold fb_X9_knowers_4 at h
  refine r_iload_n (pc := 4) C dX9_knowers_4 rfl 3 rfl ?_
  refine r_aload_n (pc := 5) C dX9_knowers_5 rfl 0 rfl ?_
  refine gr_X9_7 (pc := 6) 101 C dX9_knowers_6 kx_100 rfl ?_
  refine r_bipush (v := (8:Int32)) (pc := 9) C dX9_knowers_9 (by decide) ?_
  refine r_ald (pc := 11) C dX9_knowers_11 h kx_101 (fun v1 h => ?_)
  refine r_icmp_ge (pc := 12) C 44 dX9_knowers_12 (by decide) h (fun h => ?_) (fun h => ?_)
  · refine r_iload_n (pc := 44) C dX9_knowers_44 rfl 2 rfl ?_
    exact r_iretP (pc := 45) C dX9_knowers_45 h
  · refine r_iload_n (pc := 15) C dX9_knowers_15 rfl 2 rfl ?_
    refine r_aload_n (pc := 16) C dX9_knowers_16 rfl 0 rfl ?_
    refine r_iload_n (pc := 17) C dX9_knowers_17 rfl 3 rfl ?_
    refine r_iconst (v := (0:Int32)) (pc := 18) C dX9_knowers_18 (by decide) ?_
    refine cv_X9_71 (pc := 19) C dX9_knowers_19  h (by decide) (Nat.le_of_ble_eq_true rfl) (fun q2 h => ?_)
    refine r_iload_n (pc := 22) C dX9_knowers_22 rfl 1 rfl ?_
    refine cv_X9_74 (pc := 23) C dX9_knowers_23  h (by decide) (Nat.le_of_ble_eq_true rfl) (fun q3 h => ?_)
    refine r_if_eq (pc := 26) C 35 dX9_knowers_26 (by decide) h (fun h => ?_) (fun h => ?_)
    · refine r_iconst (v := (0:Int32)) (pc := 35) C dX9_knowers_35 (by decide) ?_
      exact r_sub C [0, 1, 3] rfl (b_X9_knowers_36 C hrec4 h)
    · refine r_iconst (v := (1:Int32)) (pc := 29) C dX9_knowers_29 (by decide) ?_
      refine r_iload_n (pc := 30) C dX9_knowers_30 rfl 3 rfl ?_
      refine r_ishl (pc := 31) C dX9_knowers_31 ?_
      refine r_goto (pc := 32) C 36 dX9_knowers_32 (by decide) ?_
      exact r_sub C [0, 1, 3] rfl (b_X9_knowers_36 C hrec4 h)
def f_X9_knowers_4 (w : Wd) : Int32 → Int32 → Int32 → Option (Int32) := lp (fun _ _ _ => none) (fun rec => fb_X9_knowers_4 w rec) FU
theorem b_X9_knowers_4 {G : Gv} {V : Vt} {w : Wd} {res : Int32}  (C : CX cX9_knowers RX9 G SM 4 2 (some FieldType.int) (some (.int res)) w V) : ∀ (x1 : Int32) (x2 : Int32) (x3 : Int32), (f_X9_knowers_4 w) x1 x2 x3 = some res → V w 4 [(0, .ref (G.2 100)), (1, .int x1), (2, .int x2), (3, .int x3)] [] :=
  lp_ind (P := fun (g : Int32 → Int32 → Int32 → Option (Int32)) => ∀ (x1 : Int32) (x2 : Int32) (x3 : Int32), g x1 x2 x3 = some res → V w 4 [(0, .ref (G.2 100)), (1, .int x1), (2, .int x2), (3, .int x3)] []) (fun _ _ _ h => by cases h) (fun g hg _ _ _ h => bb_X9_knowers_4 C hg h) FU
def f_X9_knowers (w : Wd) (p1 : Int32) : Option (Int32) := f_X9_knowers_4 w p1 (0:Int32) (0:Int32)
set_option maxRecDepth 20000 in
theorem b_X9_knowers_E {G : Gv} {V : Vt} {w : Wd} {res : Int32}  (C : CX cX9_knowers RX9 G SM 4 2 (some FieldType.int) (some (.int res)) w V) {p1 : Int32} (h : f_X9_knowers w p1 = some res) : V w 0 [(0, .ref (G.2 100)), (1, .int p1)] [] := by
  unfold f_X9_knowers at h
  refine r_iconst (v := (0:Int32)) (pc := 0) C dX9_knowers_0 (by decide) ?_
  refine r_istore_n (L' := [(2, .int (0:Int32)), (0, .ref (G.2 100)), (1, .int p1)]) (pc := 1) C dX9_knowers_1 rfl (by decide) rfl ?_
  refine r_iconst (v := (0:Int32)) (pc := 2) C dX9_knowers_2 (by decide) ?_
  refine r_istore_n (L' := [(3, .int (0:Int32)), (2, .int (0:Int32)), (0, .ref (G.2 100)), (1, .int p1)]) (pc := 3) C dX9_knowers_3 rfl (by decide) rfl ?_
  exact r_sub C [2, 3, 1, 0] rfl (b_X9_knowers_4 C _ _ _ h)
theorem c_X9_knowers {G : Gv} {p1 : Int32} {w : Wd} {res : Int32} (h : f_X9_knowers w p1 = some res) (l : Launch) : MC l yX9_knowers cX9_knowers 4 (some FieldType.int) 2 G SM w [.ref (G.2 100), .int p1] (some (.int res)) w := mc_of (by decide +kernel) rfl (Nat.le_of_ble_eq_true rfl) rfl (fun V C => b_X9_knowers_E C h) l
theorem cv_X9_84 {cc : ByteArray} {G : Gv} {n hc : Nat} {rt : Option FieldType} {rv : Option Value} {w0 : Wd} {V : Vt} {w : Wd} {pc : Nat} {L : List (Nat × Value)} {rest : List Value} {α : Type} {res : α} {p1 : Int32} {K : Int32 → Option α} (C : CX cc RX9 G SM n hc rt rv w0 V) (hd : decode cc pc = .ok (.invokevirtual 84, 3)) (h : bd (f_X9_maySet w p1) K = some res) (hR : 4 + 1 ≤ hc) (hr : (rest.map fun v => v.category).sum ≤ 8) (kk : ∀ q, K q = some res → V w (pc + 3) L (.int q :: rest)) : V w pc L (.int p1 :: .ref (G.2 100) :: rest) := r_callV (As := [.int p1]) (rest := rest) (rvf := fun q => (some (.int q))) (wf := fun q => w) C hd h ql_X9_84 qi_X9_maySet qs_X9_maySet qn_X9 qc_X9_maySet ⟨rfl, by decide +kernel, by decide +kernel, (by decide +kernel : (parseMethodDescriptor yX9_maySet.desc).map (fun d => d.parameters.length) = some 1)⟩ ⟨hR, by decide⟩ kx_100 rfl (fun q hq l => c_X9_maySet hq l) rfl hr kk
theorem cv_X9_87 {cc : ByteArray} {G : Gv} {n hc : Nat} {rt : Option FieldType} {rv : Option Value} {w0 : Wd} {V : Vt} {w : Wd} {pc : Nat} {L : List (Nat × Value)} {rest : List Value} {α : Type} {res : α} {p1 : Int32} {K : Int32 → Option α} (C : CX cc RX9 G SM n hc rt rv w0 V) (hd : decode cc pc = .ok (.invokevirtual 87, 3)) (h : bd (f_X9_knowers w p1) K = some res) (hR : 2 + 1 ≤ hc) (hr : (rest.map fun v => v.category).sum ≤ 8) (kk : ∀ q, K q = some res → V w (pc + 3) L (.int q :: rest)) : V w pc L (.int p1 :: .ref (G.2 100) :: rest) := r_callV (As := [.int p1]) (rest := rest) (rvf := fun q => (some (.int q))) (wf := fun q => w) C hd h ql_X9_87 qi_X9_knowers qs_X9_knowers qn_X9 qc_X9_knowers ⟨rfl, by decide +kernel, by decide +kernel, (by decide +kernel : (parseMethodDescriptor yX9_knowers.desc).map (fun d => d.parameters.length) = some 1)⟩ ⟨hR, by decide⟩ kx_100 rfl (fun q hq l => c_X9_knowers hq l) rfl hr kk
def f_X9_ofPart_18 (w : Wd) : Option (Int32 × Wd) := bd (f_X9_errs (-1000000001:Int32) w) (fun q1 => some (q1.1, q1.2))
set_option maxRecDepth 20000 in
theorem b_X9_ofPart_18 {G : Gv} {V : Vt} {res : Int32 × Wd}  (C : CX cX9_ofPart RX9 G SM 3 5 (some FieldType.int) (some (.int res.1)) res.2 V) {w : Wd} (h : f_X9_ofPart_18 w = some res) : V w 18 [(0, .ref (G.2 100))] [] := by
  unfold f_X9_ofPart_18 at h
  refine r_aload_n (pc := 18) C dX9_ofPart_18 rfl 0 rfl ?_
  refine r_ldc (pc := 19) C dX9_ofPart_19 qk_X9_61 ?_
  refine cv_X9_62 (pc := 21) C dX9_ofPart_21  h (by decide) (Nat.le_of_ble_eq_true rfl) (fun q1 h => ?_)
  exact r_iretE (pc := 24) C dX9_ofPart_24 h
def f_X9_ofPart (p1 : Int32) (p2 : Int32) (w : Wd) : Option (Int32 × Wd) := bd (f_X9_isPart w p1) (fun q1 => (if q1 = 0 then f_X9_ofPart_18 w else bd (f_X9_in p2 (0:Int32) (6:Int32)) (fun q2 => (if ¬ q2 = 0 then (if p2 = (4:Int32) then bd (f_X9_isEmpty w p1) (fun q3 => (if q3 = 0 then some ((0:Int32), w) else some ((1:Int32), w))) else (if p2 = (5:Int32) then bd (f_X9_maySet w p1) (fun q4 => some (q4, w)) else (if p2 = (6:Int32) then bd (f_X9_knowers w p1) (fun q5 => some (q5, w)) else bd (f_X9_its w p1 p2) (fun q6 => some (q6, w))))) else f_X9_ofPart_18 w))))
set_option maxRecDepth 20000 in
theorem b_X9_ofPart_E {G : Gv} {V : Vt} {res : Int32 × Wd}  (C : CX cX9_ofPart RX9 G SM 3 5 (some FieldType.int) (some (.int res.1)) res.2 V) {p1 : Int32} {p2 : Int32} {w : Wd} (h : f_X9_ofPart p1 p2 w = some res) : V w 0 [(0, .ref (G.2 100)), (1, .int p1), (2, .int p2)] [] := by
  unfold f_X9_ofPart at h
  refine r_aload_n (pc := 0) C dX9_ofPart_0 rfl 0 rfl ?_
  refine r_iload_n (pc := 1) C dX9_ofPart_1 rfl 1 rfl ?_
  refine cv_X9_57 (pc := 2) C dX9_ofPart_2  h (by decide) (Nat.le_of_ble_eq_true rfl) (fun q1 h => ?_)
  refine r_if_eq (pc := 5) C 18 dX9_ofPart_5 (by decide) h (fun h => ?_) (fun h => ?_)
  · exact r_sub C [0] rfl (b_X9_ofPart_18 C h)
  · refine r_iload_n (pc := 8) C dX9_ofPart_8 rfl 2 rfl ?_
    refine r_iconst (v := (0:Int32)) (pc := 9) C dX9_ofPart_9 (by decide) ?_
    refine r_bipush (v := (6:Int32)) (pc := 10) C dX9_ofPart_10 (by decide) ?_
    refine cv_X9_53 (pc := 12) C dX9_ofPart_12  h (by decide) (Nat.le_of_ble_eq_true rfl) (fun q2 h => ?_)
    refine r_if_ne (pc := 15) C 25 dX9_ofPart_15 (by decide) h (fun h => ?_) (fun h => ?_)
    · refine r_iload_n (pc := 25) C dX9_ofPart_25 rfl 2 rfl ?_
      refine r_tsw (pc := 26) C (4:Int32) 52 dX9_ofPart_26 (by decide) (by decide) rfl (by decide) h (fun h => ?_) (fun n0 h => ?_)
      · refine r_aload_n (pc := 52) C dX9_ofPart_52 rfl 0 rfl ?_
        refine r_iload_n (pc := 53) C dX9_ofPart_53 rfl 1 rfl ?_
        refine cv_X9_78 (pc := 54) C dX9_ofPart_54  h (by decide) (Nat.le_of_ble_eq_true rfl) (fun q3 h => ?_)
        refine r_if_eq (pc := 57) C 64 dX9_ofPart_57 (by decide) h (fun h => ?_) (fun h => ?_)
        · refine r_iconst (v := (0:Int32)) (pc := 64) C dX9_ofPart_64 (by decide) ?_
          exact r_iretE (pc := 65) C dX9_ofPart_65 h
        · refine r_iconst (v := (1:Int32)) (pc := 60) C dX9_ofPart_60 (by decide) ?_
          refine r_goto (pc := 61) C 65 dX9_ofPart_61 (by decide) ?_
          exact r_iretE (pc := 65) C dX9_ofPart_65 h
      refine r_tsw (pc := 26) C (5:Int32) 66 dX9_ofPart_26 (by decide) (by decide) rfl (by decide) h (fun h => ?_) (fun n1 h => ?_)
      · refine r_aload_n (pc := 66) C dX9_ofPart_66 rfl 0 rfl ?_
        refine r_iload_n (pc := 67) C dX9_ofPart_67 rfl 1 rfl ?_
        refine cv_X9_84 (pc := 68) C dX9_ofPart_68  h (by decide) (Nat.le_of_ble_eq_true rfl) (fun q4 h => ?_)
        exact r_iretE (pc := 71) C dX9_ofPart_71 h
      refine r_tsw (pc := 26) C (6:Int32) 72 dX9_ofPart_26 (by decide) (by decide) rfl (by decide) h (fun h => ?_) (fun n2 h => ?_)
      · refine r_aload_n (pc := 72) C dX9_ofPart_72 rfl 0 rfl ?_
        refine r_iload_n (pc := 73) C dX9_ofPart_73 rfl 1 rfl ?_
        refine cv_X9_87 (pc := 74) C dX9_ofPart_74  h (by decide) (Nat.le_of_ble_eq_true rfl) (fun q5 h => ?_)
        exact r_iretE (pc := 77) C dX9_ofPart_77 h
      refine r_tswD (pc := 26) C 78 dX9_ofPart_26 (by have z0 := toInt_ne n0; have z1 := toInt_ne n1; have z2 := toInt_ne n2; simp only [Int32.reduceToInt, ne_eq] at *; omega) (by decide) ?_
      refine r_aload_n (pc := 78) C dX9_ofPart_78 rfl 0 rfl ?_
      refine r_iload_n (pc := 79) C dX9_ofPart_79 rfl 1 rfl ?_
      refine r_iload_n (pc := 80) C dX9_ofPart_80 rfl 2 rfl ?_
      refine cv_X9_67 (pc := 81) C dX9_ofPart_81  h (by decide) (Nat.le_of_ble_eq_true rfl) (fun q6 h => ?_)
      exact r_iretE (pc := 84) C dX9_ofPart_84 h
    · exact r_sub C [0] rfl (b_X9_ofPart_18 C h)
theorem c_X9_ofPart {G : Gv} {p1 : Int32} {p2 : Int32} {w : Wd} {res : Int32 × Wd} (h : f_X9_ofPart p1 p2 w = some res) (l : Launch) : MC l yX9_ofPart cX9_ofPart 3 (some FieldType.int) 5 G SM w [.ref (G.2 100), .int p1, .int p2] (some (.int res.1)) res.2 := mc_of (by decide +kernel) rfl (Nat.le_of_ble_eq_true rfl) rfl (fun V C => b_X9_ofPart_E C h) l
theorem cv_X9_90 {cc : ByteArray} {G : Gv} {n hc : Nat} {rt : Option FieldType} {rv : Option Value} {w0 : Wd} {V : Vt} {w : Wd} {pc : Nat} {L : List (Nat × Value)} {rest : List Value} {α : Type} {res : α} {p1 : Int32} {p2 : Int32} {K : Int32 × Wd → Option α} (C : CX cc RX9 G SM n hc rt rv w0 V) (hd : decode cc pc = .ok (.invokevirtual 90, 3)) (h : bd (f_X9_becomes p1 p2 w) K = some res) (hR : 1 + 1 ≤ hc) (hr : (rest.map fun v => v.category).sum ≤ 8) (kk : ∀ q, K q = some res → V q.2 (pc + 3) L (.int q.1 :: rest)) : V w pc L (.int p2 :: .int p1 :: .ref (G.2 100) :: rest) := r_callV (As := [.int p1, .int p2]) (rest := rest) (rvf := fun q => (some (.int q.1))) (wf := fun q => q.2) C hd h ql_X9_90 qi_X9_becomes qs_X9_becomes qn_X9 qc_X9_becomes ⟨rfl, by decide +kernel, by decide +kernel, (by decide +kernel : (parseMethodDescriptor yX9_becomes.desc).map (fun d => d.parameters.length) = some 2)⟩ ⟨hR, by decide⟩ kx_100 rfl (fun q hq l => c_X9_becomes hq l) rfl hr kk
def f_X9_lines_34 (w : Wd) : Option (Int32 × Wd) := bd (f_X9_errs (-1000000001:Int32) w) (fun q1 => some (q1.1, q1.2))
set_option maxRecDepth 20000 in
theorem b_X9_lines_34 {G : Gv} {V : Vt} {res : Int32 × Wd}  (C : CX cX9_lines RX9 G SM 3 3 (some FieldType.int) (some (.int res.1)) res.2 V) {w : Wd} (h : f_X9_lines_34 w = some res) : V w 34 [(0, .ref (G.2 100))] [] := by
  unfold f_X9_lines_34 at h
  refine r_aload_n (pc := 34) C dX9_lines_34 rfl 0 rfl ?_
  refine r_ldc (pc := 35) C dX9_lines_35 qk_X9_61 ?_
  refine cv_X9_62 (pc := 37) C dX9_lines_37  h (by decide) (Nat.le_of_ble_eq_true rfl) (fun q1 h => ?_)
  exact r_iretE (pc := 40) C dX9_lines_40 h
def f_X9_lines (p1 : Int32) (p2 : Int32) (w : Wd) : Option (Int32 × Wd) := bd (f_X9_isPart w p1) (fun q1 => (if q1 = 0 then f_X9_lines_34 w else bd (f_X9_in p2 (0:Int32) (99:Int32)) (fun q2 => (if q2 = 0 then f_X9_lines_34 w else bd (f_X9_becomes (((9:Int32) + ((4:Int32) * p1)) + (2:Int32)) p2 w) (fun q3 => some (q3.1, q3.2))))))
set_option maxRecDepth 20000 in
theorem b_X9_lines_E {G : Gv} {V : Vt} {res : Int32 × Wd}  (C : CX cX9_lines RX9 G SM 3 3 (some FieldType.int) (some (.int res.1)) res.2 V) {p1 : Int32} {p2 : Int32} {w : Wd} (h : f_X9_lines p1 p2 w = some res) : V w 0 [(0, .ref (G.2 100)), (1, .int p1), (2, .int p2)] [] := by
  unfold f_X9_lines at h
  refine r_aload_n (pc := 0) C dX9_lines_0 rfl 0 rfl ?_
  refine r_iload_n (pc := 1) C dX9_lines_1 rfl 1 rfl ?_
  refine cv_X9_57 (pc := 2) C dX9_lines_2  h (by decide) (Nat.le_of_ble_eq_true rfl) (fun q1 h => ?_)
  refine r_if_eq (pc := 5) C 34 dX9_lines_5 (by decide) h (fun h => ?_) (fun h => ?_)
  · exact r_sub C [0] rfl (b_X9_lines_34 C h)
  · refine r_iload_n (pc := 8) C dX9_lines_8 rfl 2 rfl ?_
    refine r_iconst (v := (0:Int32)) (pc := 9) C dX9_lines_9 (by decide) ?_
    refine r_bipush (v := (99:Int32)) (pc := 10) C dX9_lines_10 (by decide) ?_
    refine cv_X9_53 (pc := 12) C dX9_lines_12  h (by decide) (Nat.le_of_ble_eq_true rfl) (fun q2 h => ?_)
    refine r_if_eq (pc := 15) C 34 dX9_lines_15 (by decide) h (fun h => ?_) (fun h => ?_)
    · exact r_sub C [0] rfl (b_X9_lines_34 C h)
    · refine r_aload_n (pc := 18) C dX9_lines_18 rfl 0 rfl ?_
      refine r_bipush (v := (9:Int32)) (pc := 19) C dX9_lines_19 (by decide) ?_
      refine r_iconst (v := (4:Int32)) (pc := 21) C dX9_lines_21 (by decide) ?_
      refine r_iload_n (pc := 22) C dX9_lines_22 rfl 1 rfl ?_
      refine r_imul (pc := 23) C dX9_lines_23 ?_
      refine r_iadd (pc := 24) C dX9_lines_24 ?_
      refine r_iconst (v := (2:Int32)) (pc := 25) C dX9_lines_25 (by decide) ?_
      refine r_iadd (pc := 26) C dX9_lines_26 ?_
      refine r_iload_n (pc := 27) C dX9_lines_27 rfl 2 rfl ?_
      refine cv_X9_90 (pc := 28) C dX9_lines_28  h (by decide) (Nat.le_of_ble_eq_true rfl) (fun q3 h => ?_)
      refine r_goto (pc := 31) C 40 dX9_lines_31 (by decide) ?_
      exact r_iretE (pc := 40) C dX9_lines_40 h
theorem c_X9_lines {G : Gv} {p1 : Int32} {p2 : Int32} {w : Wd} {res : Int32 × Wd} (h : f_X9_lines p1 p2 w = some res) (l : Launch) : MC l yX9_lines cX9_lines 3 (some FieldType.int) 3 G SM w [.ref (G.2 100), .int p1, .int p2] (some (.int res.1)) res.2 := mc_of (by decide +kernel) rfl (Nat.le_of_ble_eq_true rfl) rfl (fun V C => b_X9_lines_E C h) l
def f_X9_become_18 (w : Wd) : Option (Int32 × Wd) := bd (f_X9_errs (-1000000001:Int32) w) (fun q1 => some (q1.1, q1.2))
set_option maxRecDepth 20000 in
theorem b_X9_become_18 {G : Gv} {V : Vt} {res : Int32 × Wd}  (C : CX cX9_become RX9 G SM 3 3 (some FieldType.int) (some (.int res.1)) res.2 V) {w : Wd} (h : f_X9_become_18 w = some res) : V w 18 [(0, .ref (G.2 100))] [] := by
  unfold f_X9_become_18 at h
  refine r_aload_n (pc := 18) C dX9_become_18 rfl 0 rfl ?_
  refine r_ldc (pc := 19) C dX9_become_19 qk_X9_61 ?_
  refine cv_X9_62 (pc := 21) C dX9_become_21  h (by decide) (Nat.le_of_ble_eq_true rfl) (fun q1 h => ?_)
  exact r_iretE (pc := 24) C dX9_become_24 h
def f_X9_become (p1 : Int32) (p2 : Int32) (w : Wd) : Option (Int32 × Wd) := bd (f_X9_isPart w p1) (fun q1 => (if q1 = 0 then f_X9_become_18 w else bd (f_X9_in p2 (0:Int32) (69:Int32)) (fun q2 => (if ¬ q2 = 0 then nz (10:Int32) (ast w 101 229 (((9:Int32) + ((4:Int32) * p1)) + (1:Int32)) (p2 - p2 / (10:Int32) * (10:Int32)) (fun w3 => nz (10:Int32) (bd (f_X9_becomes ((9:Int32) + ((4:Int32) * p1)) (p2 / (10:Int32)) w3) (fun q4 => some (q4.1, q4.2))))) else f_X9_become_18 w))))
set_option maxRecDepth 20000 in
theorem b_X9_become_E {G : Gv} {V : Vt} {res : Int32 × Wd}  (C : CX cX9_become RX9 G SM 3 3 (some FieldType.int) (some (.int res.1)) res.2 V) {p1 : Int32} {p2 : Int32} {w : Wd} (h : f_X9_become p1 p2 w = some res) : V w 0 [(0, .ref (G.2 100)), (1, .int p1), (2, .int p2)] [] := by
  unfold f_X9_become at h
  refine r_aload_n (pc := 0) C dX9_become_0 rfl 0 rfl ?_
  refine r_iload_n (pc := 1) C dX9_become_1 rfl 1 rfl ?_
  refine cv_X9_57 (pc := 2) C dX9_become_2  h (by decide) (Nat.le_of_ble_eq_true rfl) (fun q1 h => ?_)
  refine r_if_eq (pc := 5) C 18 dX9_become_5 (by decide) h (fun h => ?_) (fun h => ?_)
  · exact r_sub C [0] rfl (b_X9_become_18 C h)
  · refine r_iload_n (pc := 8) C dX9_become_8 rfl 2 rfl ?_
    refine r_iconst (v := (0:Int32)) (pc := 9) C dX9_become_9 (by decide) ?_
    refine r_bipush (v := (69:Int32)) (pc := 10) C dX9_become_10 (by decide) ?_
    refine cv_X9_53 (pc := 12) C dX9_become_12  h (by decide) (Nat.le_of_ble_eq_true rfl) (fun q2 h => ?_)
    refine r_if_ne (pc := 15) C 25 dX9_become_15 (by decide) h (fun h => ?_) (fun h => ?_)
    · refine r_aload_n (pc := 25) C dX9_become_25 rfl 0 rfl ?_
      refine gr_X9_7 (pc := 26) 101 C dX9_become_26 kx_100 rfl ?_
      refine r_bipush (v := (9:Int32)) (pc := 29) C dX9_become_29 (by decide) ?_
      refine r_iconst (v := (4:Int32)) (pc := 31) C dX9_become_31 (by decide) ?_
      refine r_iload_n (pc := 32) C dX9_become_32 rfl 1 rfl ?_
      refine r_imul (pc := 33) C dX9_become_33 ?_
      refine r_iadd (pc := 34) C dX9_become_34 ?_
      refine r_iconst (v := (1:Int32)) (pc := 35) C dX9_become_35 (by decide) ?_
      refine r_iadd (pc := 36) C dX9_become_36 ?_
      refine r_iload_n (pc := 37) C dX9_become_37 rfl 2 rfl ?_
      refine r_bipush (v := (10:Int32)) (pc := 38) C dX9_become_38 (by decide) ?_
      refine r_nz_rem (pc := 40) C dX9_become_40 h (fun h => ?_)
      refine r_ast (pc := 41) C dX9_become_41 h kx_101 (fun w3 h => ?_)
      refine r_aload_n (pc := 42) C dX9_become_42 rfl 0 rfl ?_
      refine r_bipush (v := (9:Int32)) (pc := 43) C dX9_become_43 (by decide) ?_
      refine r_iconst (v := (4:Int32)) (pc := 45) C dX9_become_45 (by decide) ?_
      refine r_iload_n (pc := 46) C dX9_become_46 rfl 1 rfl ?_
      refine r_imul (pc := 47) C dX9_become_47 ?_
      refine r_iadd (pc := 48) C dX9_become_48 ?_
      refine r_iload_n (pc := 49) C dX9_become_49 rfl 2 rfl ?_
      refine r_bipush (v := (10:Int32)) (pc := 50) C dX9_become_50 (by decide) ?_
      refine r_nz_div (pc := 52) C dX9_become_52 h (fun h => ?_)
      refine cv_X9_90 (pc := 53) C dX9_become_53  h (by decide) (Nat.le_of_ble_eq_true rfl) (fun q4 h => ?_)
      exact r_iretE (pc := 56) C dX9_become_56 h
    · exact r_sub C [0] rfl (b_X9_become_18 C h)
theorem c_X9_become {G : Gv} {p1 : Int32} {p2 : Int32} {w : Wd} {res : Int32 × Wd} (h : f_X9_become p1 p2 w = some res) (l : Launch) : MC l yX9_become cX9_become 3 (some FieldType.int) 3 G SM w [.ref (G.2 100), .int p1, .int p2] (some (.int res.1)) res.2 := mc_of (by decide +kernel) rfl (Nat.le_of_ble_eq_true rfl) rfl (fun V C => b_X9_become_E C h) l
def f_X9_above (p0 : Int32) : Option (Int32) := (if ¬ p0 = 0 then (if ¬ p0 = (4:Int32) then (if ¬ p0 = (5:Int32) then (if ¬ p0 = (6:Int32) then some (0:Int32) else some (3:Int32)) else some (2:Int32)) else some (1:Int32)) else some (-1:Int32))
set_option maxRecDepth 20000 in
theorem b_X9_above_E {G : Gv} {V : Vt} {w : Wd} {res : Int32}  (C : CX cX9_above RX9 G SM 1 1 (some FieldType.int) (some (.int res)) w V) {p0 : Int32} (h : f_X9_above p0 = some res) : V w 0 [(0, .int p0)] [] := by
  unfold f_X9_above at h
  refine r_iload_n (pc := 0) C dX9_above_0 rfl 0 rfl ?_
  refine r_if_ne (pc := 1) C 8 dX9_above_1 (by decide) h (fun h => ?_) (fun h => ?_)
  · refine r_iload_n (pc := 8) C dX9_above_8 rfl 0 rfl ?_
    refine r_iconst (v := (4:Int32)) (pc := 9) C dX9_above_9 (by decide) ?_
    refine r_icmp_ne (pc := 10) C 17 dX9_above_10 (by decide) h (fun h => ?_) (fun h => ?_)
    · refine r_iload_n (pc := 17) C dX9_above_17 rfl 0 rfl ?_
      refine r_iconst (v := (5:Int32)) (pc := 18) C dX9_above_18 (by decide) ?_
      refine r_icmp_ne (pc := 19) C 26 dX9_above_19 (by decide) h (fun h => ?_) (fun h => ?_)
      · refine r_iload_n (pc := 26) C dX9_above_26 rfl 0 rfl ?_
        refine r_bipush (v := (6:Int32)) (pc := 27) C dX9_above_27 (by decide) ?_
        refine r_icmp_ne (pc := 29) C 36 dX9_above_29 (by decide) h (fun h => ?_) (fun h => ?_)
        · refine r_iconst (v := (0:Int32)) (pc := 36) C dX9_above_36 (by decide) ?_
          exact r_iretP (pc := 37) C dX9_above_37 h
        · refine r_iconst (v := (3:Int32)) (pc := 32) C dX9_above_32 (by decide) ?_
          refine r_goto (pc := 33) C 37 dX9_above_33 (by decide) ?_
          exact r_iretP (pc := 37) C dX9_above_37 h
      · refine r_iconst (v := (2:Int32)) (pc := 22) C dX9_above_22 (by decide) ?_
        refine r_goto (pc := 23) C 37 dX9_above_23 (by decide) ?_
        exact r_iretP (pc := 37) C dX9_above_37 h
    · refine r_iconst (v := (1:Int32)) (pc := 13) C dX9_above_13 (by decide) ?_
      refine r_goto (pc := 14) C 37 dX9_above_14 (by decide) ?_
      exact r_iretP (pc := 37) C dX9_above_37 h
  · refine r_iconst (v := (-1:Int32)) (pc := 4) C dX9_above_4 (by decide) ?_
    refine r_goto (pc := 5) C 37 dX9_above_5 (by decide) ?_
    exact r_iretP (pc := 37) C dX9_above_37 h
theorem c_X9_above {G : Gv} {p0 : Int32} {w : Wd} {res : Int32} (h : f_X9_above p0 = some res) (l : Launch) : MC l yX9_above cX9_above 1 (some FieldType.int) 1 G SM w [.int p0] (some (.int res)) w := mc_of (by decide +kernel) rfl (Nat.le_of_ble_eq_true rfl) rfl (fun V C => b_X9_above_E C h) l
theorem cv_X9_93 {cc : ByteArray} {G : Gv} {n hc : Nat} {rt : Option FieldType} {rv : Option Value} {w0 : Wd} {V : Vt} {w : Wd} {pc : Nat} {L : List (Nat × Value)} {rest : List Value} {α : Type} {res : α} {p0 : Int32} {K : Int32 → Option α} (C : CX cc RX9 G SM n hc rt rv w0 V) (hd : decode cc pc = .ok (.invokestatic 93, 3)) (h : bd (f_X9_above p0) K = some res) (hR : 1 + 1 ≤ hc) (hr : (rest.map fun v => v.category).sum ≤ 8) (kk : ∀ q, K q = some res → V w (pc + 3) L (.int q :: rest)) : V w pc L (.int p0 :: rest) := r_callS (As := [.int p0]) (rest := rest) (rvf := fun q => (some (.int q))) (wf := fun q => w) C hd h ql_X9_93 qt_X9_above qn_X9 qc_X9_above ⟨by decide +kernel, by decide +kernel, (by decide +kernel : (parseMethodDescriptor yX9_above.desc).map (fun d => d.parameters.length) = some 1)⟩ ⟨hR, by decide⟩ (fun q hq l => c_X9_above hq l) rfl hr kk
def f_X9_as_49 (x1 : Int32) (x3 : Int32) (w : Wd) : Option (Int32 × Wd) := (if 0 ≤ x3 then bd (f_X9_its w x1 (1:Int32)) (fun q1 => some (q1, w)) else bd (f_X9_errs (-1000000005:Int32) w) (fun q2 => some (q2.1, q2.2)))
set_option maxRecDepth 20000 in
theorem b_X9_as_49 {G : Gv} {V : Vt} {res : Int32 × Wd}  (C : CX cX9_as RX9 G SM 4 3 (some FieldType.int) (some (.int res.1)) res.2 V) {x1 : Int32} {x3 : Int32} {w : Wd} (h : f_X9_as_49 x1 x3 w = some res) : V w 49 [(0, .ref (G.2 100)), (1, .int x1), (3, .int x3)] [] := by
  unfold f_X9_as_49 at h
  refine r_iload_n (pc := 49) C dX9_as_49 rfl 2 rfl ?_
  refine r_if_ge (pc := 50) C 62 dX9_as_50 (by decide) h (fun h => ?_) (fun h => ?_)
  · refine r_aload_n (pc := 62) C dX9_as_62 rfl 0 rfl ?_
    refine r_iload_n (pc := 63) C dX9_as_63 rfl 1 rfl ?_
    refine r_iconst (v := (1:Int32)) (pc := 64) C dX9_as_64 (by decide) ?_
    refine cv_X9_67 (pc := 65) C dX9_as_65  h (by decide) (Nat.le_of_ble_eq_true rfl) (fun q1 h => ?_)
    exact r_iretE (pc := 68) C dX9_as_68 h
  · refine r_aload_n (pc := 53) C dX9_as_53 rfl 0 rfl ?_
    refine r_ldc (pc := 54) C dX9_as_54 qk_X9_96 ?_
    refine cv_X9_62 (pc := 56) C dX9_as_56  h (by decide) (Nat.le_of_ble_eq_true rfl) (fun q2 h => ?_)
    refine r_goto (pc := 59) C 68 dX9_as_59 (by decide) ?_
    exact r_iretE (pc := 68) C dX9_as_68 h
def fb_X9_as_32 (rec32 : Int32 → Int32 → Int32 → Wd → Option (Int32 × Wd)) (x1 : Int32) (x2 : Int32) (x3 : Int32) (w : Wd) : Option (Int32 × Wd) := (if x3 < 0 then f_X9_as_49 x1 x3 w else (if x3 = x2 then f_X9_as_49 x1 x3 w else bd (f_X9_above x3) (fun q1 => rec32 x1 x2 q1 w)))
set_option maxRecDepth 20000 in
theorem bb_X9_as_32 {G : Gv} {V : Vt} {rec32 : Int32 → Int32 → Int32 → Wd → Option (Int32 × Wd)} {res : Int32 × Wd}  (C : CX cX9_as RX9 G SM 4 3 (some FieldType.int) (some (.int res.1)) res.2 V) (hrec32 : ∀ (x1 : Int32) (x2 : Int32) (x3 : Int32) (w : Wd), rec32 x1 x2 x3 w = some res → V w 32 [(0, .ref (G.2 100)), (1, .int x1), (2, .int x2), (3, .int x3)] []) {x1 : Int32} {x2 : Int32} {x3 : Int32} {w : Wd} (h : fb_X9_as_32 rec32 x1 x2 x3 w = some res) : V w 32 [(0, .ref (G.2 100)), (1, .int x1), (2, .int x2), (3, .int x3)] [] := by
  unfold fb_X9_as_32 at h
  refine r_iload_n (pc := 32) C dX9_as_32 rfl 3 rfl ?_
  refine r_if_lt (pc := 33) C 49 dX9_as_33 (by decide) h (fun h => ?_) (fun h => ?_)
  · exact r_sub C [0, 1, 3] rfl (b_X9_as_49 C h)
  · refine r_iload_n (pc := 36) C dX9_as_36 rfl 3 rfl ?_
    refine r_iload_n (pc := 37) C dX9_as_37 rfl 2 rfl ?_
    refine r_icmp_eq (pc := 38) C 49 dX9_as_38 (by decide) h (fun h => ?_) (fun h => ?_)
    · exact r_sub C [0, 1, 3] rfl (b_X9_as_49 C h)
    · refine r_iload_n (pc := 41) C dX9_as_41 rfl 3 rfl ?_
      refine cv_X9_93 (pc := 42) C dX9_as_42  h (by decide) (Nat.le_of_ble_eq_true rfl) (fun q1 h => ?_)
      refine r_istore_n (L' := [(3, .int q1), (0, .ref (G.2 100)), (1, .int x1), (2, .int x2)]) (pc := 45) C dX9_as_45 rfl (by decide) rfl ?_
      refine r_goto (pc := 46) C 32 dX9_as_46 (by decide) ?_
      exact r_sub C [1, 2, 3, 0] rfl (hrec32 _ _ _ _ h)
def f_X9_as_32 : Int32 → Int32 → Int32 → Wd → Option (Int32 × Wd) := lp (fun _ _ _ _ => none) (fun rec => fb_X9_as_32 rec) FU
theorem b_X9_as_32 {G : Gv} {V : Vt} {res : Int32 × Wd}  (C : CX cX9_as RX9 G SM 4 3 (some FieldType.int) (some (.int res.1)) res.2 V) : ∀ (x1 : Int32) (x2 : Int32) (x3 : Int32) (w : Wd), (f_X9_as_32) x1 x2 x3 w = some res → V w 32 [(0, .ref (G.2 100)), (1, .int x1), (2, .int x2), (3, .int x3)] [] :=
  lp_ind (P := fun (g : Int32 → Int32 → Int32 → Wd → Option (Int32 × Wd)) => ∀ (x1 : Int32) (x2 : Int32) (x3 : Int32) (w : Wd), g x1 x2 x3 w = some res → V w 32 [(0, .ref (G.2 100)), (1, .int x1), (2, .int x2), (3, .int x3)] []) (fun _ _ _ _ h => by cases h) (fun g hg _ _ _ _ h => bb_X9_as_32 C hg h) FU
def f_X9_as_18 (w : Wd) : Option (Int32 × Wd) := bd (f_X9_errs (-1000000001:Int32) w) (fun q1 => some (q1.1, q1.2))
set_option maxRecDepth 20000 in
theorem b_X9_as_18 {G : Gv} {V : Vt} {res : Int32 × Wd}  (C : CX cX9_as RX9 G SM 4 3 (some FieldType.int) (some (.int res.1)) res.2 V) {w : Wd} (h : f_X9_as_18 w = some res) : V w 18 [(0, .ref (G.2 100))] [] := by
  unfold f_X9_as_18 at h
  refine r_aload_n (pc := 18) C dX9_as_18 rfl 0 rfl ?_
  refine r_ldc (pc := 19) C dX9_as_19 qk_X9_61 ?_
  refine cv_X9_62 (pc := 21) C dX9_as_21  h (by decide) (Nat.le_of_ble_eq_true rfl) (fun q1 h => ?_)
  exact r_iretE (pc := 24) C dX9_as_24 h
def f_X9_as (p1 : Int32) (p2 : Int32) (w : Wd) : Option (Int32 × Wd) := bd (f_X9_isPart w p1) (fun q1 => (if q1 = 0 then f_X9_as_18 w else bd (f_X9_in p2 (0:Int32) (6:Int32)) (fun q2 => (if ¬ q2 = 0 then bd (f_X9_its w p1 (0:Int32)) (fun q3 => f_X9_as_32 p1 p2 q3 w) else f_X9_as_18 w))))
set_option maxRecDepth 20000 in
theorem b_X9_as_E {G : Gv} {V : Vt} {res : Int32 × Wd}  (C : CX cX9_as RX9 G SM 4 3 (some FieldType.int) (some (.int res.1)) res.2 V) {p1 : Int32} {p2 : Int32} {w : Wd} (h : f_X9_as p1 p2 w = some res) : V w 0 [(0, .ref (G.2 100)), (1, .int p1), (2, .int p2)] [] := by
  unfold f_X9_as at h
  refine r_aload_n (pc := 0) C dX9_as_0 rfl 0 rfl ?_
  refine r_iload_n (pc := 1) C dX9_as_1 rfl 1 rfl ?_
  refine cv_X9_57 (pc := 2) C dX9_as_2  h (by decide) (Nat.le_of_ble_eq_true rfl) (fun q1 h => ?_)
  refine r_if_eq (pc := 5) C 18 dX9_as_5 (by decide) h (fun h => ?_) (fun h => ?_)
  · exact r_sub C [0] rfl (b_X9_as_18 C h)
  · refine r_iload_n (pc := 8) C dX9_as_8 rfl 2 rfl ?_
    refine r_iconst (v := (0:Int32)) (pc := 9) C dX9_as_9 (by decide) ?_
    refine r_bipush (v := (6:Int32)) (pc := 10) C dX9_as_10 (by decide) ?_
    refine cv_X9_53 (pc := 12) C dX9_as_12  h (by decide) (Nat.le_of_ble_eq_true rfl) (fun q2 h => ?_)
    refine r_if_ne (pc := 15) C 25 dX9_as_15 (by decide) h (fun h => ?_) (fun h => ?_)
    · refine r_aload_n (pc := 25) C dX9_as_25 rfl 0 rfl ?_
      refine r_iload_n (pc := 26) C dX9_as_26 rfl 1 rfl ?_
      refine r_iconst (v := (0:Int32)) (pc := 27) C dX9_as_27 (by decide) ?_
      refine cv_X9_67 (pc := 28) C dX9_as_28  h (by decide) (Nat.le_of_ble_eq_true rfl) (fun q3 h => ?_)
      refine r_istore_n (L' := [(3, .int q3), (0, .ref (G.2 100)), (1, .int p1), (2, .int p2)]) (pc := 31) C dX9_as_31 rfl (by decide) rfl ?_
      exact r_sub C [1, 2, 3, 0] rfl (b_X9_as_32 C _ _ _ _ h)
    · exact r_sub C [0] rfl (b_X9_as_18 C h)
theorem c_X9_as {G : Gv} {p1 : Int32} {p2 : Int32} {w : Wd} {res : Int32 × Wd} (h : f_X9_as p1 p2 w = some res) (l : Launch) : MC l yX9_as cX9_as 4 (some FieldType.int) 3 G SM w [.ref (G.2 100), .int p1, .int p2] (some (.int res.1)) res.2 := mc_of (by decide +kernel) rfl (Nat.le_of_ble_eq_true rfl) rfl (fun V C => b_X9_as_E C h) l
theorem cv_X9_97 {cc : ByteArray} {G : Gv} {n hc : Nat} {rt : Option FieldType} {rv : Option Value} {w0 : Wd} {V : Vt} {w : Wd} {pc : Nat} {L : List (Nat × Value)} {rest : List Value} {α : Type} {res : α} {p1 : Int32} {p2 : Int32} {p3 : Int32} {K : Wd → Option α} (C : CX cc RX9 G SM n hc rt rv w0 V) (hd : decode cc pc = .ok (.invokevirtual 97, 3)) (h : bd (f_X9_gets p1 p2 p3 w) K = some res) (hR : 1 + 1 ≤ hc) (hr : (rest.map fun v => v.category).sum ≤ 8) (kk : ∀ q, K q = some res → V q (pc + 3) L (rest)) : V w pc L (.int p3 :: .int p2 :: .int p1 :: .ref (G.2 100) :: rest) := r_callV (As := [.int p1, .int p2, .int p3]) (rest := rest) (rvf := fun q => none) (wf := fun q => q) C hd h ql_X9_97 qi_X9_gets qs_X9_gets qn_X9 qc_X9_gets ⟨rfl, by decide +kernel, by decide +kernel, (by decide +kernel : (parseMethodDescriptor yX9_gets.desc).map (fun d => d.parameters.length) = some 3)⟩ ⟨hR, by decide⟩ kx_100 rfl (fun q hq l => c_X9_gets hq l) rfl hr kk
def f_X9_addPlayer (p1 : Int32) (p2 : Int32) (w : Wd) : Option (Int32 × Wd) := ald w 101 229 (8:Int32) (fun v1 => ald w 101 229 (8:Int32) (fun v2 => ast w 101 229 (8:Int32) (v2 + (1:Int32)) (fun w3 => bd (f_X9_gets v1 (0:Int32) p2 w3) (fun q4 => bd (f_X9_gets v1 (1:Int32) (0:Int32) q4) (fun q5 => bd (f_X9_gets v1 (2:Int32) p1 q5) (fun q6 => bd (f_X9_gets v1 (3:Int32) (0:Int32) q6) (fun q7 => bd (f_X9_gets v1 (4:Int32) (0:Int32) q7) (fun q8 => some (v1, q8)))))))))
set_option maxRecDepth 20000 in
theorem b_X9_addPlayer_E {G : Gv} {V : Vt} {res : Int32 × Wd}  (C : CX cX9_addPlayer RX9 G SM 4 2 (some FieldType.int) (some (.int res.1)) res.2 V) {p1 : Int32} {p2 : Int32} {w : Wd} (h : f_X9_addPlayer p1 p2 w = some res) : V w 0 [(0, .ref (G.2 100)), (1, .int p1), (2, .int p2)] [] := by
  unfold f_X9_addPlayer at h
  refine r_aload_n (pc := 0) C dX9_addPlayer_0 rfl 0 rfl ?_
  refine gr_X9_7 (pc := 1) 101 C dX9_addPlayer_1 kx_100 rfl ?_
  refine r_bipush (v := (8:Int32)) (pc := 4) C dX9_addPlayer_4 (by decide) ?_
  refine r_ald (pc := 6) C dX9_addPlayer_6 h kx_101 (fun v1 h => ?_)
  refine r_istore_n (L' := [(3, .int v1), (0, .ref (G.2 100)), (1, .int p1), (2, .int p2)]) (pc := 7) C dX9_addPlayer_7 rfl (by decide) rfl ?_
  refine r_aload_n (pc := 8) C dX9_addPlayer_8 rfl 1 rfl ?_
  refine gr_X9_7 (pc := 9) 101 C dX9_addPlayer_9 kx_100 rfl ?_
  refine r_bipush (v := (8:Int32)) (pc := 12) C dX9_addPlayer_12 (by decide) ?_
  refine r_dup2 (pc := 14) C dX9_addPlayer_14 rfl rfl ?_
  refine r_ald (pc := 15) C dX9_addPlayer_15 h kx_101 (fun v2 h => ?_)
  refine r_iconst (v := (1:Int32)) (pc := 16) C dX9_addPlayer_16 (by decide) ?_
  refine r_iadd (pc := 17) C dX9_addPlayer_17 ?_
  refine r_ast (pc := 18) C dX9_addPlayer_18 h kx_101 (fun w3 h => ?_)
  refine r_aload_n (pc := 19) C dX9_addPlayer_19 rfl 1 rfl ?_
  refine r_iload_n (pc := 20) C dX9_addPlayer_20 rfl 0 rfl ?_
  refine r_iconst (v := (0:Int32)) (pc := 21) C dX9_addPlayer_21 (by decide) ?_
  refine r_iload_n (pc := 22) C dX9_addPlayer_22 rfl 3 rfl ?_
  refine cv_X9_97 (pc := 23) C dX9_addPlayer_23  h (by decide) (Nat.le_of_ble_eq_true rfl) (fun q4 h => ?_)
  refine r_aload_n (pc := 26) C dX9_addPlayer_26 rfl 1 rfl ?_
  refine r_iload_n (pc := 27) C dX9_addPlayer_27 rfl 0 rfl ?_
  refine r_iconst (v := (1:Int32)) (pc := 28) C dX9_addPlayer_28 (by decide) ?_
  refine r_iconst (v := (0:Int32)) (pc := 29) C dX9_addPlayer_29 (by decide) ?_
  refine cv_X9_97 (pc := 30) C dX9_addPlayer_30  h (by decide) (Nat.le_of_ble_eq_true rfl) (fun q5 h => ?_)
  refine r_aload_n (pc := 33) C dX9_addPlayer_33 rfl 1 rfl ?_
  refine r_iload_n (pc := 34) C dX9_addPlayer_34 rfl 0 rfl ?_
  refine r_iconst (v := (2:Int32)) (pc := 35) C dX9_addPlayer_35 (by decide) ?_
  refine r_iload_n (pc := 36) C dX9_addPlayer_36 rfl 2 rfl ?_
  refine cv_X9_97 (pc := 37) C dX9_addPlayer_37  h (by decide) (Nat.le_of_ble_eq_true rfl) (fun q6 h => ?_)
  refine r_aload_n (pc := 40) C dX9_addPlayer_40 rfl 1 rfl ?_
  refine r_iload_n (pc := 41) C dX9_addPlayer_41 rfl 0 rfl ?_
  refine r_iconst (v := (3:Int32)) (pc := 42) C dX9_addPlayer_42 (by decide) ?_
  refine r_iconst (v := (0:Int32)) (pc := 43) C dX9_addPlayer_43 (by decide) ?_
  refine cv_X9_97 (pc := 44) C dX9_addPlayer_44  h (by decide) (Nat.le_of_ble_eq_true rfl) (fun q7 h => ?_)
  refine r_aload_n (pc := 47) C dX9_addPlayer_47 rfl 1 rfl ?_
  refine r_iload_n (pc := 48) C dX9_addPlayer_48 rfl 0 rfl ?_
  refine r_iconst (v := (4:Int32)) (pc := 49) C dX9_addPlayer_49 (by decide) ?_
  refine r_iconst (v := (0:Int32)) (pc := 50) C dX9_addPlayer_50 (by decide) ?_
  refine cv_X9_97 (pc := 51) C dX9_addPlayer_51  h (by decide) (Nat.le_of_ble_eq_true rfl) (fun q8 h => ?_)
  refine r_iload_n (pc := 54) C dX9_addPlayer_54 rfl 0 rfl ?_
  exact r_iretE (pc := 55) C dX9_addPlayer_55 h
theorem c_X9_addPlayer {G : Gv} {p1 : Int32} {p2 : Int32} {w : Wd} {res : Int32 × Wd} (h : f_X9_addPlayer p1 p2 w = some res) (l : Launch) : MC l yX9_addPlayer cX9_addPlayer 4 (some FieldType.int) 2 G SM w [.ref (G.2 100), .int p1, .int p2] (some (.int res.1)) res.2 := mc_of (by decide +kernel) rfl (Nat.le_of_ble_eq_true rfl) rfl (fun V C => b_X9_addPlayer_E C h) l
theorem cv_X9_101 {cc : ByteArray} {G : Gv} {n hc : Nat} {rt : Option FieldType} {rv : Option Value} {w0 : Wd} {V : Vt} {w : Wd} {pc : Nat} {L : List (Nat × Value)} {rest : List Value} {α : Type} {res : α} {p1 : Int32} {K : Int32 → Option α} (C : CX cc RX9 G SM n hc rt rv w0 V) (hd : decode cc pc = .ok (.invokevirtual 101, 3)) (h : bd (f_X9_isOwn w p1) K = some res) (hR : 3 + 1 ≤ hc) (hr : (rest.map fun v => v.category).sum ≤ 8) (kk : ∀ q, K q = some res → V w (pc + 3) L (.int q :: rest)) : V w pc L (.int p1 :: .ref (G.2 100) :: rest) := r_callV (As := [.int p1]) (rest := rest) (rvf := fun q => (some (.int q))) (wf := fun q => w) C hd h ql_X9_101 qi_X9_isOwn qs_X9_isOwn qn_X9 qc_X9_isOwn ⟨rfl, by decide +kernel, by decide +kernel, (by decide +kernel : (parseMethodDescriptor yX9_isOwn.desc).map (fun d => d.parameters.length) = some 1)⟩ ⟨hR, by decide⟩ kx_100 rfl (fun q hq l => c_X9_isOwn hq l) rfl hr kk
theorem cv_X9_104 {cc : ByteArray} {G : Gv} {n hc : Nat} {rt : Option FieldType} {rv : Option Value} {w0 : Wd} {V : Vt} {w : Wd} {pc : Nat} {L : List (Nat × Value)} {rest : List Value} {α : Type} {res : α} {p1 : Int32} {p2 : Int32} {K : Int32 × Wd → Option α} (C : CX cc RX9 G SM n hc rt rv w0 V) (hd : decode cc pc = .ok (.invokevirtual 104, 3)) (h : bd (f_X9_addPlayer p1 p2 w) K = some res) (hR : 2 + 1 ≤ hc) (hr : (rest.map fun v => v.category).sum ≤ 8) (kk : ∀ q, K q = some res → V q.2 (pc + 3) L (.int q.1 :: rest)) : V w pc L (.int p2 :: .int p1 :: .ref (G.2 100) :: rest) := r_callV (As := [.int p1, .int p2]) (rest := rest) (rvf := fun q => (some (.int q.1))) (wf := fun q => q.2) C hd h ql_X9_104 qi_X9_addPlayer qs_X9_addPlayer qn_X9 qc_X9_addPlayer ⟨rfl, by decide +kernel, by decide +kernel, (by decide +kernel : (parseMethodDescriptor yX9_addPlayer.desc).map (fun d => d.parameters.length) = some 2)⟩ ⟨hR, by decide⟩ kx_100 rfl (fun q hq l => c_X9_addPlayer hq l) rfl hr kk
def f_X9_player_47 (t0 : Int32) (t1 : Int32) (w : Wd) : Option (Int32 × Wd) := bd (f_X9_addPlayer t1 t0 w) (fun q1 => some (q1.1, q1.2))
set_option maxRecDepth 20000 in
theorem b_X9_player_47 {G : Gv} {V : Vt} {res : Int32 × Wd}  (C : CX cX9_player RX9 G SM 2 4 (some FieldType.int) (some (.int res.1)) res.2 V) {t0 : Int32} {t1 : Int32} {w : Wd} (h : f_X9_player_47 t0 t1 w = some res) : V w 47 [] [.int t0, .int t1, .ref (G.2 100)] := by
  unfold f_X9_player_47 at h
  refine cv_X9_104 (pc := 47) C dX9_player_47  h (by decide) (Nat.le_of_ble_eq_true rfl) (fun q1 h => ?_)
  exact r_iretE (pc := 50) C dX9_player_50 h
def f_X9_player (p1 : Int32) (w : Wd) : Option (Int32 × Wd) := bd (f_X9_isOwn w p1) (fun q1 => (if ¬ q1 = 0 then ald w 101 229 (8:Int32) (fun v2 => (if ¬ v2 = (6:Int32) then (if 0 ≤ p1 then f_X9_player_47 ((1:Int32) <<< (p1 &&& 31)) p1 w else f_X9_player_47 (0:Int32) p1 w) else bd (f_X9_errs (-1000000004:Int32) w) (fun q3 => some (q3.1, q3.2)))) else bd (f_X9_errs (-1000000001:Int32) w) (fun q4 => some (q4.1, q4.2))))
set_option maxRecDepth 20000 in
theorem b_X9_player_E {G : Gv} {V : Vt} {res : Int32 × Wd}  (C : CX cX9_player RX9 G SM 2 4 (some FieldType.int) (some (.int res.1)) res.2 V) {p1 : Int32} {w : Wd} (h : f_X9_player p1 w = some res) : V w 0 [(0, .ref (G.2 100)), (1, .int p1)] [] := by
  unfold f_X9_player at h
  refine r_aload_n (pc := 0) C dX9_player_0 rfl 0 rfl ?_
  refine r_iload_n (pc := 1) C dX9_player_1 rfl 1 rfl ?_
  refine cv_X9_101 (pc := 2) C dX9_player_2  h (by decide) (Nat.le_of_ble_eq_true rfl) (fun q1 h => ?_)
  refine r_if_ne (pc := 5) C 15 dX9_player_5 (by decide) h (fun h => ?_) (fun h => ?_)
  · refine r_aload_n (pc := 15) C dX9_player_15 rfl 0 rfl ?_
    refine gr_X9_7 (pc := 16) 101 C dX9_player_16 kx_100 rfl ?_
    refine r_bipush (v := (8:Int32)) (pc := 19) C dX9_player_19 (by decide) ?_
    refine r_ald (pc := 21) C dX9_player_21 h kx_101 (fun v2 h => ?_)
    refine r_bipush (v := (6:Int32)) (pc := 22) C dX9_player_22 (by decide) ?_
    refine r_icmp_ne (pc := 24) C 34 dX9_player_24 (by decide) h (fun h => ?_) (fun h => ?_)
    · refine r_aload_n (pc := 34) C dX9_player_34 rfl 0 rfl ?_
      refine r_iload_n (pc := 35) C dX9_player_35 rfl 1 rfl ?_
      refine r_iload_n (pc := 36) C dX9_player_36 rfl 1 rfl ?_
      refine r_if_ge (pc := 37) C 44 dX9_player_37 (by decide) h (fun h => ?_) (fun h => ?_)
      · refine r_iconst (v := (1:Int32)) (pc := 44) C dX9_player_44 (by decide) ?_
        refine r_iload_n (pc := 45) C dX9_player_45 rfl 1 rfl ?_
        refine r_ishl (pc := 46) C dX9_player_46 ?_
        exact r_sub C [] rfl (b_X9_player_47 C h)
      · refine r_iconst (v := (0:Int32)) (pc := 40) C dX9_player_40 (by decide) ?_
        refine r_goto (pc := 41) C 47 dX9_player_41 (by decide) ?_
        exact r_sub C [] rfl (b_X9_player_47 C h)
    · refine r_aload_n (pc := 27) C dX9_player_27 rfl 0 rfl ?_
      refine r_ldc (pc := 28) C dX9_player_28 qk_X9_66 ?_
      refine cv_X9_62 (pc := 30) C dX9_player_30  h (by decide) (Nat.le_of_ble_eq_true rfl) (fun q3 h => ?_)
      exact r_iretE (pc := 33) C dX9_player_33 h
  · refine r_aload_n (pc := 8) C dX9_player_8 rfl 0 rfl ?_
    refine r_ldc (pc := 9) C dX9_player_9 qk_X9_61 ?_
    refine cv_X9_62 (pc := 11) C dX9_player_11  h (by decide) (Nat.le_of_ble_eq_true rfl) (fun q4 h => ?_)
    exact r_iretE (pc := 14) C dX9_player_14 h
theorem c_X9_player {G : Gv} {p1 : Int32} {w : Wd} {res : Int32 × Wd} (h : f_X9_player p1 w = some res) (l : Launch) : MC l yX9_player cX9_player 2 (some FieldType.int) 4 G SM w [.ref (G.2 100), .int p1] (some (.int res.1)) res.2 := mc_of (by decide +kernel) rfl (Nat.le_of_ble_eq_true rfl) rfl (fun V C => b_X9_player_E C h) l
theorem cv_X9_107 {cc : ByteArray} {G : Gv} {n hc : Nat} {rt : Option FieldType} {rv : Option Value} {w0 : Wd} {V : Vt} {w : Wd} {pc : Nat} {L : List (Nat × Value)} {rest : List Value} {α : Type} {res : α} {p1 : Int32} {K : Int32 → Option α} (C : CX cc RX9 G SM n hc rt rv w0 V) (hd : decode cc pc = .ok (.invokevirtual 107, 3)) (h : bd (f_X9_isPlayer w p1) K = some res) (hR : 2 + 1 ≤ hc) (hr : (rest.map fun v => v.category).sum ≤ 8) (kk : ∀ q, K q = some res → V w (pc + 3) L (.int q :: rest)) : V w pc L (.int p1 :: .ref (G.2 100) :: rest) := r_callV (As := [.int p1]) (rest := rest) (rvf := fun q => (some (.int q))) (wf := fun q => w) C hd h ql_X9_107 qi_X9_isPlayer qs_X9_isPlayer qn_X9 qc_X9_isPlayer ⟨rfl, by decide +kernel, by decide +kernel, (by decide +kernel : (parseMethodDescriptor yX9_isPlayer.desc).map (fun d => d.parameters.length) = some 1)⟩ ⟨hR, by decide⟩ kx_100 rfl (fun q hq l => c_X9_isPlayer hq l) rfl hr kk
def f_X9_ofPlayer_71 (rec41 : Int32 → Int32 → Int32 → Wd → Option (Int32 × Wd)) (x1 : Int32) (x4 : Int32) (t0 : Int32) (t1 : Int32) (w : Wd) : Option (Int32 × Wd) := lv (t1 ||| t0) (fun v1 => rec41 x1 v1 (x4 + (1:Int32)) w)
set_option maxRecDepth 20000 in
theorem b_X9_ofPlayer_71 {G : Gv} {V : Vt} {rec41 : Int32 → Int32 → Int32 → Wd → Option (Int32 × Wd)} {res : Int32 × Wd}  (C : CX cX9_ofPlayer RX9 G SM 5 4 (some FieldType.int) (some (.int res.1)) res.2 V) (hrec41 : ∀ (x1 : Int32) (x3 : Int32) (x4 : Int32) (w : Wd), rec41 x1 x3 x4 w = some res → V w 41 [(0, .ref (G.2 100)), (1, .int x1), (3, .int x3), (4, .int x4)] []) {x1 : Int32} {x4 : Int32} {t0 : Int32} {t1 : Int32} {w : Wd} (h : f_X9_ofPlayer_71 rec41 x1 x4 t0 t1 w = some res) : V w 71 [(0, .ref (G.2 100)), (1, .int x1), (4, .int x4)] [.int t0, .int t1] := by
  unfold f_X9_ofPlayer_71 at h
  refine r_ior (pc := 71) C dX9_ofPlayer_71 ?_
  refine r_lv h (fun v1 h => ?_)
  refine r_istore_n (L' := [(3, .int v1), (0, .ref (G.2 100)), (1, .int x1), (4, .int x4)]) (pc := 72) C dX9_ofPlayer_72 rfl (by decide) rfl ?_
  refine r_iinc (v := (x4 + (1:Int32))) (L' := [(4, .int (x4 + (1:Int32))), (3, .int v1), (0, .ref (G.2 100)), (1, .int x1)]) (pc := 73) C dX9_ofPlayer_73 3 rfl rfl (by decide) rfl ?_
  refine r_goto (pc := 76) C 41 dX9_ofPlayer_76 (by decide) ?_
  exact r_sub C [2, 3, 1, 0] rfl (hrec41 _ _ _ _ h)
def fb_X9_ofPlayer_41 (rec41 : Int32 → Int32 → Int32 → Wd → Option (Int32 × Wd)) (x1 : Int32) (x3 : Int32) (x4 : Int32) (w : Wd) : Option (Int32 × Wd) := ald w 101 229 (3:Int32) (fun v1 => (if v1 ≤ x4 then some (x3, w) else bd (f_X9_may w x1 x4) (fun q2 => (if q2 = 0 then f_X9_ofPlayer_71 rec41 x1 x4 (0:Int32) x3 w else f_X9_ofPlayer_71 rec41 x1 x4 ((1:Int32) <<< (x4 &&& 31)) x3 w))))
set_option maxRecDepth 20000 in
theorem bb_X9_ofPlayer_41 {G : Gv} {V : Vt} {rec41 : Int32 → Int32 → Int32 → Wd → Option (Int32 × Wd)} {res : Int32 × Wd}  (C : CX cX9_ofPlayer RX9 G SM 5 4 (some FieldType.int) (some (.int res.1)) res.2 V) (hrec41 : ∀ (x1 : Int32) (x3 : Int32) (x4 : Int32) (w : Wd), rec41 x1 x3 x4 w = some res → V w 41 [(0, .ref (G.2 100)), (1, .int x1), (3, .int x3), (4, .int x4)] []) {x1 : Int32} {x3 : Int32} {x4 : Int32} {w : Wd} (h : fb_X9_ofPlayer_41 rec41 x1 x3 x4 w = some res) : V w 41 [(0, .ref (G.2 100)), (1, .int x1), (3, .int x3), (4, .int x4)] [] := by
  unfold fb_X9_ofPlayer_41 at h
  refine r_iload (pc := 41) C dX9_ofPlayer_41 3 rfl ?_
  refine r_aload_n (pc := 43) C dX9_ofPlayer_43 rfl 0 rfl ?_
  refine gr_X9_7 (pc := 44) 101 C dX9_ofPlayer_44 kx_100 rfl ?_
  refine r_iconst (v := (3:Int32)) (pc := 47) C dX9_ofPlayer_47 (by decide) ?_
  refine r_ald (pc := 48) C dX9_ofPlayer_48 h kx_101 (fun v1 h => ?_)
  refine r_icmp_ge (pc := 49) C 79 dX9_ofPlayer_49 (by decide) h (fun h => ?_) (fun h => ?_)
  · refine r_iload_n (pc := 79) C dX9_ofPlayer_79 rfl 2 rfl ?_
    exact r_iretE (pc := 80) C dX9_ofPlayer_80 h
  · refine r_iload_n (pc := 52) C dX9_ofPlayer_52 rfl 2 rfl ?_
    refine r_aload_n (pc := 53) C dX9_ofPlayer_53 rfl 0 rfl ?_
    refine r_iload_n (pc := 54) C dX9_ofPlayer_54 rfl 1 rfl ?_
    refine r_iload (pc := 55) C dX9_ofPlayer_55 3 rfl ?_
    refine cv_X9_81 (pc := 57) C dX9_ofPlayer_57  h (by decide) (Nat.le_of_ble_eq_true rfl) (fun q2 h => ?_)
    refine r_if_eq (pc := 60) C 70 dX9_ofPlayer_60 (by decide) h (fun h => ?_) (fun h => ?_)
    · refine r_iconst (v := (0:Int32)) (pc := 70) C dX9_ofPlayer_70 (by decide) ?_
      exact r_sub C [0, 1, 3] rfl (b_X9_ofPlayer_71 C hrec41 h)
    · refine r_iconst (v := (1:Int32)) (pc := 63) C dX9_ofPlayer_63 (by decide) ?_
      refine r_iload (pc := 64) C dX9_ofPlayer_64 3 rfl ?_
      refine r_ishl (pc := 66) C dX9_ofPlayer_66 ?_
      refine r_goto (pc := 67) C 71 dX9_ofPlayer_67 (by decide) ?_
      exact r_sub C [0, 1, 3] rfl (b_X9_ofPlayer_71 C hrec41 h)
def f_X9_ofPlayer_41 : Int32 → Int32 → Int32 → Wd → Option (Int32 × Wd) := lp (fun _ _ _ _ => none) (fun rec => fb_X9_ofPlayer_41 rec) FU
theorem b_X9_ofPlayer_41 {G : Gv} {V : Vt} {res : Int32 × Wd}  (C : CX cX9_ofPlayer RX9 G SM 5 4 (some FieldType.int) (some (.int res.1)) res.2 V) : ∀ (x1 : Int32) (x3 : Int32) (x4 : Int32) (w : Wd), (f_X9_ofPlayer_41) x1 x3 x4 w = some res → V w 41 [(0, .ref (G.2 100)), (1, .int x1), (3, .int x3), (4, .int x4)] [] :=
  lp_ind (P := fun (g : Int32 → Int32 → Int32 → Wd → Option (Int32 × Wd)) => ∀ (x1 : Int32) (x3 : Int32) (x4 : Int32) (w : Wd), g x1 x3 x4 w = some res → V w 41 [(0, .ref (G.2 100)), (1, .int x1), (3, .int x3), (4, .int x4)] []) (fun _ _ _ _ h => by cases h) (fun g hg _ _ _ _ h => bb_X9_ofPlayer_41 C hg h) FU
def f_X9_ofPlayer_17 (w : Wd) : Option (Int32 × Wd) := bd (f_X9_errs (-1000000001:Int32) w) (fun q1 => some (q1.1, q1.2))
set_option maxRecDepth 20000 in
theorem b_X9_ofPlayer_17 {G : Gv} {V : Vt} {res : Int32 × Wd}  (C : CX cX9_ofPlayer RX9 G SM 5 4 (some FieldType.int) (some (.int res.1)) res.2 V) {w : Wd} (h : f_X9_ofPlayer_17 w = some res) : V w 17 [(0, .ref (G.2 100))] [] := by
  unfold f_X9_ofPlayer_17 at h
  refine r_aload_n (pc := 17) C dX9_ofPlayer_17 rfl 0 rfl ?_
  refine r_ldc (pc := 18) C dX9_ofPlayer_18 qk_X9_61 ?_
  refine cv_X9_62 (pc := 20) C dX9_ofPlayer_20  h (by decide) (Nat.le_of_ble_eq_true rfl) (fun q1 h => ?_)
  exact r_iretE (pc := 23) C dX9_ofPlayer_23 h
def f_X9_ofPlayer (p1 : Int32) (p2 : Int32) (w : Wd) : Option (Int32 × Wd) := bd (f_X9_isPlayer w p1) (fun q1 => (if q1 = 0 then f_X9_ofPlayer_17 w else bd (f_X9_in p2 (0:Int32) (5:Int32)) (fun q2 => (if ¬ q2 = 0 then (if (5:Int32) ≤ p2 then f_X9_ofPlayer_41 p1 (0:Int32) (0:Int32) w else bd (f_X9_of w p1 p2) (fun q3 => some (q3, w))) else f_X9_ofPlayer_17 w))))
set_option maxRecDepth 20000 in
theorem b_X9_ofPlayer_E {G : Gv} {V : Vt} {res : Int32 × Wd}  (C : CX cX9_ofPlayer RX9 G SM 5 4 (some FieldType.int) (some (.int res.1)) res.2 V) {p1 : Int32} {p2 : Int32} {w : Wd} (h : f_X9_ofPlayer p1 p2 w = some res) : V w 0 [(0, .ref (G.2 100)), (1, .int p1), (2, .int p2)] [] := by
  unfold f_X9_ofPlayer at h
  refine r_aload_n (pc := 0) C dX9_ofPlayer_0 rfl 0 rfl ?_
  refine r_iload_n (pc := 1) C dX9_ofPlayer_1 rfl 1 rfl ?_
  refine cv_X9_107 (pc := 2) C dX9_ofPlayer_2  h (by decide) (Nat.le_of_ble_eq_true rfl) (fun q1 h => ?_)
  refine r_if_eq (pc := 5) C 17 dX9_ofPlayer_5 (by decide) h (fun h => ?_) (fun h => ?_)
  · exact r_sub C [0] rfl (b_X9_ofPlayer_17 C h)
  · refine r_iload_n (pc := 8) C dX9_ofPlayer_8 rfl 2 rfl ?_
    refine r_iconst (v := (0:Int32)) (pc := 9) C dX9_ofPlayer_9 (by decide) ?_
    refine r_iconst (v := (5:Int32)) (pc := 10) C dX9_ofPlayer_10 (by decide) ?_
    refine cv_X9_53 (pc := 11) C dX9_ofPlayer_11  h (by decide) (Nat.le_of_ble_eq_true rfl) (fun q2 h => ?_)
    refine r_if_ne (pc := 14) C 24 dX9_ofPlayer_14 (by decide) h (fun h => ?_) (fun h => ?_)
    · refine r_iload_n (pc := 24) C dX9_ofPlayer_24 rfl 2 rfl ?_
      refine r_iconst (v := (5:Int32)) (pc := 25) C dX9_ofPlayer_25 (by decide) ?_
      refine r_icmp_ge (pc := 26) C 36 dX9_ofPlayer_26 (by decide) h (fun h => ?_) (fun h => ?_)
      · refine r_iconst (v := (0:Int32)) (pc := 36) C dX9_ofPlayer_36 (by decide) ?_
        refine r_istore_n (L' := [(3, .int (0:Int32)), (0, .ref (G.2 100)), (1, .int p1), (2, .int p2)]) (pc := 37) C dX9_ofPlayer_37 rfl (by decide) rfl ?_
        refine r_iconst (v := (0:Int32)) (pc := 38) C dX9_ofPlayer_38 (by decide) ?_
        refine r_istore (L' := [(4, .int (0:Int32)), (3, .int (0:Int32)), (0, .ref (G.2 100)), (1, .int p1), (2, .int p2)]) (pc := 39) C dX9_ofPlayer_39 (by decide) rfl ?_
        exact r_sub C [2, 3, 1, 0] rfl (b_X9_ofPlayer_41 C _ _ _ _ h)
      · refine r_aload_n (pc := 29) C dX9_ofPlayer_29 rfl 0 rfl ?_
        refine r_iload_n (pc := 30) C dX9_ofPlayer_30 rfl 1 rfl ?_
        refine r_iload_n (pc := 31) C dX9_ofPlayer_31 rfl 2 rfl ?_
        refine cv_X9_71 (pc := 32) C dX9_ofPlayer_32  h (by decide) (Nat.le_of_ble_eq_true rfl) (fun q3 h => ?_)
        exact r_iretE (pc := 35) C dX9_ofPlayer_35 h
    · exact r_sub C [0] rfl (b_X9_ofPlayer_17 C h)
theorem c_X9_ofPlayer {G : Gv} {p1 : Int32} {p2 : Int32} {w : Wd} {res : Int32 × Wd} (h : f_X9_ofPlayer p1 p2 w = some res) (l : Launch) : MC l yX9_ofPlayer cX9_ofPlayer 5 (some FieldType.int) 4 G SM w [.ref (G.2 100), .int p1, .int p2] (some (.int res.1)) res.2 := mc_of (by decide +kernel) rfl (Nat.le_of_ble_eq_true rfl) rfl (fun V C => b_X9_ofPlayer_E C h) l
theorem cv_X9_110 {cc : ByteArray} {G : Gv} {n hc : Nat} {rt : Option FieldType} {rv : Option Value} {w0 : Wd} {V : Vt} {w : Wd} {pc : Nat} {L : List (Nat × Value)} {rest : List Value} {α : Type} {res : α} {p1 : Int32} {K : Int32 → Option α} (C : CX cc RX9 G SM n hc rt rv w0 V) (hd : decode cc pc = .ok (.invokevirtual 110, 3)) (h : bd (f_X9_isSet w p1) K = some res) (hR : 2 + 1 ≤ hc) (hr : (rest.map fun v => v.category).sum ≤ 8) (kk : ∀ q, K q = some res → V w (pc + 3) L (.int q :: rest)) : V w pc L (.int p1 :: .ref (G.2 100) :: rest) := r_callV (As := [.int p1]) (rest := rest) (rvf := fun q => (some (.int q))) (wf := fun q => w) C hd h ql_X9_110 qi_X9_isSet qs_X9_isSet qn_X9 qc_X9_isSet ⟨rfl, by decide +kernel, by decide +kernel, (by decide +kernel : (parseMethodDescriptor yX9_isSet.desc).map (fun d => d.parameters.length) = some 1)⟩ ⟨hR, by decide⟩ kx_100 rfl (fun q hq l => c_X9_isSet hq l) rfl hr kk
def f_X9_change_87 (x3 : Int32) (t0 : Int32) (t1 : Int32) (w : Wd) : Option (Int32 × Wd) := bd (f_X9_becomes (t1 + t0) x3 w) (fun q1 => some (q1.1, q1.2))
set_option maxRecDepth 20000 in
theorem b_X9_change_87 {G : Gv} {V : Vt} {res : Int32 × Wd}  (C : CX cX9_change RX9 G SM 5 4 (some FieldType.int) (some (.int res.1)) res.2 V) {x3 : Int32} {t0 : Int32} {t1 : Int32} {w : Wd} (h : f_X9_change_87 x3 t0 t1 w = some res) : V w 87 [(3, .int x3)] [.int t0, .int t1, .ref (G.2 100)] := by
  unfold f_X9_change_87 at h
  refine r_iadd (pc := 87) C dX9_change_87 ?_
  refine r_iload_n (pc := 88) C dX9_change_88 rfl 0 rfl ?_
  refine cv_X9_90 (pc := 89) C dX9_change_89  h (by decide) (Nat.le_of_ble_eq_true rfl) (fun q1 h => ?_)
  refine r_goto (pc := 92) C 101 dX9_change_92 (by decide) ?_
  exact r_iretE (pc := 101) C dX9_change_101 h
def f_X9_change_63 (x1 : Int32) (x2 : Int32) (x3 : Int32) (t0 : Int32) (w : Wd) : Option (Int32 × Wd) := (if t0 = 0 then bd (f_X9_errs (-1000000001:Int32) w) (fun q1 => some (q1.1, q1.2)) else (if ¬ x2 = (3:Int32) then f_X9_change_87 x3 x2 ((29:Int32) + ((5:Int32) * x1)) w else f_X9_change_87 x3 (4:Int32) ((29:Int32) + ((5:Int32) * x1)) w))
set_option maxRecDepth 20000 in
theorem b_X9_change_63 {G : Gv} {V : Vt} {res : Int32 × Wd}  (C : CX cX9_change RX9 G SM 5 4 (some FieldType.int) (some (.int res.1)) res.2 V) {x1 : Int32} {x2 : Int32} {x3 : Int32} {t0 : Int32} {w : Wd} (h : f_X9_change_63 x1 x2 x3 t0 w = some res) : V w 63 [(0, .ref (G.2 100)), (1, .int x1), (2, .int x2), (3, .int x3)] [.int t0] := by
  unfold f_X9_change_63 at h
  refine r_istore (L' := [(4, .int t0), (0, .ref (G.2 100)), (1, .int x1), (2, .int x2), (3, .int x3)]) (pc := 63) C dX9_change_63 (by decide) rfl ?_
  refine r_iload (pc := 65) C dX9_change_65 0 rfl ?_
  refine r_if_eq (pc := 67) C 95 dX9_change_67 (by decide) h (fun h => ?_) (fun h => ?_)
  · refine r_aload_n (pc := 95) C dX9_change_95 rfl 1 rfl ?_
    refine r_ldc (pc := 96) C dX9_change_96 qk_X9_61 ?_
    refine cv_X9_62 (pc := 98) C dX9_change_98  h (by decide) (Nat.le_of_ble_eq_true rfl) (fun q1 h => ?_)
    exact r_iretE (pc := 101) C dX9_change_101 h
  · refine r_aload_n (pc := 70) C dX9_change_70 rfl 1 rfl ?_
    refine r_bipush (v := (29:Int32)) (pc := 71) C dX9_change_71 (by decide) ?_
    refine r_iconst (v := (5:Int32)) (pc := 73) C dX9_change_73 (by decide) ?_
    refine r_iload_n (pc := 74) C dX9_change_74 rfl 2 rfl ?_
    refine r_imul (pc := 75) C dX9_change_75 ?_
    refine r_iadd (pc := 76) C dX9_change_76 ?_
    refine r_iload_n (pc := 77) C dX9_change_77 rfl 3 rfl ?_
    refine r_iconst (v := (3:Int32)) (pc := 78) C dX9_change_78 (by decide) ?_
    refine r_icmp_ne (pc := 79) C 86 dX9_change_79 (by decide) h (fun h => ?_) (fun h => ?_)
    · refine r_iload_n (pc := 86) C dX9_change_86 rfl 3 rfl ?_
      exact r_sub C [4] rfl (b_X9_change_87 C h)
    · refine r_iconst (v := (4:Int32)) (pc := 82) C dX9_change_82 (by decide) ?_
      refine r_goto (pc := 83) C 87 dX9_change_83 (by decide) ?_
      exact r_sub C [4] rfl (b_X9_change_87 C h)
def f_X9_change_62 (x1 : Int32) (x2 : Int32) (x3 : Int32) (w : Wd) : Option (Int32 × Wd) := f_X9_change_63 x1 x2 x3 (0:Int32) w
set_option maxRecDepth 20000 in
theorem b_X9_change_62 {G : Gv} {V : Vt} {res : Int32 × Wd}  (C : CX cX9_change RX9 G SM 5 4 (some FieldType.int) (some (.int res.1)) res.2 V) {x1 : Int32} {x2 : Int32} {x3 : Int32} {w : Wd} (h : f_X9_change_62 x1 x2 x3 w = some res) : V w 62 [(0, .ref (G.2 100)), (1, .int x1), (2, .int x2), (3, .int x3)] [] := by
  unfold f_X9_change_62 at h
  refine r_iconst (v := (0:Int32)) (pc := 62) C dX9_change_62 (by decide) ?_
  exact r_sub C [0, 1, 2, 3] rfl (b_X9_change_63 C h)
def f_X9_change_58 (x1 : Int32) (x2 : Int32) (x3 : Int32) (w : Wd) : Option (Int32 × Wd) := f_X9_change_63 x1 x2 x3 (1:Int32) w
set_option maxRecDepth 20000 in
theorem b_X9_change_58 {G : Gv} {V : Vt} {res : Int32 × Wd}  (C : CX cX9_change RX9 G SM 5 4 (some FieldType.int) (some (.int res.1)) res.2 V) {x1 : Int32} {x2 : Int32} {x3 : Int32} {w : Wd} (h : f_X9_change_58 x1 x2 x3 w = some res) : V w 58 [(0, .ref (G.2 100)), (1, .int x1), (2, .int x2), (3, .int x3)] [] := by
  unfold f_X9_change_58 at h
  refine r_iconst (v := (1:Int32)) (pc := 58) C dX9_change_58 (by decide) ?_
  refine r_goto (pc := 59) C 63 dX9_change_59 (by decide) ?_
  exact r_sub C [0, 1, 2, 3] rfl (b_X9_change_63 C h)
def f_X9_change_17 (x1 : Int32) (x2 : Int32) (x3 : Int32) (w : Wd) : Option (Int32 × Wd) := bd (f_X9_isSet w x3) (fun q1 => (if q1 = 0 then f_X9_change_62 x1 x2 x3 w else f_X9_change_58 x1 x2 x3 w))
set_option maxRecDepth 20000 in
theorem b_X9_change_17 {G : Gv} {V : Vt} {res : Int32 × Wd}  (C : CX cX9_change RX9 G SM 5 4 (some FieldType.int) (some (.int res.1)) res.2 V) {x1 : Int32} {x2 : Int32} {x3 : Int32} {w : Wd} (h : f_X9_change_17 x1 x2 x3 w = some res) : V w 17 [(0, .ref (G.2 100)), (1, .int x1), (2, .int x2), (3, .int x3)] [] := by
  unfold f_X9_change_17 at h
  refine r_aload_n (pc := 17) C dX9_change_17 rfl 0 rfl ?_
  refine r_iload_n (pc := 18) C dX9_change_18 rfl 3 rfl ?_
  refine cv_X9_110 (pc := 19) C dX9_change_19  h (by decide) (Nat.le_of_ble_eq_true rfl) (fun q1 h => ?_)
  refine r_if_eq (pc := 22) C 62 dX9_change_22 (by decide) h (fun h => ?_) (fun h => ?_)
  · exact r_sub C [0, 1, 2, 3] rfl (b_X9_change_62 C h)
  · refine r_goto (pc := 25) C 58 dX9_change_25 (by decide) ?_
    exact r_sub C [0, 1, 2, 3] rfl (b_X9_change_58 C h)
def f_X9_change (p1 : Int32) (p2 : Int32) (p3 : Int32) (w : Wd) : Option (Int32 × Wd) := bd (f_X9_isPlayer w p1) (fun q1 => (if q1 = 0 then f_X9_change_62 p1 p2 p3 w else (if p2 = 0 then f_X9_change_17 p1 p2 p3 w else (if ¬ p2 = (1:Int32) then (if ¬ p2 = (2:Int32) then (if ¬ p2 = (3:Int32) then f_X9_change_62 p1 p2 p3 w else bd (f_X9_in p3 (0:Int32) (1:Int32)) (fun q2 => (if q2 = 0 then f_X9_change_62 p1 p2 p3 w else f_X9_change_58 p1 p2 p3 w))) else bd (f_X9_isOwn w p3) (fun q3 => (if q3 = 0 then f_X9_change_62 p1 p2 p3 w else f_X9_change_58 p1 p2 p3 w))) else f_X9_change_17 p1 p2 p3 w))))
set_option maxRecDepth 20000 in
theorem b_X9_change_E {G : Gv} {V : Vt} {res : Int32 × Wd}  (C : CX cX9_change RX9 G SM 5 4 (some FieldType.int) (some (.int res.1)) res.2 V) {p1 : Int32} {p2 : Int32} {p3 : Int32} {w : Wd} (h : f_X9_change p1 p2 p3 w = some res) : V w 0 [(0, .ref (G.2 100)), (1, .int p1), (2, .int p2), (3, .int p3)] [] := by
  unfold f_X9_change at h
  refine r_aload_n (pc := 0) C dX9_change_0 rfl 0 rfl ?_
  refine r_iload_n (pc := 1) C dX9_change_1 rfl 1 rfl ?_
  refine cv_X9_107 (pc := 2) C dX9_change_2  h (by decide) (Nat.le_of_ble_eq_true rfl) (fun q1 h => ?_)
  refine r_if_eq (pc := 5) C 62 dX9_change_5 (by decide) h (fun h => ?_) (fun h => ?_)
  · exact r_sub C [0, 1, 2, 3] rfl (b_X9_change_62 C h)
  · refine r_iload_n (pc := 8) C dX9_change_8 rfl 2 rfl ?_
    refine r_if_eq (pc := 9) C 17 dX9_change_9 (by decide) h (fun h => ?_) (fun h => ?_)
    · exact r_sub C [0, 1, 2, 3] rfl (b_X9_change_17 C h)
    · refine r_iload_n (pc := 12) C dX9_change_12 rfl 2 rfl ?_
      refine r_iconst (v := (1:Int32)) (pc := 13) C dX9_change_13 (by decide) ?_
      refine r_icmp_ne (pc := 14) C 28 dX9_change_14 (by decide) h (fun h => ?_) (fun h => ?_)
      · refine r_iload_n (pc := 28) C dX9_change_28 rfl 2 rfl ?_
        refine r_iconst (v := (2:Int32)) (pc := 29) C dX9_change_29 (by decide) ?_
        refine r_icmp_ne (pc := 30) C 44 dX9_change_30 (by decide) h (fun h => ?_) (fun h => ?_)
        · refine r_iload_n (pc := 44) C dX9_change_44 rfl 2 rfl ?_
          refine r_iconst (v := (3:Int32)) (pc := 45) C dX9_change_45 (by decide) ?_
          refine r_icmp_ne (pc := 46) C 62 dX9_change_46 (by decide) h (fun h => ?_) (fun h => ?_)
          · exact r_sub C [0, 1, 2, 3] rfl (b_X9_change_62 C h)
          · refine r_iload_n (pc := 49) C dX9_change_49 rfl 3 rfl ?_
            refine r_iconst (v := (0:Int32)) (pc := 50) C dX9_change_50 (by decide) ?_
            refine r_iconst (v := (1:Int32)) (pc := 51) C dX9_change_51 (by decide) ?_
            refine cv_X9_53 (pc := 52) C dX9_change_52  h (by decide) (Nat.le_of_ble_eq_true rfl) (fun q2 h => ?_)
            refine r_if_eq (pc := 55) C 62 dX9_change_55 (by decide) h (fun h => ?_) (fun h => ?_)
            · exact r_sub C [0, 1, 2, 3] rfl (b_X9_change_62 C h)
            · exact r_sub C [0, 1, 2, 3] rfl (b_X9_change_58 C h)
        · refine r_aload_n (pc := 33) C dX9_change_33 rfl 0 rfl ?_
          refine r_iload_n (pc := 34) C dX9_change_34 rfl 3 rfl ?_
          refine cv_X9_101 (pc := 35) C dX9_change_35  h (by decide) (Nat.le_of_ble_eq_true rfl) (fun q3 h => ?_)
          refine r_if_eq (pc := 38) C 62 dX9_change_38 (by decide) h (fun h => ?_) (fun h => ?_)
          · exact r_sub C [0, 1, 2, 3] rfl (b_X9_change_62 C h)
          · refine r_goto (pc := 41) C 58 dX9_change_41 (by decide) ?_
            exact r_sub C [0, 1, 2, 3] rfl (b_X9_change_58 C h)
      · exact r_sub C [0, 1, 2, 3] rfl (b_X9_change_17 C h)
theorem c_X9_change {G : Gv} {p1 : Int32} {p2 : Int32} {p3 : Int32} {w : Wd} {res : Int32 × Wd} (h : f_X9_change p1 p2 p3 w = some res) (l : Launch) : MC l yX9_change cX9_change 5 (some FieldType.int) 4 G SM w [.ref (G.2 100), .int p1, .int p2, .int p3] (some (.int res.1)) res.2 := mc_of (by decide +kernel) rfl (Nat.le_of_ble_eq_true rfl) rfl (fun V C => b_X9_change_E C h) l
def f_X9_gala (p1 : Int32) (w : Wd) : Option (Int32 × Wd) := bd (f_X9_in p1 (0:Int32) (1:Int32)) (fun q1 => (if q1 = 0 then bd (f_X9_errs (-1000000001:Int32) w) (fun q2 => some (q2.1, q2.2)) else bd (f_X9_becomes (1:Int32) p1 w) (fun q3 => some (q3.1, q3.2))))
set_option maxRecDepth 20000 in
theorem b_X9_gala_E {G : Gv} {V : Vt} {res : Int32 × Wd}  (C : CX cX9_gala RX9 G SM 2 2 (some FieldType.int) (some (.int res.1)) res.2 V) {p1 : Int32} {w : Wd} (h : f_X9_gala p1 w = some res) : V w 0 [(0, .ref (G.2 100)), (1, .int p1)] [] := by
  unfold f_X9_gala at h
  refine r_iload_n (pc := 0) C dX9_gala_0 rfl 1 rfl ?_
  refine r_iconst (v := (0:Int32)) (pc := 1) C dX9_gala_1 (by decide) ?_
  refine r_iconst (v := (1:Int32)) (pc := 2) C dX9_gala_2 (by decide) ?_
  refine cv_X9_53 (pc := 3) C dX9_gala_3  h (by decide) (Nat.le_of_ble_eq_true rfl) (fun q1 h => ?_)
  refine r_if_eq (pc := 6) C 18 dX9_gala_6 (by decide) h (fun h => ?_) (fun h => ?_)
  · refine r_aload_n (pc := 18) C dX9_gala_18 rfl 0 rfl ?_
    refine r_ldc (pc := 19) C dX9_gala_19 qk_X9_61 ?_
    refine cv_X9_62 (pc := 21) C dX9_gala_21  h (by decide) (Nat.le_of_ble_eq_true rfl) (fun q2 h => ?_)
    exact r_iretE (pc := 24) C dX9_gala_24 h
  · refine r_aload_n (pc := 9) C dX9_gala_9 rfl 0 rfl ?_
    refine r_iconst (v := (1:Int32)) (pc := 10) C dX9_gala_10 (by decide) ?_
    refine r_iload_n (pc := 11) C dX9_gala_11 rfl 1 rfl ?_
    refine cv_X9_90 (pc := 12) C dX9_gala_12  h (by decide) (Nat.le_of_ble_eq_true rfl) (fun q3 h => ?_)
    refine r_goto (pc := 15) C 24 dX9_gala_15 (by decide) ?_
    exact r_iretE (pc := 24) C dX9_gala_24 h
theorem c_X9_gala {G : Gv} {p1 : Int32} {w : Wd} {res : Int32 × Wd} (h : f_X9_gala p1 w = some res) (l : Launch) : MC l yX9_gala cX9_gala 2 (some FieldType.int) 2 G SM w [.ref (G.2 100), .int p1] (some (.int res.1)) res.2 := mc_of (by decide +kernel) rfl (Nat.le_of_ble_eq_true rfl) rfl (fun V C => b_X9_gala_E C h) l
def f_X9_byteAt (w : Wd) (p1 : Int32) : Option (Int32) := (if (w 100 9) ≤ p1 then some (-1:Int32) else ald w 101 229 (((129:Int32) + ((50:Int32) * (w 100 7))) + p1) (fun v1 => some v1))
set_option maxRecDepth 20000 in
theorem b_X9_byteAt_E {G : Gv} {V : Vt} {w : Wd} {res : Int32}  (C : CX cX9_byteAt RX9 G SM 2 1 (some FieldType.int) (some (.int res)) w V) {p1 : Int32} (h : f_X9_byteAt w p1 = some res) : V w 0 [(0, .ref (G.2 100)), (1, .int p1)] [] := by
  unfold f_X9_byteAt at h
  refine r_iload_n (pc := 0) C dX9_byteAt_0 rfl 1 rfl ?_
  refine r_aload_n (pc := 1) C dX9_byteAt_1 rfl 0 rfl ?_
  refine gi_X9_113 (pc := 2) C dX9_byteAt_2 kx_100 rfl ?_
  refine r_icmp_ge (pc := 5) C 29 dX9_byteAt_5 (by decide) h (fun h => ?_) (fun h => ?_)
  · refine r_iconst (v := (-1:Int32)) (pc := 29) C dX9_byteAt_29 (by decide) ?_
    exact r_iretP (pc := 30) C dX9_byteAt_30 h
  · refine r_aload_n (pc := 8) C dX9_byteAt_8 rfl 0 rfl ?_
    refine gr_X9_7 (pc := 9) 101 C dX9_byteAt_9 kx_100 rfl ?_
    refine r_sipush (v := (129:Int32)) (pc := 12) C dX9_byteAt_12 (by decide) ?_
    refine r_bipush (v := (50:Int32)) (pc := 15) C dX9_byteAt_15 (by decide) ?_
    refine r_aload_n (pc := 17) C dX9_byteAt_17 rfl 0 rfl ?_
    refine gi_X9_117 (pc := 18) C dX9_byteAt_18 kx_100 rfl ?_
    refine r_imul (pc := 21) C dX9_byteAt_21 ?_
    refine r_iadd (pc := 22) C dX9_byteAt_22 ?_
    refine r_iload_n (pc := 23) C dX9_byteAt_23 rfl 1 rfl ?_
    refine r_iadd (pc := 24) C dX9_byteAt_24 ?_
    refine r_ald (pc := 25) C dX9_byteAt_25 h kx_101 (fun v1 h => ?_)
    refine r_goto (pc := 26) C 30 dX9_byteAt_26 (by decide) ?_
    exact r_iretP (pc := 30) C dX9_byteAt_30 h
theorem c_X9_byteAt {G : Gv} {p1 : Int32} {w : Wd} {res : Int32} (h : f_X9_byteAt w p1 = some res) (l : Launch) : MC l yX9_byteAt cX9_byteAt 2 (some FieldType.int) 1 G SM w [.ref (G.2 100), .int p1] (some (.int res)) w := mc_of (by decide +kernel) rfl (Nat.le_of_ble_eq_true rfl) rfl (fun V C => b_X9_byteAt_E C h) l
def f_X9_isDigit (p0 : Int32) : Option (Int32) := bd (f_X9_in p0 (48:Int32) (57:Int32)) (fun q1 => zk q1 (some q1))
set_option maxRecDepth 20000 in
theorem b_X9_isDigit_E {G : Gv} {V : Vt} {w : Wd} {res : Int32}  (C : CX cX9_isDigit RX9 G SM 1 2 (some FieldType.boolean) (some (.int res)) w V) {p0 : Int32} (h : f_X9_isDigit p0 = some res) : V w 0 [(0, .int p0)] [] := by
  unfold f_X9_isDigit at h
  refine r_iload_n (pc := 0) C dX9_isDigit_0 rfl 0 rfl ?_
  refine r_bipush (v := (48:Int32)) (pc := 1) C dX9_isDigit_1 (by decide) ?_
  refine r_bipush (v := (57:Int32)) (pc := 3) C dX9_isDigit_3 (by decide) ?_
  refine cv_X9_53 (pc := 5) C dX9_isDigit_5  h (by decide) (Nat.le_of_ble_eq_true rfl) (fun q1 h => ?_)
  refine r_zk h (fun hn h => ?_)
  exact r_zretP (pc := 8) C hn dX9_isDigit_8 h
theorem c_X9_isDigit {G : Gv} {p0 : Int32} {w : Wd} {res : Int32} (h : f_X9_isDigit p0 = some res) (l : Launch) : MC l yX9_isDigit cX9_isDigit 1 (some FieldType.boolean) 2 G SM w [.int p0] (some (.int res)) w := mc_of (by decide +kernel) rfl (Nat.le_of_ble_eq_true rfl) rfl (fun V C => b_X9_isDigit_E C h) l
def f_X9_fails (w : Wd) : Option (Int32 × Wd) := wl (updW w 100 14 (0:Int32)) (fun w1 => some ((0:Int32), w1))
set_option maxRecDepth 20000 in
theorem b_X9_fails_E {G : Gv} {V : Vt} {res : Int32 × Wd}  (C : CX cX9_fails RX9 G SM 1 1 (some FieldType.int) (some (.int res.1)) res.2 V) {w : Wd} (h : f_X9_fails w = some res) : V w 0 [(0, .ref (G.2 100))] [] := by
  unfold f_X9_fails at h
  refine r_aload_n (pc := 0) C dX9_fails_0 rfl 0 rfl ?_
  refine r_iconst (v := (0:Int32)) (pc := 1) C dX9_fails_1 (by decide) ?_
  refine pi_X9_120 (pc := 2) C dX9_fails_2 kx_100 rfl rfl rfl h (fun w1 h => ?_)
  refine r_iconst (v := (0:Int32)) (pc := 5) C dX9_fails_5 (by decide) ?_
  exact r_iretE (pc := 6) C dX9_fails_6 h
theorem c_X9_fails {G : Gv} {w : Wd} {res : Int32 × Wd} (h : f_X9_fails w = some res) (l : Launch) : MC l yX9_fails cX9_fails 1 (some FieldType.int) 1 G SM w [.ref (G.2 100)] (some (.int res.1)) res.2 := mc_of (by decide +kernel) rfl (Nat.le_of_ble_eq_true rfl) rfl (fun V C => b_X9_fails_E C h) l
theorem cv_X9_127 {cc : ByteArray} {G : Gv} {n hc : Nat} {rt : Option FieldType} {rv : Option Value} {w0 : Wd} {V : Vt} {w : Wd} {pc : Nat} {L : List (Nat × Value)} {rest : List Value} {α : Type} {res : α} {p1 : Int32} {K : Int32 → Option α} (C : CX cc RX9 G SM n hc rt rv w0 V) (hd : decode cc pc = .ok (.invokevirtual 127, 3)) (h : bd (f_X9_byteAt w p1) K = some res) (hR : 1 + 1 ≤ hc) (hr : (rest.map fun v => v.category).sum ≤ 8) (kk : ∀ q, K q = some res → V w (pc + 3) L (.int q :: rest)) : V w pc L (.int p1 :: .ref (G.2 100) :: rest) := r_callV (As := [.int p1]) (rest := rest) (rvf := fun q => (some (.int q))) (wf := fun q => w) C hd h ql_X9_127 qi_X9_byteAt qs_X9_byteAt qn_X9 qc_X9_byteAt ⟨rfl, by decide +kernel, by decide +kernel, (by decide +kernel : (parseMethodDescriptor yX9_byteAt.desc).map (fun d => d.parameters.length) = some 1)⟩ ⟨hR, by decide⟩ kx_100 rfl (fun q hq l => c_X9_byteAt hq l) rfl hr kk
theorem cv_X9_130 {cc : ByteArray} {G : Gv} {n hc : Nat} {rt : Option FieldType} {rv : Option Value} {w0 : Wd} {V : Vt} {w : Wd} {pc : Nat} {L : List (Nat × Value)} {rest : List Value} {α : Type} {res : α} {p0 : Int32} {K : Int32 → Option α} (C : CX cc RX9 G SM n hc rt rv w0 V) (hd : decode cc pc = .ok (.invokestatic 130, 3)) (h : bd (f_X9_isDigit p0) K = some res) (hR : 2 + 1 ≤ hc) (hr : (rest.map fun v => v.category).sum ≤ 8) (kk : ∀ q, K q = some res → V w (pc + 3) L (.int q :: rest)) : V w pc L (.int p0 :: rest) := r_callS (As := [.int p0]) (rest := rest) (rvf := fun q => (some (.int q))) (wf := fun q => w) C hd h ql_X9_130 qt_X9_isDigit qn_X9 qc_X9_isDigit ⟨by decide +kernel, by decide +kernel, (by decide +kernel : (parseMethodDescriptor yX9_isDigit.desc).map (fun d => d.parameters.length) = some 1)⟩ ⟨hR, by decide⟩ (fun q hq l => c_X9_isDigit hq l) rfl hr kk
def fb_X9_number_4 (rec4 : Int32 → Int32 → Wd → Option (Int32 × Wd)) (x1 : Int32) (x2 : Int32) (w : Wd) : Option (Int32 × Wd) := (if (4:Int32) ≤ x2 then some (x1, w) else bd (f_X9_byteAt w (w 100 8)) (fun q1 => bd (f_X9_isDigit q1) (fun q2 => (if q2 = 0 then some (x1, w) else bd (f_X9_byteAt w (w 100 8)) (fun q3 => lv ((((10:Int32) * x1) + q3) - (48:Int32)) (fun v4 => wl (updW w 100 8 ((w 100 8) + (1:Int32))) (fun w5 => rec4 v4 (x2 + (1:Int32)) w5)))))))
set_option maxRecDepth 20000 in
theorem bb_X9_number_4 {G : Gv} {V : Vt} {rec4 : Int32 → Int32 → Wd → Option (Int32 × Wd)} {res : Int32 × Wd}  (C : CX cX9_number RX9 G SM 3 3 (some FieldType.int) (some (.int res.1)) res.2 V) (hrec4 : ∀ (x1 : Int32) (x2 : Int32) (w : Wd), rec4 x1 x2 w = some res → V w 4 [(0, .ref (G.2 100)), (1, .int x1), (2, .int x2)] []) {x1 : Int32} {x2 : Int32} {w : Wd} (h : fb_X9_number_4 rec4 x1 x2 w = some res) : V w 4 [(0, .ref (G.2 100)), (1, .int x1), (2, .int x2)] [] := by
  unfold fb_X9_number_4 at h
  refine r_iload_n (pc := 4) C dX9_number_4 rfl 2 rfl ?_
  refine r_iconst (v := (4:Int32)) (pc := 5) C dX9_number_5 (by decide) ?_
  refine r_icmp_ge (pc := 6) C 56 dX9_number_6 (by decide) h (fun h => ?_) (fun h => ?_)
  · refine r_iload_n (pc := 56) C dX9_number_56 rfl 1 rfl ?_
    exact r_iretE (pc := 57) C dX9_number_57 h
  · refine r_aload_n (pc := 9) C dX9_number_9 rfl 0 rfl ?_
    refine r_aload_n (pc := 10) C dX9_number_10 rfl 0 rfl ?_
    refine gi_X9_124 (pc := 11) C dX9_number_11 kx_100 rfl ?_
    refine cv_X9_127 (pc := 14) C dX9_number_14  h (by decide) (Nat.le_of_ble_eq_true rfl) (fun q1 h => ?_)
    refine cv_X9_130 (pc := 17) C dX9_number_17  h (by decide) (Nat.le_of_ble_eq_true rfl) (fun q2 h => ?_)
    refine r_if_eq (pc := 20) C 56 dX9_number_20 (by decide) h (fun h => ?_) (fun h => ?_)
    · refine r_iload_n (pc := 56) C dX9_number_56 rfl 1 rfl ?_
      exact r_iretE (pc := 57) C dX9_number_57 h
    · refine r_bipush (v := (10:Int32)) (pc := 23) C dX9_number_23 (by decide) ?_
      refine r_iload_n (pc := 25) C dX9_number_25 rfl 1 rfl ?_
      refine r_imul (pc := 26) C dX9_number_26 ?_
      refine r_aload_n (pc := 27) C dX9_number_27 rfl 0 rfl ?_
      refine r_aload_n (pc := 28) C dX9_number_28 rfl 0 rfl ?_
      refine gi_X9_124 (pc := 29) C dX9_number_29 kx_100 rfl ?_
      refine cv_X9_127 (pc := 32) C dX9_number_32  h (by decide) (Nat.le_of_ble_eq_true rfl) (fun q3 h => ?_)
      refine r_iadd (pc := 35) C dX9_number_35 ?_
      refine r_bipush (v := (48:Int32)) (pc := 36) C dX9_number_36 (by decide) ?_
      refine r_isub (pc := 38) C dX9_number_38 ?_
      refine r_lv h (fun v4 h => ?_)
      refine r_istore_n (L' := [(1, .int v4), (0, .ref (G.2 100)), (2, .int x2)]) (pc := 39) C dX9_number_39 rfl (by decide) rfl ?_
      refine r_aload_n (pc := 40) C dX9_number_40 rfl 1 rfl ?_
      refine r_dup (pc := 41) C dX9_number_41 rfl ?_
      refine gi_X9_124 (pc := 42) C dX9_number_42 kx_100 rfl ?_
      refine r_iconst (v := (1:Int32)) (pc := 45) C dX9_number_45 (by decide) ?_
      refine r_iadd (pc := 46) C dX9_number_46 ?_
      refine pi_X9_124 (pc := 47) C dX9_number_47 kx_100 rfl h (fun w5 h => ?_)
      refine r_iinc (v := (x2 + (1:Int32))) (L' := [(2, .int (x2 + (1:Int32))), (1, .int v4), (0, .ref (G.2 100))]) (pc := 50) C dX9_number_50 2 rfl rfl (by decide) rfl ?_
      refine r_goto (pc := 53) C 4 dX9_number_53 (by decide) ?_
      exact r_sub C [2, 1, 0] rfl (hrec4 _ _ _ h)
def f_X9_number_4 : Int32 → Int32 → Wd → Option (Int32 × Wd) := lp (fun _ _ _ => none) (fun rec => fb_X9_number_4 rec) FU
theorem b_X9_number_4 {G : Gv} {V : Vt} {res : Int32 × Wd}  (C : CX cX9_number RX9 G SM 3 3 (some FieldType.int) (some (.int res.1)) res.2 V) : ∀ (x1 : Int32) (x2 : Int32) (w : Wd), (f_X9_number_4) x1 x2 w = some res → V w 4 [(0, .ref (G.2 100)), (1, .int x1), (2, .int x2)] [] :=
  lp_ind (P := fun (g : Int32 → Int32 → Wd → Option (Int32 × Wd)) => ∀ (x1 : Int32) (x2 : Int32) (w : Wd), g x1 x2 w = some res → V w 4 [(0, .ref (G.2 100)), (1, .int x1), (2, .int x2)] []) (fun _ _ _ h => by cases h) (fun g hg _ _ _ h => bb_X9_number_4 C hg h) FU
def f_X9_number (w : Wd) : Option (Int32 × Wd) := f_X9_number_4 (0:Int32) (0:Int32) w
set_option maxRecDepth 20000 in
theorem b_X9_number_E {G : Gv} {V : Vt} {res : Int32 × Wd}  (C : CX cX9_number RX9 G SM 3 3 (some FieldType.int) (some (.int res.1)) res.2 V) {w : Wd} (h : f_X9_number w = some res) : V w 0 [(0, .ref (G.2 100))] [] := by
  unfold f_X9_number at h
  refine r_iconst (v := (0:Int32)) (pc := 0) C dX9_number_0 (by decide) ?_
  refine r_istore_n (L' := [(1, .int (0:Int32)), (0, .ref (G.2 100))]) (pc := 1) C dX9_number_1 rfl (by decide) rfl ?_
  refine r_iconst (v := (0:Int32)) (pc := 2) C dX9_number_2 (by decide) ?_
  refine r_istore_n (L' := [(2, .int (0:Int32)), (1, .int (0:Int32)), (0, .ref (G.2 100))]) (pc := 3) C dX9_number_3 rfl (by decide) rfl ?_
  exact r_sub C [2, 1, 0] rfl (b_X9_number_4 C _ _ _ h)
theorem c_X9_number {G : Gv} {w : Wd} {res : Int32 × Wd} (h : f_X9_number w = some res) (l : Launch) : MC l yX9_number cX9_number 3 (some FieldType.int) 3 G SM w [.ref (G.2 100)] (some (.int res.1)) res.2 := mc_of (by decide +kernel) rfl (Nat.le_of_ble_eq_true rfl) rfl (fun V C => b_X9_number_E C h) l
theorem cv_X9_133 {cc : ByteArray} {G : Gv} {n hc : Nat} {rt : Option FieldType} {rv : Option Value} {w0 : Wd} {V : Vt} {w : Wd} {pc : Nat} {L : List (Nat × Value)} {rest : List Value} {α : Type} {res : α} {K : Int32 × Wd → Option α} (C : CX cc RX9 G SM n hc rt rv w0 V) (hd : decode cc pc = .ok (.invokevirtual 133, 3)) (h : bd (f_X9_fails w) K = some res) (hR : 1 + 1 ≤ hc) (hr : (rest.map fun v => v.category).sum ≤ 8) (kk : ∀ q, K q = some res → V q.2 (pc + 3) L (.int q.1 :: rest)) : V w pc L (.ref (G.2 100) :: rest) := r_callV (As := []) (rest := rest) (rvf := fun q => (some (.int q.1))) (wf := fun q => q.2) C hd h ql_X9_133 qi_X9_fails qs_X9_fails qn_X9 qc_X9_fails ⟨rfl, by decide +kernel, by decide +kernel, (by decide +kernel : (parseMethodDescriptor yX9_fails.desc).map (fun d => d.parameters.length) = some 0)⟩ ⟨hR, by decide⟩ kx_100 rfl (fun q hq l => c_X9_fails hq l) rfl hr kk
def f_X9_named_79 (x2 : Int32) (x3 : Int32) (w : Wd) : Option (Int32 × Wd) := wl (updW w 100 8 ((w 100 8) + (1:Int32))) (fun w1 => (if x2 = 0 then (if x3 = 0 then some ((w1 100 13), w1) else some ((w1 100 12), w1)) else some ((w1 100 11), w1)))
set_option maxRecDepth 20000 in
theorem b_X9_named_79 {G : Gv} {V : Vt} {res : Int32 × Wd}  (C : CX cX9_named RX9 G SM 5 2 (some FieldType.int) (some (.int res.1)) res.2 V) {x2 : Int32} {x3 : Int32} {w : Wd} (h : f_X9_named_79 x2 x3 w = some res) : V w 79 [(0, .ref (G.2 100)), (2, .int x2), (3, .int x3)] [] := by
  unfold f_X9_named_79 at h
  refine r_aload_n (pc := 79) C dX9_named_79 rfl 0 rfl ?_
  refine r_dup (pc := 80) C dX9_named_80 rfl ?_
  refine gi_X9_124 (pc := 81) C dX9_named_81 kx_100 rfl ?_
  refine r_iconst (v := (1:Int32)) (pc := 84) C dX9_named_84 (by decide) ?_
  refine r_iadd (pc := 85) C dX9_named_85 ?_
  refine pi_X9_124 (pc := 86) C dX9_named_86 kx_100 rfl h (fun w1 h => ?_)
  refine r_iload_n (pc := 89) C dX9_named_89 rfl 1 rfl ?_
  refine r_if_eq (pc := 90) C 100 dX9_named_90 (by decide) h (fun h => ?_) (fun h => ?_)
  · refine r_iload_n (pc := 100) C dX9_named_100 rfl 2 rfl ?_
    refine r_if_eq (pc := 101) C 111 dX9_named_101 (by decide) h (fun h => ?_) (fun h => ?_)
    · refine r_aload_n (pc := 111) C dX9_named_111 rfl 0 rfl ?_
      refine gi_X9_143 (pc := 112) C dX9_named_112 kx_100 rfl ?_
      exact r_iretE (pc := 115) C dX9_named_115 h
    · refine r_aload_n (pc := 104) C dX9_named_104 rfl 0 rfl ?_
      refine gi_X9_140 (pc := 105) C dX9_named_105 kx_100 rfl ?_
      refine r_goto (pc := 108) C 115 dX9_named_108 (by decide) ?_
      exact r_iretE (pc := 115) C dX9_named_115 h
  · refine r_aload_n (pc := 93) C dX9_named_93 rfl 0 rfl ?_
    refine gi_X9_137 (pc := 94) C dX9_named_94 kx_100 rfl ?_
    refine r_goto (pc := 97) C 115 dX9_named_97 (by decide) ?_
    exact r_iretE (pc := 115) C dX9_named_115 h
def f_X9_named_59 (x2 : Int32) (x3 : Int32) (t0 : Int32) (w : Wd) : Option (Int32 × Wd) := (if ¬ x2 = 0 then f_X9_named_79 x2 x3 w else (if ¬ x3 = 0 then f_X9_named_79 x2 x3 w else (if ¬ t0 = 0 then f_X9_named_79 x2 x3 w else bd (f_X9_fails w) (fun q1 => some (q1.1, q1.2)))))
set_option maxRecDepth 20000 in
theorem b_X9_named_59 {G : Gv} {V : Vt} {res : Int32 × Wd}  (C : CX cX9_named RX9 G SM 5 2 (some FieldType.int) (some (.int res.1)) res.2 V) {x2 : Int32} {x3 : Int32} {t0 : Int32} {w : Wd} (h : f_X9_named_59 x2 x3 t0 w = some res) : V w 59 [(0, .ref (G.2 100)), (2, .int x2), (3, .int x3)] [.int t0] := by
  unfold f_X9_named_59 at h
  refine r_istore (L' := [(4, .int t0), (0, .ref (G.2 100)), (2, .int x2), (3, .int x3)]) (pc := 59) C dX9_named_59 (by decide) rfl ?_
  refine r_iload_n (pc := 61) C dX9_named_61 rfl 2 rfl ?_
  refine r_if_ne (pc := 62) C 79 dX9_named_62 (by decide) h (fun h => ?_) (fun h => ?_)
  · exact r_sub C [1, 2, 3] rfl (b_X9_named_79 C h)
  · refine r_iload_n (pc := 65) C dX9_named_65 rfl 3 rfl ?_
    refine r_if_ne (pc := 66) C 79 dX9_named_66 (by decide) h (fun h => ?_) (fun h => ?_)
    · exact r_sub C [1, 2, 3] rfl (b_X9_named_79 C h)
    · refine r_iload (pc := 69) C dX9_named_69 0 rfl ?_
      refine r_if_ne (pc := 71) C 79 dX9_named_71 (by decide) h (fun h => ?_) (fun h => ?_)
      · exact r_sub C [1, 2, 3] rfl (b_X9_named_79 C h)
      · refine r_aload_n (pc := 74) C dX9_named_74 rfl 1 rfl ?_
        refine cv_X9_133 (pc := 75) C dX9_named_75  h (by decide) (Nat.le_of_ble_eq_true rfl) (fun q1 h => ?_)
        exact r_iretE (pc := 78) C dX9_named_78 h
def f_X9_named_51 (x2 : Int32) (x3 : Int32) (t0 : Int32) (t1 : Int32) (w : Wd) : Option (Int32 × Wd) := (if ¬ t1 = t0 then f_X9_named_59 x2 x3 (0:Int32) w else f_X9_named_59 x2 x3 (1:Int32) w)
set_option maxRecDepth 20000 in
theorem b_X9_named_51 {G : Gv} {V : Vt} {res : Int32 × Wd}  (C : CX cX9_named RX9 G SM 5 2 (some FieldType.int) (some (.int res.1)) res.2 V) {x2 : Int32} {x3 : Int32} {t0 : Int32} {t1 : Int32} {w : Wd} (h : f_X9_named_51 x2 x3 t0 t1 w = some res) : V w 51 [(0, .ref (G.2 100)), (2, .int x2), (3, .int x3)] [.int t0, .int t1] := by
  unfold f_X9_named_51 at h
  refine r_icmp_ne (pc := 51) C 58 dX9_named_51 (by decide) h (fun h => ?_) (fun h => ?_)
  · refine r_iconst (v := (0:Int32)) (pc := 58) C dX9_named_58 (by decide) ?_
    exact r_sub C [0, 1, 2] rfl (b_X9_named_59 C h)
  · refine r_iconst (v := (1:Int32)) (pc := 54) C dX9_named_54 (by decide) ?_
    refine r_goto (pc := 55) C 59 dX9_named_55 (by decide) ?_
    exact r_sub C [0, 1, 2] rfl (b_X9_named_59 C h)
def f_X9_named_35 (x1 : Int32) (x2 : Int32) (t0 : Int32) (w : Wd) : Option (Int32 × Wd) := (if ¬ (w 100 7) = 0 then f_X9_named_51 x2 t0 (110:Int32) x1 w else f_X9_named_51 x2 t0 (107:Int32) x1 w)
set_option maxRecDepth 20000 in
theorem b_X9_named_35 {G : Gv} {V : Vt} {res : Int32 × Wd}  (C : CX cX9_named RX9 G SM 5 2 (some FieldType.int) (some (.int res.1)) res.2 V) {x1 : Int32} {x2 : Int32} {t0 : Int32} {w : Wd} (h : f_X9_named_35 x1 x2 t0 w = some res) : V w 35 [(0, .ref (G.2 100)), (1, .int x1), (2, .int x2)] [.int t0] := by
  unfold f_X9_named_35 at h
  refine r_istore_n (L' := [(3, .int t0), (0, .ref (G.2 100)), (1, .int x1), (2, .int x2)]) (pc := 35) C dX9_named_35 rfl (by decide) rfl ?_
  refine r_iload_n (pc := 36) C dX9_named_36 rfl 2 rfl ?_
  refine r_aload_n (pc := 37) C dX9_named_37 rfl 1 rfl ?_
  refine gi_X9_117 (pc := 38) C dX9_named_38 kx_100 rfl ?_
  refine r_if_ne (pc := 41) C 49 dX9_named_41 (by decide) h (fun h => ?_) (fun h => ?_)
  · refine r_bipush (v := (110:Int32)) (pc := 49) C dX9_named_49 (by decide) ?_
    exact r_sub C [1, 3, 0] rfl (b_X9_named_51 C h)
  · refine r_bipush (v := (107:Int32)) (pc := 44) C dX9_named_44 (by decide) ?_
    refine r_goto (pc := 46) C 51 dX9_named_46 (by decide) ?_
    exact r_sub C [1, 3, 0] rfl (b_X9_named_51 C h)
def f_X9_named_27 (x1 : Int32) (x2 : Int32) (t0 : Int32) (t1 : Int32) (w : Wd) : Option (Int32 × Wd) := (if ¬ t1 = t0 then f_X9_named_35 x1 x2 (0:Int32) w else f_X9_named_35 x1 x2 (1:Int32) w)
set_option maxRecDepth 20000 in
theorem b_X9_named_27 {G : Gv} {V : Vt} {res : Int32 × Wd}  (C : CX cX9_named RX9 G SM 5 2 (some FieldType.int) (some (.int res.1)) res.2 V) {x1 : Int32} {x2 : Int32} {t0 : Int32} {t1 : Int32} {w : Wd} (h : f_X9_named_27 x1 x2 t0 t1 w = some res) : V w 27 [(0, .ref (G.2 100)), (1, .int x1), (2, .int x2)] [.int t0, .int t1] := by
  unfold f_X9_named_27 at h
  refine r_icmp_ne (pc := 27) C 34 dX9_named_27 (by decide) h (fun h => ?_) (fun h => ?_)
  · refine r_iconst (v := (0:Int32)) (pc := 34) C dX9_named_34 (by decide) ?_
    exact r_sub C [0, 1, 2] rfl (b_X9_named_35 C h)
  · refine r_iconst (v := (1:Int32)) (pc := 30) C dX9_named_30 (by decide) ?_
    refine r_goto (pc := 31) C 35 dX9_named_31 (by decide) ?_
    exact r_sub C [0, 1, 2] rfl (b_X9_named_35 C h)
def f_X9_named_11 (x1 : Int32) (t0 : Int32) (w : Wd) : Option (Int32 × Wd) := (if ¬ (w 100 7) = 0 then f_X9_named_27 x1 t0 (112:Int32) x1 w else f_X9_named_27 x1 t0 (109:Int32) x1 w)
set_option maxRecDepth 20000 in
theorem b_X9_named_11 {G : Gv} {V : Vt} {res : Int32 × Wd}  (C : CX cX9_named RX9 G SM 5 2 (some FieldType.int) (some (.int res.1)) res.2 V) {x1 : Int32} {t0 : Int32} {w : Wd} (h : f_X9_named_11 x1 t0 w = some res) : V w 11 [(0, .ref (G.2 100)), (1, .int x1)] [.int t0] := by
  unfold f_X9_named_11 at h
  refine r_istore_n (L' := [(2, .int t0), (0, .ref (G.2 100)), (1, .int x1)]) (pc := 11) C dX9_named_11 rfl (by decide) rfl ?_
  refine r_iload_n (pc := 12) C dX9_named_12 rfl 2 rfl ?_
  refine r_aload_n (pc := 13) C dX9_named_13 rfl 1 rfl ?_
  refine gi_X9_117 (pc := 14) C dX9_named_14 kx_100 rfl ?_
  refine r_if_ne (pc := 17) C 25 dX9_named_17 (by decide) h (fun h => ?_) (fun h => ?_)
  · refine r_bipush (v := (112:Int32)) (pc := 25) C dX9_named_25 (by decide) ?_
    exact r_sub C [1, 2, 0] rfl (b_X9_named_27 C h)
  · refine r_bipush (v := (109:Int32)) (pc := 20) C dX9_named_20 (by decide) ?_
    refine r_goto (pc := 22) C 27 dX9_named_22 (by decide) ?_
    exact r_sub C [1, 2, 0] rfl (b_X9_named_27 C h)
def f_X9_named (p1 : Int32) (w : Wd) : Option (Int32 × Wd) := (if ¬ p1 = (108:Int32) then f_X9_named_11 p1 (0:Int32) w else f_X9_named_11 p1 (1:Int32) w)
set_option maxRecDepth 20000 in
theorem b_X9_named_E {G : Gv} {V : Vt} {res : Int32 × Wd}  (C : CX cX9_named RX9 G SM 5 2 (some FieldType.int) (some (.int res.1)) res.2 V) {p1 : Int32} {w : Wd} (h : f_X9_named p1 w = some res) : V w 0 [(0, .ref (G.2 100)), (1, .int p1)] [] := by
  unfold f_X9_named at h
  refine r_iload_n (pc := 0) C dX9_named_0 rfl 1 rfl ?_
  refine r_bipush (v := (108:Int32)) (pc := 1) C dX9_named_1 (by decide) ?_
  refine r_icmp_ne (pc := 3) C 10 dX9_named_3 (by decide) h (fun h => ?_) (fun h => ?_)
  · refine r_iconst (v := (0:Int32)) (pc := 10) C dX9_named_10 (by decide) ?_
    exact r_sub C [0, 1] rfl (b_X9_named_11 C h)
  · refine r_iconst (v := (1:Int32)) (pc := 6) C dX9_named_6 (by decide) ?_
    refine r_goto (pc := 7) C 11 dX9_named_7 (by decide) ?_
    exact r_sub C [0, 1] rfl (b_X9_named_11 C h)
theorem c_X9_named {G : Gv} {p1 : Int32} {w : Wd} {res : Int32 × Wd} (h : f_X9_named p1 w = some res) (l : Launch) : MC l yX9_named cX9_named 5 (some FieldType.int) 2 G SM w [.ref (G.2 100), .int p1] (some (.int res.1)) res.2 := mc_of (by decide +kernel) rfl (Nat.le_of_ble_eq_true rfl) rfl (fun V C => b_X9_named_E C h) l
theorem cv_X9_146 {cc : ByteArray} {G : Gv} {n hc : Nat} {rt : Option FieldType} {rv : Option Value} {w0 : Wd} {V : Vt} {w : Wd} {pc : Nat} {L : List (Nat × Value)} {rest : List Value} {α : Type} {res : α} {K : Int32 × Wd → Option α} (C : CX cc RX9 G SM n hc rt rv w0 V) (hd : decode cc pc = .ok (.invokevirtual 146, 3)) (h : bd (f_X9_number w) K = some res) (hR : 3 + 1 ≤ hc) (hr : (rest.map fun v => v.category).sum ≤ 8) (kk : ∀ q, K q = some res → V q.2 (pc + 3) L (.int q.1 :: rest)) : V w pc L (.ref (G.2 100) :: rest) := r_callV (As := []) (rest := rest) (rvf := fun q => (some (.int q.1))) (wf := fun q => q.2) C hd h ql_X9_146 qi_X9_number qs_X9_number qn_X9 qc_X9_number ⟨rfl, by decide +kernel, by decide +kernel, (by decide +kernel : (parseMethodDescriptor yX9_number.desc).map (fun d => d.parameters.length) = some 0)⟩ ⟨hR, by decide⟩ kx_100 rfl (fun q hq l => c_X9_number hq l) rfl hr kk
theorem cv_X9_149 {cc : ByteArray} {G : Gv} {n hc : Nat} {rt : Option FieldType} {rv : Option Value} {w0 : Wd} {V : Vt} {w : Wd} {pc : Nat} {L : List (Nat × Value)} {rest : List Value} {α : Type} {res : α} {p1 : Int32} {K : Int32 × Wd → Option α} (C : CX cc RX9 G SM n hc rt rv w0 V) (hd : decode cc pc = .ok (.invokevirtual 149, 3)) (h : bd (f_X9_named p1 w) K = some res) (hR : 2 + 1 ≤ hc) (hr : (rest.map fun v => v.category).sum ≤ 8) (kk : ∀ q, K q = some res → V q.2 (pc + 3) L (.int q.1 :: rest)) : V w pc L (.int p1 :: .ref (G.2 100) :: rest) := r_callV (As := [.int p1]) (rest := rest) (rvf := fun q => (some (.int q.1))) (wf := fun q => q.2) C hd h ql_X9_149 qi_X9_named qs_X9_named qn_X9 qc_X9_named ⟨rfl, by decide +kernel, by decide +kernel, (by decide +kernel : (parseMethodDescriptor yX9_named.desc).map (fun d => d.parameters.length) = some 1)⟩ ⟨hR, by decide⟩ kx_100 rfl (fun q hq l => c_X9_named hq l) rfl hr kk
def f_X9_factor_148 (g_factor : Wd → Option (Int32 × Wd)) (g_product : Wd → Option (Int32 × Wd)) (g_sum : Wd → Option (Int32 × Wd)) (g_compared : Wd → Option (Int32 × Wd)) (g_both : Wd → Option (Int32 × Wd)) (g_whole : Wd → Option (Int32 × Wd)) (w : Wd) : Option (Int32 × Wd) := bd (f_X9_fails w) (fun q1 => some (q1.1, q1.2))
set_option maxRecDepth 20000 in
theorem b_X9_factor_148 {G : Gv} {V : Vt} {d : Nat} {g_factor : Wd → Option (Int32 × Wd)} {g_product : Wd → Option (Int32 × Wd)} {g_sum : Wd → Option (Int32 × Wd)} {g_compared : Wd → Option (Int32 × Wd)} {g_both : Wd → Option (Int32 × Wd)} {g_whole : Wd → Option (Int32 × Wd)} {res : Int32 × Wd} (hg_factor : ∀ (w : Wd) (r : Int32 × Wd), g_factor w = some r → ∀ l : Launch, MC l yX9_factor cX9_factor 3 (some FieldType.int) (4 + d) G SM w [.ref (G.2 100)] (some (.int r.1)) r.2) (hg_product : ∀ (w : Wd) (r : Int32 × Wd), g_product w = some r → ∀ l : Launch, MC l yX9_product cX9_product 4 (some FieldType.int) (4 + d) G SM w [.ref (G.2 100)] (some (.int r.1)) r.2) (hg_sum : ∀ (w : Wd) (r : Int32 × Wd), g_sum w = some r → ∀ l : Launch, MC l yX9_sum cX9_sum 4 (some FieldType.int) (4 + d) G SM w [.ref (G.2 100)] (some (.int r.1)) r.2) (hg_compared : ∀ (w : Wd) (r : Int32 × Wd), g_compared w = some r → ∀ l : Launch, MC l yX9_compared cX9_compared 5 (some FieldType.int) (4 + d) G SM w [.ref (G.2 100)] (some (.int r.1)) r.2) (hg_both : ∀ (w : Wd) (r : Int32 × Wd), g_both w = some r → ∀ l : Launch, MC l yX9_both cX9_both 3 (some FieldType.int) (4 + d) G SM w [.ref (G.2 100)] (some (.int r.1)) r.2) (hg_whole : ∀ (w : Wd) (r : Int32 × Wd), g_whole w = some r → ∀ l : Launch, MC l yX9_whole cX9_whole 3 (some FieldType.int) (4 + d) G SM w [.ref (G.2 100)] (some (.int r.1)) r.2) (C : CX cX9_factor RX9 G SM 3 (4 + d + 1) (some FieldType.int) (some (.int res.1)) res.2 V) {w : Wd} (h : f_X9_factor_148 g_factor g_product g_sum g_compared g_both g_whole w = some res) : V w 148 [(0, .ref (G.2 100))] [] := by
  unfold f_X9_factor_148 at h
  refine r_aload_n (pc := 148) C dX9_factor_148 rfl 0 rfl ?_
  refine cv_X9_133 (pc := 149) C dX9_factor_149  h (by omega) (Nat.le_of_ble_eq_true rfl) (fun q1 h => ?_)
  exact r_iretE (pc := 152) C dX9_factor_152 h
def f_X9_factor_89 (g_factor : Wd → Option (Int32 × Wd)) (g_product : Wd → Option (Int32 × Wd)) (g_sum : Wd → Option (Int32 × Wd)) (g_compared : Wd → Option (Int32 × Wd)) (g_both : Wd → Option (Int32 × Wd)) (g_whole : Wd → Option (Int32 × Wd)) (x1 : Int32) (t0 : Int32) (w : Wd) : Option (Int32 × Wd) := wl (updW w 100 10 ((w 100 10) - (1:Int32))) (fun w1 => (if ¬ x1 = (33:Int32) then (if (w1 100 14) = 0 then f_X9_factor_148 g_factor g_product g_sum g_compared g_both g_whole w1 else bd (f_X9_byteAt w1 (w1 100 8)) (fun q2 => (if ¬ q2 = (41:Int32) then f_X9_factor_148 g_factor g_product g_sum g_compared g_both g_whole w1 else wl (updW w1 100 8 ((w1 100 8) + (1:Int32))) (fun w3 => some (t0, w3))))) else (if ¬ t0 = 0 then some ((0:Int32), w1) else some ((1:Int32), w1))))
set_option maxRecDepth 20000 in
theorem b_X9_factor_89 {G : Gv} {V : Vt} {d : Nat} {g_factor : Wd → Option (Int32 × Wd)} {g_product : Wd → Option (Int32 × Wd)} {g_sum : Wd → Option (Int32 × Wd)} {g_compared : Wd → Option (Int32 × Wd)} {g_both : Wd → Option (Int32 × Wd)} {g_whole : Wd → Option (Int32 × Wd)} {res : Int32 × Wd} (hg_factor : ∀ (w : Wd) (r : Int32 × Wd), g_factor w = some r → ∀ l : Launch, MC l yX9_factor cX9_factor 3 (some FieldType.int) (4 + d) G SM w [.ref (G.2 100)] (some (.int r.1)) r.2) (hg_product : ∀ (w : Wd) (r : Int32 × Wd), g_product w = some r → ∀ l : Launch, MC l yX9_product cX9_product 4 (some FieldType.int) (4 + d) G SM w [.ref (G.2 100)] (some (.int r.1)) r.2) (hg_sum : ∀ (w : Wd) (r : Int32 × Wd), g_sum w = some r → ∀ l : Launch, MC l yX9_sum cX9_sum 4 (some FieldType.int) (4 + d) G SM w [.ref (G.2 100)] (some (.int r.1)) r.2) (hg_compared : ∀ (w : Wd) (r : Int32 × Wd), g_compared w = some r → ∀ l : Launch, MC l yX9_compared cX9_compared 5 (some FieldType.int) (4 + d) G SM w [.ref (G.2 100)] (some (.int r.1)) r.2) (hg_both : ∀ (w : Wd) (r : Int32 × Wd), g_both w = some r → ∀ l : Launch, MC l yX9_both cX9_both 3 (some FieldType.int) (4 + d) G SM w [.ref (G.2 100)] (some (.int r.1)) r.2) (hg_whole : ∀ (w : Wd) (r : Int32 × Wd), g_whole w = some r → ∀ l : Launch, MC l yX9_whole cX9_whole 3 (some FieldType.int) (4 + d) G SM w [.ref (G.2 100)] (some (.int r.1)) r.2) (C : CX cX9_factor RX9 G SM 3 (4 + d + 1) (some FieldType.int) (some (.int res.1)) res.2 V) {x1 : Int32} {t0 : Int32} {w : Wd} (h : f_X9_factor_89 g_factor g_product g_sum g_compared g_both g_whole x1 t0 w = some res) : V w 89 [(0, .ref (G.2 100)), (1, .int x1)] [.int t0] := by
  unfold f_X9_factor_89 at h
  refine r_istore_n (L' := [(2, .int t0), (0, .ref (G.2 100)), (1, .int x1)]) (pc := 89) C dX9_factor_89 rfl (by decide) rfl ?_
  refine r_aload_n (pc := 90) C dX9_factor_90 rfl 1 rfl ?_
  refine r_dup (pc := 91) C dX9_factor_91 rfl ?_
  refine gi_X9_152 (pc := 92) C dX9_factor_92 kx_100 rfl ?_
  refine r_iconst (v := (1:Int32)) (pc := 95) C dX9_factor_95 (by decide) ?_
  refine r_isub (pc := 96) C dX9_factor_96 ?_
  refine pi_X9_152 (pc := 97) C dX9_factor_97 kx_100 rfl h (fun w1 h => ?_)
  refine r_iload_n (pc := 100) C dX9_factor_100 rfl 2 rfl ?_
  refine r_bipush (v := (33:Int32)) (pc := 101) C dX9_factor_101 (by decide) ?_
  refine r_icmp_ne (pc := 103) C 116 dX9_factor_103 (by decide) h (fun h => ?_) (fun h => ?_)
  · refine r_aload_n (pc := 116) C dX9_factor_116 rfl 1 rfl ?_
    refine gi_X9_120 (pc := 117) C dX9_factor_117 kx_100 rfl ?_
    refine r_if_eq (pc := 120) C 148 dX9_factor_120 (by decide) h (fun h => ?_) (fun h => ?_)
    · exact r_sub C [1] rfl (b_X9_factor_148 hg_factor hg_product hg_sum hg_compared hg_both hg_whole C h)
    · refine r_aload_n (pc := 123) C dX9_factor_123 rfl 1 rfl ?_
      refine r_aload_n (pc := 124) C dX9_factor_124 rfl 1 rfl ?_
      refine gi_X9_124 (pc := 125) C dX9_factor_125 kx_100 rfl ?_
      refine cv_X9_127 (pc := 128) C dX9_factor_128  h (by omega) (Nat.le_of_ble_eq_true rfl) (fun q2 h => ?_)
      refine r_bipush (v := (41:Int32)) (pc := 131) C dX9_factor_131 (by decide) ?_
      refine r_icmp_ne (pc := 133) C 148 dX9_factor_133 (by decide) h (fun h => ?_) (fun h => ?_)
      · exact r_sub C [1] rfl (b_X9_factor_148 hg_factor hg_product hg_sum hg_compared hg_both hg_whole C h)
      · refine r_aload_n (pc := 136) C dX9_factor_136 rfl 1 rfl ?_
        refine r_dup (pc := 137) C dX9_factor_137 rfl ?_
        refine gi_X9_124 (pc := 138) C dX9_factor_138 kx_100 rfl ?_
        refine r_iconst (v := (1:Int32)) (pc := 141) C dX9_factor_141 (by decide) ?_
        refine r_iadd (pc := 142) C dX9_factor_142 ?_
        refine pi_X9_124 (pc := 143) C dX9_factor_143 kx_100 rfl h (fun w3 h => ?_)
        refine r_iload_n (pc := 146) C dX9_factor_146 rfl 0 rfl ?_
        exact r_iretE (pc := 147) C dX9_factor_147 h
  · refine r_iload_n (pc := 106) C dX9_factor_106 rfl 0 rfl ?_
    refine r_if_ne (pc := 107) C 114 dX9_factor_107 (by decide) h (fun h => ?_) (fun h => ?_)
    · refine r_iconst (v := (0:Int32)) (pc := 114) C dX9_factor_114 (by decide) ?_
      exact r_iretE (pc := 115) C dX9_factor_115 h
    · refine r_iconst (v := (1:Int32)) (pc := 110) C dX9_factor_110 (by decide) ?_
      refine r_goto (pc := 111) C 115 dX9_factor_111 (by decide) ?_
      exact r_iretE (pc := 115) C dX9_factor_115 h
def f_X9_factor_39 (g_factor : Wd → Option (Int32 × Wd)) (g_product : Wd → Option (Int32 × Wd)) (g_sum : Wd → Option (Int32 × Wd)) (g_compared : Wd → Option (Int32 × Wd)) (g_both : Wd → Option (Int32 × Wd)) (g_whole : Wd → Option (Int32 × Wd)) (x1 : Int32) (w : Wd) : Option (Int32 × Wd) := (if ¬ (w 100 10) = (5:Int32) then wl (updW w 100 10 ((w 100 10) + (1:Int32))) (fun w1 => wl (updW w1 100 8 ((w1 100 8) + (1:Int32))) (fun w2 => (if ¬ x1 = (33:Int32) then bd (g_whole w2) (fun q3 => f_X9_factor_89 g_factor g_product g_sum g_compared g_both g_whole x1 q3.1 q3.2) else bd (g_factor w2) (fun q4 => f_X9_factor_89 g_factor g_product g_sum g_compared g_both g_whole x1 q4.1 q4.2)))) else bd (f_X9_fails w) (fun q5 => some (q5.1, q5.2)))
set_option maxRecDepth 20000 in
theorem b_X9_factor_39 {G : Gv} {V : Vt} {d : Nat} {g_factor : Wd → Option (Int32 × Wd)} {g_product : Wd → Option (Int32 × Wd)} {g_sum : Wd → Option (Int32 × Wd)} {g_compared : Wd → Option (Int32 × Wd)} {g_both : Wd → Option (Int32 × Wd)} {g_whole : Wd → Option (Int32 × Wd)} {res : Int32 × Wd} (hg_factor : ∀ (w : Wd) (r : Int32 × Wd), g_factor w = some r → ∀ l : Launch, MC l yX9_factor cX9_factor 3 (some FieldType.int) (4 + d) G SM w [.ref (G.2 100)] (some (.int r.1)) r.2) (hg_product : ∀ (w : Wd) (r : Int32 × Wd), g_product w = some r → ∀ l : Launch, MC l yX9_product cX9_product 4 (some FieldType.int) (4 + d) G SM w [.ref (G.2 100)] (some (.int r.1)) r.2) (hg_sum : ∀ (w : Wd) (r : Int32 × Wd), g_sum w = some r → ∀ l : Launch, MC l yX9_sum cX9_sum 4 (some FieldType.int) (4 + d) G SM w [.ref (G.2 100)] (some (.int r.1)) r.2) (hg_compared : ∀ (w : Wd) (r : Int32 × Wd), g_compared w = some r → ∀ l : Launch, MC l yX9_compared cX9_compared 5 (some FieldType.int) (4 + d) G SM w [.ref (G.2 100)] (some (.int r.1)) r.2) (hg_both : ∀ (w : Wd) (r : Int32 × Wd), g_both w = some r → ∀ l : Launch, MC l yX9_both cX9_both 3 (some FieldType.int) (4 + d) G SM w [.ref (G.2 100)] (some (.int r.1)) r.2) (hg_whole : ∀ (w : Wd) (r : Int32 × Wd), g_whole w = some r → ∀ l : Launch, MC l yX9_whole cX9_whole 3 (some FieldType.int) (4 + d) G SM w [.ref (G.2 100)] (some (.int r.1)) r.2) (C : CX cX9_factor RX9 G SM 3 (4 + d + 1) (some FieldType.int) (some (.int res.1)) res.2 V) {x1 : Int32} {w : Wd} (h : f_X9_factor_39 g_factor g_product g_sum g_compared g_both g_whole x1 w = some res) : V w 39 [(0, .ref (G.2 100)), (1, .int x1)] [] := by
  unfold f_X9_factor_39 at h
  refine r_aload_n (pc := 39) C dX9_factor_39 rfl 0 rfl ?_
  refine gi_X9_152 (pc := 40) C dX9_factor_40 kx_100 rfl ?_
  refine r_iconst (v := (5:Int32)) (pc := 43) C dX9_factor_43 (by decide) ?_
  refine r_icmp_ne (pc := 44) C 52 dX9_factor_44 (by decide) h (fun h => ?_) (fun h => ?_)
  · refine r_aload_n (pc := 52) C dX9_factor_52 rfl 0 rfl ?_
    refine r_dup (pc := 53) C dX9_factor_53 rfl ?_
    refine gi_X9_152 (pc := 54) C dX9_factor_54 kx_100 rfl ?_
    refine r_iconst (v := (1:Int32)) (pc := 57) C dX9_factor_57 (by decide) ?_
    refine r_iadd (pc := 58) C dX9_factor_58 ?_
    refine pi_X9_152 (pc := 59) C dX9_factor_59 kx_100 rfl h (fun w1 h => ?_)
    refine r_aload_n (pc := 62) C dX9_factor_62 rfl 0 rfl ?_
    refine r_dup (pc := 63) C dX9_factor_63 rfl ?_
    refine gi_X9_124 (pc := 64) C dX9_factor_64 kx_100 rfl ?_
    refine r_iconst (v := (1:Int32)) (pc := 67) C dX9_factor_67 (by decide) ?_
    refine r_iadd (pc := 68) C dX9_factor_68 ?_
    refine pi_X9_124 (pc := 69) C dX9_factor_69 kx_100 rfl h (fun w2 h => ?_)
    refine r_iload_n (pc := 72) C dX9_factor_72 rfl 1 rfl ?_
    refine r_bipush (v := (33:Int32)) (pc := 73) C dX9_factor_73 (by decide) ?_
    refine r_icmp_ne (pc := 75) C 85 dX9_factor_75 (by decide) h (fun h => ?_) (fun h => ?_)
    · refine r_aload_n (pc := 85) C dX9_factor_85 rfl 0 rfl ?_
      refine r_callV (As := []) (rest := []) (rvf := fun q => (some (.int q.1))) (wf := fun q => q.2) (pc := 86) C dX9_factor_86 h ql_X9_158 qi_X9_whole qs_X9_whole qn_X9 qc_X9_whole ⟨rfl, by decide +kernel, by decide +kernel, (by decide +kernel : (parseMethodDescriptor yX9_whole.desc).map (fun d => d.parameters.length) = some 0)⟩ ⟨Nat.le_refl _, by decide⟩ kx_100 rfl (fun q hq l => hg_whole _  q hq l) rfl (Nat.le_of_ble_eq_true rfl) (fun q3 h => ?_)
      exact r_sub C [0, 1] rfl (b_X9_factor_89 hg_factor hg_product hg_sum hg_compared hg_both hg_whole C h)
    · refine r_aload_n (pc := 78) C dX9_factor_78 rfl 0 rfl ?_
      refine r_callV (As := []) (rest := []) (rvf := fun q => (some (.int q.1))) (wf := fun q => q.2) (pc := 79) C dX9_factor_79 h ql_X9_155 qi_X9_factor qs_X9_factor qn_X9 qc_X9_factor ⟨rfl, by decide +kernel, by decide +kernel, (by decide +kernel : (parseMethodDescriptor yX9_factor.desc).map (fun d => d.parameters.length) = some 0)⟩ ⟨Nat.le_refl _, by decide⟩ kx_100 rfl (fun q hq l => hg_factor _  q hq l) rfl (Nat.le_of_ble_eq_true rfl) (fun q4 h => ?_)
      refine r_goto (pc := 82) C 89 dX9_factor_82 (by decide) ?_
      exact r_sub C [0, 1] rfl (b_X9_factor_89 hg_factor hg_product hg_sum hg_compared hg_both hg_whole C h)
  · refine r_aload_n (pc := 47) C dX9_factor_47 rfl 0 rfl ?_
    refine cv_X9_133 (pc := 48) C dX9_factor_48  h (by omega) (Nat.le_of_ble_eq_true rfl) (fun q5 h => ?_)
    exact r_iretE (pc := 51) C dX9_factor_51 h
def fg_X9_factor (g_factor : Wd → Option (Int32 × Wd)) (g_product : Wd → Option (Int32 × Wd)) (g_sum : Wd → Option (Int32 × Wd)) (g_compared : Wd → Option (Int32 × Wd)) (g_both : Wd → Option (Int32 × Wd)) (g_whole : Wd → Option (Int32 × Wd)) (w : Wd) : Option (Int32 × Wd) := bd (f_X9_byteAt w (w 100 8)) (fun q1 => bd (f_X9_isDigit q1) (fun q2 => (if q2 = 0 then (if q1 = (33:Int32) then f_X9_factor_39 g_factor g_product g_sum g_compared g_both g_whole q1 w else (if q1 = (40:Int32) then f_X9_factor_39 g_factor g_product g_sum g_compared g_both g_whole q1 w else bd (f_X9_named q1 w) (fun q3 => some (q3.1, q3.2)))) else bd (f_X9_number w) (fun q4 => some (q4.1, q4.2)))))
set_option maxRecDepth 20000 in
theorem b_X9_factor_E {G : Gv} {V : Vt} {d : Nat} {g_factor : Wd → Option (Int32 × Wd)} {g_product : Wd → Option (Int32 × Wd)} {g_sum : Wd → Option (Int32 × Wd)} {g_compared : Wd → Option (Int32 × Wd)} {g_both : Wd → Option (Int32 × Wd)} {g_whole : Wd → Option (Int32 × Wd)} {res : Int32 × Wd} (hg_factor : ∀ (w : Wd) (r : Int32 × Wd), g_factor w = some r → ∀ l : Launch, MC l yX9_factor cX9_factor 3 (some FieldType.int) (4 + d) G SM w [.ref (G.2 100)] (some (.int r.1)) r.2) (hg_product : ∀ (w : Wd) (r : Int32 × Wd), g_product w = some r → ∀ l : Launch, MC l yX9_product cX9_product 4 (some FieldType.int) (4 + d) G SM w [.ref (G.2 100)] (some (.int r.1)) r.2) (hg_sum : ∀ (w : Wd) (r : Int32 × Wd), g_sum w = some r → ∀ l : Launch, MC l yX9_sum cX9_sum 4 (some FieldType.int) (4 + d) G SM w [.ref (G.2 100)] (some (.int r.1)) r.2) (hg_compared : ∀ (w : Wd) (r : Int32 × Wd), g_compared w = some r → ∀ l : Launch, MC l yX9_compared cX9_compared 5 (some FieldType.int) (4 + d) G SM w [.ref (G.2 100)] (some (.int r.1)) r.2) (hg_both : ∀ (w : Wd) (r : Int32 × Wd), g_both w = some r → ∀ l : Launch, MC l yX9_both cX9_both 3 (some FieldType.int) (4 + d) G SM w [.ref (G.2 100)] (some (.int r.1)) r.2) (hg_whole : ∀ (w : Wd) (r : Int32 × Wd), g_whole w = some r → ∀ l : Launch, MC l yX9_whole cX9_whole 3 (some FieldType.int) (4 + d) G SM w [.ref (G.2 100)] (some (.int r.1)) r.2) (C : CX cX9_factor RX9 G SM 3 (4 + d + 1) (some FieldType.int) (some (.int res.1)) res.2 V) {w : Wd} (h : fg_X9_factor g_factor g_product g_sum g_compared g_both g_whole w = some res) : V w 0 [(0, .ref (G.2 100))] [] := by
  unfold fg_X9_factor at h
  refine r_aload_n (pc := 0) C dX9_factor_0 rfl 0 rfl ?_
  refine r_aload_n (pc := 1) C dX9_factor_1 rfl 0 rfl ?_
  refine gi_X9_124 (pc := 2) C dX9_factor_2 kx_100 rfl ?_
  refine cv_X9_127 (pc := 5) C dX9_factor_5  h (by omega) (Nat.le_of_ble_eq_true rfl) (fun q1 h => ?_)
  refine r_istore_n (L' := [(1, .int q1), (0, .ref (G.2 100))]) (pc := 8) C dX9_factor_8 rfl (by decide) rfl ?_
  refine r_iload_n (pc := 9) C dX9_factor_9 rfl 0 rfl ?_
  refine cv_X9_130 (pc := 10) C dX9_factor_10  h (by omega) (Nat.le_of_ble_eq_true rfl) (fun q2 h => ?_)
  refine r_if_eq (pc := 13) C 21 dX9_factor_13 (by decide) h (fun h => ?_) (fun h => ?_)
  · refine r_iload_n (pc := 21) C dX9_factor_21 rfl 0 rfl ?_
    refine r_bipush (v := (33:Int32)) (pc := 22) C dX9_factor_22 (by decide) ?_
    refine r_icmp_eq (pc := 24) C 39 dX9_factor_24 (by decide) h (fun h => ?_) (fun h => ?_)
    · exact r_sub C [1, 0] rfl (b_X9_factor_39 hg_factor hg_product hg_sum hg_compared hg_both hg_whole C h)
    · refine r_iload_n (pc := 27) C dX9_factor_27 rfl 0 rfl ?_
      refine r_bipush (v := (40:Int32)) (pc := 28) C dX9_factor_28 (by decide) ?_
      refine r_icmp_eq (pc := 30) C 39 dX9_factor_30 (by decide) h (fun h => ?_) (fun h => ?_)
      · exact r_sub C [1, 0] rfl (b_X9_factor_39 hg_factor hg_product hg_sum hg_compared hg_both hg_whole C h)
      · refine r_aload_n (pc := 33) C dX9_factor_33 rfl 1 rfl ?_
        refine r_iload_n (pc := 34) C dX9_factor_34 rfl 0 rfl ?_
        refine cv_X9_149 (pc := 35) C dX9_factor_35  h (by omega) (Nat.le_of_ble_eq_true rfl) (fun q3 h => ?_)
        exact r_iretE (pc := 38) C dX9_factor_38 h
  · refine r_aload_n (pc := 16) C dX9_factor_16 rfl 1 rfl ?_
    refine cv_X9_146 (pc := 17) C dX9_factor_17  h (by omega) (Nat.le_of_ble_eq_true rfl) (fun q4 h => ?_)
    exact r_iretE (pc := 20) C dX9_factor_20 h
def f_X9_product_110 (g_factor : Wd → Option (Int32 × Wd)) (g_product : Wd → Option (Int32 × Wd)) (g_sum : Wd → Option (Int32 × Wd)) (g_compared : Wd → Option (Int32 × Wd)) (g_both : Wd → Option (Int32 × Wd)) (g_whole : Wd → Option (Int32 × Wd)) (rec5 : Int32 → Wd → Option (Int32 × Wd)) (t0 : Int32) (w : Wd) : Option (Int32 × Wd) := rec5 t0 w
set_option maxRecDepth 20000 in
theorem b_X9_product_110 {G : Gv} {V : Vt} {d : Nat} {g_factor : Wd → Option (Int32 × Wd)} {g_product : Wd → Option (Int32 × Wd)} {g_sum : Wd → Option (Int32 × Wd)} {g_compared : Wd → Option (Int32 × Wd)} {g_both : Wd → Option (Int32 × Wd)} {g_whole : Wd → Option (Int32 × Wd)} {rec5 : Int32 → Wd → Option (Int32 × Wd)} {res : Int32 × Wd} (hg_factor : ∀ (w : Wd) (r : Int32 × Wd), g_factor w = some r → ∀ l : Launch, MC l yX9_factor cX9_factor 3 (some FieldType.int) (4 + d) G SM w [.ref (G.2 100)] (some (.int r.1)) r.2) (hg_product : ∀ (w : Wd) (r : Int32 × Wd), g_product w = some r → ∀ l : Launch, MC l yX9_product cX9_product 4 (some FieldType.int) (4 + d) G SM w [.ref (G.2 100)] (some (.int r.1)) r.2) (hg_sum : ∀ (w : Wd) (r : Int32 × Wd), g_sum w = some r → ∀ l : Launch, MC l yX9_sum cX9_sum 4 (some FieldType.int) (4 + d) G SM w [.ref (G.2 100)] (some (.int r.1)) r.2) (hg_compared : ∀ (w : Wd) (r : Int32 × Wd), g_compared w = some r → ∀ l : Launch, MC l yX9_compared cX9_compared 5 (some FieldType.int) (4 + d) G SM w [.ref (G.2 100)] (some (.int r.1)) r.2) (hg_both : ∀ (w : Wd) (r : Int32 × Wd), g_both w = some r → ∀ l : Launch, MC l yX9_both cX9_both 3 (some FieldType.int) (4 + d) G SM w [.ref (G.2 100)] (some (.int r.1)) r.2) (hg_whole : ∀ (w : Wd) (r : Int32 × Wd), g_whole w = some r → ∀ l : Launch, MC l yX9_whole cX9_whole 3 (some FieldType.int) (4 + d) G SM w [.ref (G.2 100)] (some (.int r.1)) r.2) (C : CX cX9_product RX9 G SM 4 (4 + d + 1) (some FieldType.int) (some (.int res.1)) res.2 V) (hrec5 : ∀ (x1 : Int32) (w : Wd), rec5 x1 w = some res → V w 5 [(0, .ref (G.2 100)), (1, .int x1)] []) {t0 : Int32} {w : Wd} (h : f_X9_product_110 g_factor g_product g_sum g_compared g_both g_whole rec5 t0 w = some res) : V w 110 [(0, .ref (G.2 100))] [.int t0] := by
  unfold f_X9_product_110 at h
  refine r_istore_n (L' := [(1, .int t0), (0, .ref (G.2 100))]) (pc := 110) C dX9_product_110 rfl (by decide) rfl ?_
  refine r_goto (pc := 111) C 5 dX9_product_111 (by decide) ?_
  exact r_sub C [1, 0] rfl (hrec5 _ _ h)
def f_X9_product_51 (g_factor : Wd → Option (Int32 × Wd)) (g_product : Wd → Option (Int32 × Wd)) (g_sum : Wd → Option (Int32 × Wd)) (g_compared : Wd → Option (Int32 × Wd)) (g_both : Wd → Option (Int32 × Wd)) (g_whole : Wd → Option (Int32 × Wd)) (rec5 : Int32 → Wd → Option (Int32 × Wd)) (x1 : Int32) (w : Wd) : Option (Int32 × Wd) := bd (f_X9_byteAt w (w 100 8)) (fun q1 => wl (updW w 100 8 ((w 100 8) + (1:Int32))) (fun w2 => bd (g_factor w2) (fun q3 => (if ¬ q1 = (42:Int32) then (if ¬ q3.1 = 0 then (if ¬ q1 = (47:Int32) then nz q3.1 (f_X9_product_110 g_factor g_product g_sum g_compared g_both g_whole rec5 (x1 - x1 / q3.1 * q3.1) q3.2) else nz q3.1 (f_X9_product_110 g_factor g_product g_sum g_compared g_both g_whole rec5 (x1 / q3.1) q3.2)) else f_X9_product_110 g_factor g_product g_sum g_compared g_both g_whole rec5 (0:Int32) q3.2) else f_X9_product_110 g_factor g_product g_sum g_compared g_both g_whole rec5 (x1 * q3.1) q3.2))))
set_option maxRecDepth 20000 in
theorem b_X9_product_51 {G : Gv} {V : Vt} {d : Nat} {g_factor : Wd → Option (Int32 × Wd)} {g_product : Wd → Option (Int32 × Wd)} {g_sum : Wd → Option (Int32 × Wd)} {g_compared : Wd → Option (Int32 × Wd)} {g_both : Wd → Option (Int32 × Wd)} {g_whole : Wd → Option (Int32 × Wd)} {rec5 : Int32 → Wd → Option (Int32 × Wd)} {res : Int32 × Wd} (hg_factor : ∀ (w : Wd) (r : Int32 × Wd), g_factor w = some r → ∀ l : Launch, MC l yX9_factor cX9_factor 3 (some FieldType.int) (4 + d) G SM w [.ref (G.2 100)] (some (.int r.1)) r.2) (hg_product : ∀ (w : Wd) (r : Int32 × Wd), g_product w = some r → ∀ l : Launch, MC l yX9_product cX9_product 4 (some FieldType.int) (4 + d) G SM w [.ref (G.2 100)] (some (.int r.1)) r.2) (hg_sum : ∀ (w : Wd) (r : Int32 × Wd), g_sum w = some r → ∀ l : Launch, MC l yX9_sum cX9_sum 4 (some FieldType.int) (4 + d) G SM w [.ref (G.2 100)] (some (.int r.1)) r.2) (hg_compared : ∀ (w : Wd) (r : Int32 × Wd), g_compared w = some r → ∀ l : Launch, MC l yX9_compared cX9_compared 5 (some FieldType.int) (4 + d) G SM w [.ref (G.2 100)] (some (.int r.1)) r.2) (hg_both : ∀ (w : Wd) (r : Int32 × Wd), g_both w = some r → ∀ l : Launch, MC l yX9_both cX9_both 3 (some FieldType.int) (4 + d) G SM w [.ref (G.2 100)] (some (.int r.1)) r.2) (hg_whole : ∀ (w : Wd) (r : Int32 × Wd), g_whole w = some r → ∀ l : Launch, MC l yX9_whole cX9_whole 3 (some FieldType.int) (4 + d) G SM w [.ref (G.2 100)] (some (.int r.1)) r.2) (C : CX cX9_product RX9 G SM 4 (4 + d + 1) (some FieldType.int) (some (.int res.1)) res.2 V) (hrec5 : ∀ (x1 : Int32) (w : Wd), rec5 x1 w = some res → V w 5 [(0, .ref (G.2 100)), (1, .int x1)] []) {x1 : Int32} {w : Wd} (h : f_X9_product_51 g_factor g_product g_sum g_compared g_both g_whole rec5 x1 w = some res) : V w 51 [(0, .ref (G.2 100)), (1, .int x1)] [] := by
  unfold f_X9_product_51 at h
  refine r_aload_n (pc := 51) C dX9_product_51 rfl 0 rfl ?_
  refine r_aload_n (pc := 52) C dX9_product_52 rfl 0 rfl ?_
  refine gi_X9_124 (pc := 53) C dX9_product_53 kx_100 rfl ?_
  refine cv_X9_127 (pc := 56) C dX9_product_56  h (by omega) (Nat.le_of_ble_eq_true rfl) (fun q1 h => ?_)
  refine r_istore_n (L' := [(2, .int q1), (0, .ref (G.2 100)), (1, .int x1)]) (pc := 59) C dX9_product_59 rfl (by decide) rfl ?_
  refine r_aload_n (pc := 60) C dX9_product_60 rfl 1 rfl ?_
  refine r_dup (pc := 61) C dX9_product_61 rfl ?_
  refine gi_X9_124 (pc := 62) C dX9_product_62 kx_100 rfl ?_
  refine r_iconst (v := (1:Int32)) (pc := 65) C dX9_product_65 (by decide) ?_
  refine r_iadd (pc := 66) C dX9_product_66 ?_
  refine pi_X9_124 (pc := 67) C dX9_product_67 kx_100 rfl h (fun w2 h => ?_)
  refine r_aload_n (pc := 70) C dX9_product_70 rfl 1 rfl ?_
  refine r_callV (As := []) (rest := []) (rvf := fun q => (some (.int q.1))) (wf := fun q => q.2) (pc := 71) C dX9_product_71 h ql_X9_155 qi_X9_factor qs_X9_factor qn_X9 qc_X9_factor ⟨rfl, by decide +kernel, by decide +kernel, (by decide +kernel : (parseMethodDescriptor yX9_factor.desc).map (fun d => d.parameters.length) = some 0)⟩ ⟨Nat.le_refl _, by decide⟩ kx_100 rfl (fun q hq l => hg_factor _  q hq l) rfl (Nat.le_of_ble_eq_true rfl) (fun q3 h => ?_)
  refine r_istore_n (L' := [(3, .int q3.1), (2, .int q1), (0, .ref (G.2 100)), (1, .int x1)]) (pc := 74) C dX9_product_74 rfl (by decide) rfl ?_
  refine r_iload_n (pc := 75) C dX9_product_75 rfl 1 rfl ?_
  refine r_bipush (v := (42:Int32)) (pc := 76) C dX9_product_76 (by decide) ?_
  refine r_icmp_ne (pc := 78) C 87 dX9_product_78 (by decide) h (fun h => ?_) (fun h => ?_)
  · refine r_iload_n (pc := 87) C dX9_product_87 rfl 0 rfl ?_
    refine r_if_ne (pc := 88) C 95 dX9_product_88 (by decide) h (fun h => ?_) (fun h => ?_)
    · refine r_iload_n (pc := 95) C dX9_product_95 rfl 1 rfl ?_
      refine r_bipush (v := (47:Int32)) (pc := 96) C dX9_product_96 (by decide) ?_
      refine r_icmp_ne (pc := 98) C 107 dX9_product_98 (by decide) h (fun h => ?_) (fun h => ?_)
      · refine r_iload_n (pc := 107) C dX9_product_107 rfl 3 rfl ?_
        refine r_iload_n (pc := 108) C dX9_product_108 rfl 0 rfl ?_
        refine r_nz_rem (pc := 109) C dX9_product_109 h (fun h => ?_)
        exact r_sub C [2] rfl (b_X9_product_110 hg_factor hg_product hg_sum hg_compared hg_both hg_whole C hrec5 h)
      · refine r_iload_n (pc := 101) C dX9_product_101 rfl 3 rfl ?_
        refine r_iload_n (pc := 102) C dX9_product_102 rfl 0 rfl ?_
        refine r_nz_div (pc := 103) C dX9_product_103 h (fun h => ?_)
        refine r_goto (pc := 104) C 110 dX9_product_104 (by decide) ?_
        exact r_sub C [2] rfl (b_X9_product_110 hg_factor hg_product hg_sum hg_compared hg_both hg_whole C hrec5 h)
    · refine r_iconst (v := (0:Int32)) (pc := 91) C dX9_product_91 (by decide) ?_
      refine r_goto (pc := 92) C 110 dX9_product_92 (by decide) ?_
      exact r_sub C [2] rfl (b_X9_product_110 hg_factor hg_product hg_sum hg_compared hg_both hg_whole C hrec5 h)
  · refine r_iload_n (pc := 81) C dX9_product_81 rfl 3 rfl ?_
    refine r_iload_n (pc := 82) C dX9_product_82 rfl 0 rfl ?_
    refine r_imul (pc := 83) C dX9_product_83 ?_
    refine r_goto (pc := 84) C 110 dX9_product_84 (by decide) ?_
    exact r_sub C [2] rfl (b_X9_product_110 hg_factor hg_product hg_sum hg_compared hg_both hg_whole C hrec5 h)
def fb_X9_product_5 (g_factor : Wd → Option (Int32 × Wd)) (g_product : Wd → Option (Int32 × Wd)) (g_sum : Wd → Option (Int32 × Wd)) (g_compared : Wd → Option (Int32 × Wd)) (g_both : Wd → Option (Int32 × Wd)) (g_whole : Wd → Option (Int32 × Wd)) (rec5 : Int32 → Wd → Option (Int32 × Wd)) (x1 : Int32) (w : Wd) : Option (Int32 × Wd) := (if (w 100 14) = 0 then some (x1, w) else bd (f_X9_byteAt w (w 100 8)) (fun q1 => (if q1 = (42:Int32) then f_X9_product_51 g_factor g_product g_sum g_compared g_both g_whole rec5 x1 w else bd (f_X9_byteAt w (w 100 8)) (fun q2 => (if q2 = (47:Int32) then f_X9_product_51 g_factor g_product g_sum g_compared g_both g_whole rec5 x1 w else bd (f_X9_byteAt w (w 100 8)) (fun q3 => (if ¬ q3 = (37:Int32) then some (x1, w) else f_X9_product_51 g_factor g_product g_sum g_compared g_both g_whole rec5 x1 w)))))))
set_option maxRecDepth 20000 in
theorem bb_X9_product_5 {G : Gv} {V : Vt} {d : Nat} {g_factor : Wd → Option (Int32 × Wd)} {g_product : Wd → Option (Int32 × Wd)} {g_sum : Wd → Option (Int32 × Wd)} {g_compared : Wd → Option (Int32 × Wd)} {g_both : Wd → Option (Int32 × Wd)} {g_whole : Wd → Option (Int32 × Wd)} {rec5 : Int32 → Wd → Option (Int32 × Wd)} {res : Int32 × Wd} (hg_factor : ∀ (w : Wd) (r : Int32 × Wd), g_factor w = some r → ∀ l : Launch, MC l yX9_factor cX9_factor 3 (some FieldType.int) (4 + d) G SM w [.ref (G.2 100)] (some (.int r.1)) r.2) (hg_product : ∀ (w : Wd) (r : Int32 × Wd), g_product w = some r → ∀ l : Launch, MC l yX9_product cX9_product 4 (some FieldType.int) (4 + d) G SM w [.ref (G.2 100)] (some (.int r.1)) r.2) (hg_sum : ∀ (w : Wd) (r : Int32 × Wd), g_sum w = some r → ∀ l : Launch, MC l yX9_sum cX9_sum 4 (some FieldType.int) (4 + d) G SM w [.ref (G.2 100)] (some (.int r.1)) r.2) (hg_compared : ∀ (w : Wd) (r : Int32 × Wd), g_compared w = some r → ∀ l : Launch, MC l yX9_compared cX9_compared 5 (some FieldType.int) (4 + d) G SM w [.ref (G.2 100)] (some (.int r.1)) r.2) (hg_both : ∀ (w : Wd) (r : Int32 × Wd), g_both w = some r → ∀ l : Launch, MC l yX9_both cX9_both 3 (some FieldType.int) (4 + d) G SM w [.ref (G.2 100)] (some (.int r.1)) r.2) (hg_whole : ∀ (w : Wd) (r : Int32 × Wd), g_whole w = some r → ∀ l : Launch, MC l yX9_whole cX9_whole 3 (some FieldType.int) (4 + d) G SM w [.ref (G.2 100)] (some (.int r.1)) r.2) (C : CX cX9_product RX9 G SM 4 (4 + d + 1) (some FieldType.int) (some (.int res.1)) res.2 V) (hrec5 : ∀ (x1 : Int32) (w : Wd), rec5 x1 w = some res → V w 5 [(0, .ref (G.2 100)), (1, .int x1)] []) {x1 : Int32} {w : Wd} (h : fb_X9_product_5 g_factor g_product g_sum g_compared g_both g_whole rec5 x1 w = some res) : V w 5 [(0, .ref (G.2 100)), (1, .int x1)] [] := by
  unfold fb_X9_product_5 at h
  refine r_aload_n (pc := 5) C dX9_product_5 rfl 0 rfl ?_
  refine gi_X9_120 (pc := 6) C dX9_product_6 kx_100 rfl ?_
  refine r_if_eq (pc := 9) C 114 dX9_product_9 (by decide) h (fun h => ?_) (fun h => ?_)
  · refine r_iload_n (pc := 114) C dX9_product_114 rfl 1 rfl ?_
    exact r_iretE (pc := 115) C dX9_product_115 h
  · refine r_aload_n (pc := 12) C dX9_product_12 rfl 0 rfl ?_
    refine r_aload_n (pc := 13) C dX9_product_13 rfl 0 rfl ?_
    refine gi_X9_124 (pc := 14) C dX9_product_14 kx_100 rfl ?_
    refine cv_X9_127 (pc := 17) C dX9_product_17  h (by omega) (Nat.le_of_ble_eq_true rfl) (fun q1 h => ?_)
    refine r_bipush (v := (42:Int32)) (pc := 20) C dX9_product_20 (by decide) ?_
    refine r_icmp_eq (pc := 22) C 51 dX9_product_22 (by decide) h (fun h => ?_) (fun h => ?_)
    · exact r_sub C [0, 1] rfl (b_X9_product_51 hg_factor hg_product hg_sum hg_compared hg_both hg_whole C hrec5 h)
    · refine r_aload_n (pc := 25) C dX9_product_25 rfl 0 rfl ?_
      refine r_aload_n (pc := 26) C dX9_product_26 rfl 0 rfl ?_
      refine gi_X9_124 (pc := 27) C dX9_product_27 kx_100 rfl ?_
      refine cv_X9_127 (pc := 30) C dX9_product_30  h (by omega) (Nat.le_of_ble_eq_true rfl) (fun q2 h => ?_)
      refine r_bipush (v := (47:Int32)) (pc := 33) C dX9_product_33 (by decide) ?_
      refine r_icmp_eq (pc := 35) C 51 dX9_product_35 (by decide) h (fun h => ?_) (fun h => ?_)
      · exact r_sub C [0, 1] rfl (b_X9_product_51 hg_factor hg_product hg_sum hg_compared hg_both hg_whole C hrec5 h)
      · refine r_aload_n (pc := 38) C dX9_product_38 rfl 0 rfl ?_
        refine r_aload_n (pc := 39) C dX9_product_39 rfl 0 rfl ?_
        refine gi_X9_124 (pc := 40) C dX9_product_40 kx_100 rfl ?_
        refine cv_X9_127 (pc := 43) C dX9_product_43  h (by omega) (Nat.le_of_ble_eq_true rfl) (fun q3 h => ?_)
        refine r_bipush (v := (37:Int32)) (pc := 46) C dX9_product_46 (by decide) ?_
        refine r_icmp_ne (pc := 48) C 114 dX9_product_48 (by decide) h (fun h => ?_) (fun h => ?_)
        · refine r_iload_n (pc := 114) C dX9_product_114 rfl 1 rfl ?_
          exact r_iretE (pc := 115) C dX9_product_115 h
        · exact r_sub C [0, 1] rfl (b_X9_product_51 hg_factor hg_product hg_sum hg_compared hg_both hg_whole C hrec5 h)
def f_X9_product_5 (g_factor : Wd → Option (Int32 × Wd)) (g_product : Wd → Option (Int32 × Wd)) (g_sum : Wd → Option (Int32 × Wd)) (g_compared : Wd → Option (Int32 × Wd)) (g_both : Wd → Option (Int32 × Wd)) (g_whole : Wd → Option (Int32 × Wd)) : Int32 → Wd → Option (Int32 × Wd) := lp (fun _ _ => none) (fun rec => fb_X9_product_5 g_factor g_product g_sum g_compared g_both g_whole rec) FU
theorem b_X9_product_5 {G : Gv} {V : Vt} {d : Nat} {g_factor : Wd → Option (Int32 × Wd)} {g_product : Wd → Option (Int32 × Wd)} {g_sum : Wd → Option (Int32 × Wd)} {g_compared : Wd → Option (Int32 × Wd)} {g_both : Wd → Option (Int32 × Wd)} {g_whole : Wd → Option (Int32 × Wd)} {res : Int32 × Wd} (hg_factor : ∀ (w : Wd) (r : Int32 × Wd), g_factor w = some r → ∀ l : Launch, MC l yX9_factor cX9_factor 3 (some FieldType.int) (4 + d) G SM w [.ref (G.2 100)] (some (.int r.1)) r.2) (hg_product : ∀ (w : Wd) (r : Int32 × Wd), g_product w = some r → ∀ l : Launch, MC l yX9_product cX9_product 4 (some FieldType.int) (4 + d) G SM w [.ref (G.2 100)] (some (.int r.1)) r.2) (hg_sum : ∀ (w : Wd) (r : Int32 × Wd), g_sum w = some r → ∀ l : Launch, MC l yX9_sum cX9_sum 4 (some FieldType.int) (4 + d) G SM w [.ref (G.2 100)] (some (.int r.1)) r.2) (hg_compared : ∀ (w : Wd) (r : Int32 × Wd), g_compared w = some r → ∀ l : Launch, MC l yX9_compared cX9_compared 5 (some FieldType.int) (4 + d) G SM w [.ref (G.2 100)] (some (.int r.1)) r.2) (hg_both : ∀ (w : Wd) (r : Int32 × Wd), g_both w = some r → ∀ l : Launch, MC l yX9_both cX9_both 3 (some FieldType.int) (4 + d) G SM w [.ref (G.2 100)] (some (.int r.1)) r.2) (hg_whole : ∀ (w : Wd) (r : Int32 × Wd), g_whole w = some r → ∀ l : Launch, MC l yX9_whole cX9_whole 3 (some FieldType.int) (4 + d) G SM w [.ref (G.2 100)] (some (.int r.1)) r.2) (C : CX cX9_product RX9 G SM 4 (4 + d + 1) (some FieldType.int) (some (.int res.1)) res.2 V) : ∀ (x1 : Int32) (w : Wd), (f_X9_product_5 g_factor g_product g_sum g_compared g_both g_whole) x1 w = some res → V w 5 [(0, .ref (G.2 100)), (1, .int x1)] [] :=
  lp_ind (P := fun (g : Int32 → Wd → Option (Int32 × Wd)) => ∀ (x1 : Int32) (w : Wd), g x1 w = some res → V w 5 [(0, .ref (G.2 100)), (1, .int x1)] []) (fun _ _ h => by cases h) (fun g hg _ _ h => bb_X9_product_5 hg_factor hg_product hg_sum hg_compared hg_both hg_whole C hg h) FU
def fg_X9_product (g_factor : Wd → Option (Int32 × Wd)) (g_product : Wd → Option (Int32 × Wd)) (g_sum : Wd → Option (Int32 × Wd)) (g_compared : Wd → Option (Int32 × Wd)) (g_both : Wd → Option (Int32 × Wd)) (g_whole : Wd → Option (Int32 × Wd)) (w : Wd) : Option (Int32 × Wd) := bd (g_factor w) (fun q1 => f_X9_product_5 g_factor g_product g_sum g_compared g_both g_whole q1.1 q1.2)
set_option maxRecDepth 20000 in
theorem b_X9_product_E {G : Gv} {V : Vt} {d : Nat} {g_factor : Wd → Option (Int32 × Wd)} {g_product : Wd → Option (Int32 × Wd)} {g_sum : Wd → Option (Int32 × Wd)} {g_compared : Wd → Option (Int32 × Wd)} {g_both : Wd → Option (Int32 × Wd)} {g_whole : Wd → Option (Int32 × Wd)} {res : Int32 × Wd} (hg_factor : ∀ (w : Wd) (r : Int32 × Wd), g_factor w = some r → ∀ l : Launch, MC l yX9_factor cX9_factor 3 (some FieldType.int) (4 + d) G SM w [.ref (G.2 100)] (some (.int r.1)) r.2) (hg_product : ∀ (w : Wd) (r : Int32 × Wd), g_product w = some r → ∀ l : Launch, MC l yX9_product cX9_product 4 (some FieldType.int) (4 + d) G SM w [.ref (G.2 100)] (some (.int r.1)) r.2) (hg_sum : ∀ (w : Wd) (r : Int32 × Wd), g_sum w = some r → ∀ l : Launch, MC l yX9_sum cX9_sum 4 (some FieldType.int) (4 + d) G SM w [.ref (G.2 100)] (some (.int r.1)) r.2) (hg_compared : ∀ (w : Wd) (r : Int32 × Wd), g_compared w = some r → ∀ l : Launch, MC l yX9_compared cX9_compared 5 (some FieldType.int) (4 + d) G SM w [.ref (G.2 100)] (some (.int r.1)) r.2) (hg_both : ∀ (w : Wd) (r : Int32 × Wd), g_both w = some r → ∀ l : Launch, MC l yX9_both cX9_both 3 (some FieldType.int) (4 + d) G SM w [.ref (G.2 100)] (some (.int r.1)) r.2) (hg_whole : ∀ (w : Wd) (r : Int32 × Wd), g_whole w = some r → ∀ l : Launch, MC l yX9_whole cX9_whole 3 (some FieldType.int) (4 + d) G SM w [.ref (G.2 100)] (some (.int r.1)) r.2) (C : CX cX9_product RX9 G SM 4 (4 + d + 1) (some FieldType.int) (some (.int res.1)) res.2 V) {w : Wd} (h : fg_X9_product g_factor g_product g_sum g_compared g_both g_whole w = some res) : V w 0 [(0, .ref (G.2 100))] [] := by
  unfold fg_X9_product at h
  refine r_aload_n (pc := 0) C dX9_product_0 rfl 0 rfl ?_
  refine r_callV (As := []) (rest := []) (rvf := fun q => (some (.int q.1))) (wf := fun q => q.2) (pc := 1) C dX9_product_1 h ql_X9_155 qi_X9_factor qs_X9_factor qn_X9 qc_X9_factor ⟨rfl, by decide +kernel, by decide +kernel, (by decide +kernel : (parseMethodDescriptor yX9_factor.desc).map (fun d => d.parameters.length) = some 0)⟩ ⟨Nat.le_refl _, by decide⟩ kx_100 rfl (fun q hq l => hg_factor _  q hq l) rfl (Nat.le_of_ble_eq_true rfl) (fun q1 h => ?_)
  refine r_istore_n (L' := [(1, .int q1.1), (0, .ref (G.2 100))]) (pc := 4) C dX9_product_4 rfl (by decide) rfl ?_
  exact r_sub C [1, 0] rfl (b_X9_product_5 hg_factor hg_product hg_sum hg_compared hg_both hg_whole C _ _ h)
def f_X9_sum_77 (g_factor : Wd → Option (Int32 × Wd)) (g_product : Wd → Option (Int32 × Wd)) (g_sum : Wd → Option (Int32 × Wd)) (g_compared : Wd → Option (Int32 × Wd)) (g_both : Wd → Option (Int32 × Wd)) (g_whole : Wd → Option (Int32 × Wd)) (rec5 : Int32 → Wd → Option (Int32 × Wd)) (t0 : Int32) (w : Wd) : Option (Int32 × Wd) := rec5 t0 w
set_option maxRecDepth 20000 in
theorem b_X9_sum_77 {G : Gv} {V : Vt} {d : Nat} {g_factor : Wd → Option (Int32 × Wd)} {g_product : Wd → Option (Int32 × Wd)} {g_sum : Wd → Option (Int32 × Wd)} {g_compared : Wd → Option (Int32 × Wd)} {g_both : Wd → Option (Int32 × Wd)} {g_whole : Wd → Option (Int32 × Wd)} {rec5 : Int32 → Wd → Option (Int32 × Wd)} {res : Int32 × Wd} (hg_factor : ∀ (w : Wd) (r : Int32 × Wd), g_factor w = some r → ∀ l : Launch, MC l yX9_factor cX9_factor 3 (some FieldType.int) (4 + d) G SM w [.ref (G.2 100)] (some (.int r.1)) r.2) (hg_product : ∀ (w : Wd) (r : Int32 × Wd), g_product w = some r → ∀ l : Launch, MC l yX9_product cX9_product 4 (some FieldType.int) (4 + d) G SM w [.ref (G.2 100)] (some (.int r.1)) r.2) (hg_sum : ∀ (w : Wd) (r : Int32 × Wd), g_sum w = some r → ∀ l : Launch, MC l yX9_sum cX9_sum 4 (some FieldType.int) (4 + d) G SM w [.ref (G.2 100)] (some (.int r.1)) r.2) (hg_compared : ∀ (w : Wd) (r : Int32 × Wd), g_compared w = some r → ∀ l : Launch, MC l yX9_compared cX9_compared 5 (some FieldType.int) (4 + d) G SM w [.ref (G.2 100)] (some (.int r.1)) r.2) (hg_both : ∀ (w : Wd) (r : Int32 × Wd), g_both w = some r → ∀ l : Launch, MC l yX9_both cX9_both 3 (some FieldType.int) (4 + d) G SM w [.ref (G.2 100)] (some (.int r.1)) r.2) (hg_whole : ∀ (w : Wd) (r : Int32 × Wd), g_whole w = some r → ∀ l : Launch, MC l yX9_whole cX9_whole 3 (some FieldType.int) (4 + d) G SM w [.ref (G.2 100)] (some (.int r.1)) r.2) (C : CX cX9_sum RX9 G SM 4 (4 + d + 1) (some FieldType.int) (some (.int res.1)) res.2 V) (hrec5 : ∀ (x1 : Int32) (w : Wd), rec5 x1 w = some res → V w 5 [(0, .ref (G.2 100)), (1, .int x1)] []) {t0 : Int32} {w : Wd} (h : f_X9_sum_77 g_factor g_product g_sum g_compared g_both g_whole rec5 t0 w = some res) : V w 77 [(0, .ref (G.2 100))] [.int t0] := by
  unfold f_X9_sum_77 at h
  refine r_istore_n (L' := [(1, .int t0), (0, .ref (G.2 100))]) (pc := 77) C dX9_sum_77 rfl (by decide) rfl ?_
  refine r_goto (pc := 78) C 5 dX9_sum_78 (by decide) ?_
  exact r_sub C [1, 0] rfl (hrec5 _ _ h)
def f_X9_sum_38 (g_factor : Wd → Option (Int32 × Wd)) (g_product : Wd → Option (Int32 × Wd)) (g_sum : Wd → Option (Int32 × Wd)) (g_compared : Wd → Option (Int32 × Wd)) (g_both : Wd → Option (Int32 × Wd)) (g_whole : Wd → Option (Int32 × Wd)) (rec5 : Int32 → Wd → Option (Int32 × Wd)) (x1 : Int32) (w : Wd) : Option (Int32 × Wd) := bd (f_X9_byteAt w (w 100 8)) (fun q1 => wl (updW w 100 8 ((w 100 8) + (1:Int32))) (fun w2 => bd (g_product w2) (fun q3 => (if ¬ q1 = (43:Int32) then f_X9_sum_77 g_factor g_product g_sum g_compared g_both g_whole rec5 (x1 - q3.1) q3.2 else f_X9_sum_77 g_factor g_product g_sum g_compared g_both g_whole rec5 (x1 + q3.1) q3.2))))
set_option maxRecDepth 20000 in
theorem b_X9_sum_38 {G : Gv} {V : Vt} {d : Nat} {g_factor : Wd → Option (Int32 × Wd)} {g_product : Wd → Option (Int32 × Wd)} {g_sum : Wd → Option (Int32 × Wd)} {g_compared : Wd → Option (Int32 × Wd)} {g_both : Wd → Option (Int32 × Wd)} {g_whole : Wd → Option (Int32 × Wd)} {rec5 : Int32 → Wd → Option (Int32 × Wd)} {res : Int32 × Wd} (hg_factor : ∀ (w : Wd) (r : Int32 × Wd), g_factor w = some r → ∀ l : Launch, MC l yX9_factor cX9_factor 3 (some FieldType.int) (4 + d) G SM w [.ref (G.2 100)] (some (.int r.1)) r.2) (hg_product : ∀ (w : Wd) (r : Int32 × Wd), g_product w = some r → ∀ l : Launch, MC l yX9_product cX9_product 4 (some FieldType.int) (4 + d) G SM w [.ref (G.2 100)] (some (.int r.1)) r.2) (hg_sum : ∀ (w : Wd) (r : Int32 × Wd), g_sum w = some r → ∀ l : Launch, MC l yX9_sum cX9_sum 4 (some FieldType.int) (4 + d) G SM w [.ref (G.2 100)] (some (.int r.1)) r.2) (hg_compared : ∀ (w : Wd) (r : Int32 × Wd), g_compared w = some r → ∀ l : Launch, MC l yX9_compared cX9_compared 5 (some FieldType.int) (4 + d) G SM w [.ref (G.2 100)] (some (.int r.1)) r.2) (hg_both : ∀ (w : Wd) (r : Int32 × Wd), g_both w = some r → ∀ l : Launch, MC l yX9_both cX9_both 3 (some FieldType.int) (4 + d) G SM w [.ref (G.2 100)] (some (.int r.1)) r.2) (hg_whole : ∀ (w : Wd) (r : Int32 × Wd), g_whole w = some r → ∀ l : Launch, MC l yX9_whole cX9_whole 3 (some FieldType.int) (4 + d) G SM w [.ref (G.2 100)] (some (.int r.1)) r.2) (C : CX cX9_sum RX9 G SM 4 (4 + d + 1) (some FieldType.int) (some (.int res.1)) res.2 V) (hrec5 : ∀ (x1 : Int32) (w : Wd), rec5 x1 w = some res → V w 5 [(0, .ref (G.2 100)), (1, .int x1)] []) {x1 : Int32} {w : Wd} (h : f_X9_sum_38 g_factor g_product g_sum g_compared g_both g_whole rec5 x1 w = some res) : V w 38 [(0, .ref (G.2 100)), (1, .int x1)] [] := by
  unfold f_X9_sum_38 at h
  refine r_aload_n (pc := 38) C dX9_sum_38 rfl 0 rfl ?_
  refine r_aload_n (pc := 39) C dX9_sum_39 rfl 0 rfl ?_
  refine gi_X9_124 (pc := 40) C dX9_sum_40 kx_100 rfl ?_
  refine cv_X9_127 (pc := 43) C dX9_sum_43  h (by omega) (Nat.le_of_ble_eq_true rfl) (fun q1 h => ?_)
  refine r_istore_n (L' := [(2, .int q1), (0, .ref (G.2 100)), (1, .int x1)]) (pc := 46) C dX9_sum_46 rfl (by decide) rfl ?_
  refine r_aload_n (pc := 47) C dX9_sum_47 rfl 1 rfl ?_
  refine r_dup (pc := 48) C dX9_sum_48 rfl ?_
  refine gi_X9_124 (pc := 49) C dX9_sum_49 kx_100 rfl ?_
  refine r_iconst (v := (1:Int32)) (pc := 52) C dX9_sum_52 (by decide) ?_
  refine r_iadd (pc := 53) C dX9_sum_53 ?_
  refine pi_X9_124 (pc := 54) C dX9_sum_54 kx_100 rfl h (fun w2 h => ?_)
  refine r_aload_n (pc := 57) C dX9_sum_57 rfl 1 rfl ?_
  refine r_callV (As := []) (rest := []) (rvf := fun q => (some (.int q.1))) (wf := fun q => q.2) (pc := 58) C dX9_sum_58 h ql_X9_161 qi_X9_product qs_X9_product qn_X9 qc_X9_product ⟨rfl, by decide +kernel, by decide +kernel, (by decide +kernel : (parseMethodDescriptor yX9_product.desc).map (fun d => d.parameters.length) = some 0)⟩ ⟨Nat.le_refl _, by decide⟩ kx_100 rfl (fun q hq l => hg_product _  q hq l) rfl (Nat.le_of_ble_eq_true rfl) (fun q3 h => ?_)
  refine r_istore_n (L' := [(3, .int q3.1), (2, .int q1), (0, .ref (G.2 100)), (1, .int x1)]) (pc := 61) C dX9_sum_61 rfl (by decide) rfl ?_
  refine r_iload_n (pc := 62) C dX9_sum_62 rfl 1 rfl ?_
  refine r_bipush (v := (43:Int32)) (pc := 63) C dX9_sum_63 (by decide) ?_
  refine r_icmp_ne (pc := 65) C 74 dX9_sum_65 (by decide) h (fun h => ?_) (fun h => ?_)
  · refine r_iload_n (pc := 74) C dX9_sum_74 rfl 3 rfl ?_
    refine r_iload_n (pc := 75) C dX9_sum_75 rfl 0 rfl ?_
    refine r_isub (pc := 76) C dX9_sum_76 ?_
    exact r_sub C [2] rfl (b_X9_sum_77 hg_factor hg_product hg_sum hg_compared hg_both hg_whole C hrec5 h)
  · refine r_iload_n (pc := 68) C dX9_sum_68 rfl 3 rfl ?_
    refine r_iload_n (pc := 69) C dX9_sum_69 rfl 0 rfl ?_
    refine r_iadd (pc := 70) C dX9_sum_70 ?_
    refine r_goto (pc := 71) C 77 dX9_sum_71 (by decide) ?_
    exact r_sub C [2] rfl (b_X9_sum_77 hg_factor hg_product hg_sum hg_compared hg_both hg_whole C hrec5 h)
def fb_X9_sum_5 (g_factor : Wd → Option (Int32 × Wd)) (g_product : Wd → Option (Int32 × Wd)) (g_sum : Wd → Option (Int32 × Wd)) (g_compared : Wd → Option (Int32 × Wd)) (g_both : Wd → Option (Int32 × Wd)) (g_whole : Wd → Option (Int32 × Wd)) (rec5 : Int32 → Wd → Option (Int32 × Wd)) (x1 : Int32) (w : Wd) : Option (Int32 × Wd) := (if (w 100 14) = 0 then some (x1, w) else bd (f_X9_byteAt w (w 100 8)) (fun q1 => (if q1 = (43:Int32) then f_X9_sum_38 g_factor g_product g_sum g_compared g_both g_whole rec5 x1 w else bd (f_X9_byteAt w (w 100 8)) (fun q2 => (if ¬ q2 = (45:Int32) then some (x1, w) else f_X9_sum_38 g_factor g_product g_sum g_compared g_both g_whole rec5 x1 w)))))
set_option maxRecDepth 20000 in
theorem bb_X9_sum_5 {G : Gv} {V : Vt} {d : Nat} {g_factor : Wd → Option (Int32 × Wd)} {g_product : Wd → Option (Int32 × Wd)} {g_sum : Wd → Option (Int32 × Wd)} {g_compared : Wd → Option (Int32 × Wd)} {g_both : Wd → Option (Int32 × Wd)} {g_whole : Wd → Option (Int32 × Wd)} {rec5 : Int32 → Wd → Option (Int32 × Wd)} {res : Int32 × Wd} (hg_factor : ∀ (w : Wd) (r : Int32 × Wd), g_factor w = some r → ∀ l : Launch, MC l yX9_factor cX9_factor 3 (some FieldType.int) (4 + d) G SM w [.ref (G.2 100)] (some (.int r.1)) r.2) (hg_product : ∀ (w : Wd) (r : Int32 × Wd), g_product w = some r → ∀ l : Launch, MC l yX9_product cX9_product 4 (some FieldType.int) (4 + d) G SM w [.ref (G.2 100)] (some (.int r.1)) r.2) (hg_sum : ∀ (w : Wd) (r : Int32 × Wd), g_sum w = some r → ∀ l : Launch, MC l yX9_sum cX9_sum 4 (some FieldType.int) (4 + d) G SM w [.ref (G.2 100)] (some (.int r.1)) r.2) (hg_compared : ∀ (w : Wd) (r : Int32 × Wd), g_compared w = some r → ∀ l : Launch, MC l yX9_compared cX9_compared 5 (some FieldType.int) (4 + d) G SM w [.ref (G.2 100)] (some (.int r.1)) r.2) (hg_both : ∀ (w : Wd) (r : Int32 × Wd), g_both w = some r → ∀ l : Launch, MC l yX9_both cX9_both 3 (some FieldType.int) (4 + d) G SM w [.ref (G.2 100)] (some (.int r.1)) r.2) (hg_whole : ∀ (w : Wd) (r : Int32 × Wd), g_whole w = some r → ∀ l : Launch, MC l yX9_whole cX9_whole 3 (some FieldType.int) (4 + d) G SM w [.ref (G.2 100)] (some (.int r.1)) r.2) (C : CX cX9_sum RX9 G SM 4 (4 + d + 1) (some FieldType.int) (some (.int res.1)) res.2 V) (hrec5 : ∀ (x1 : Int32) (w : Wd), rec5 x1 w = some res → V w 5 [(0, .ref (G.2 100)), (1, .int x1)] []) {x1 : Int32} {w : Wd} (h : fb_X9_sum_5 g_factor g_product g_sum g_compared g_both g_whole rec5 x1 w = some res) : V w 5 [(0, .ref (G.2 100)), (1, .int x1)] [] := by
  unfold fb_X9_sum_5 at h
  refine r_aload_n (pc := 5) C dX9_sum_5 rfl 0 rfl ?_
  refine gi_X9_120 (pc := 6) C dX9_sum_6 kx_100 rfl ?_
  refine r_if_eq (pc := 9) C 81 dX9_sum_9 (by decide) h (fun h => ?_) (fun h => ?_)
  · refine r_iload_n (pc := 81) C dX9_sum_81 rfl 1 rfl ?_
    exact r_iretE (pc := 82) C dX9_sum_82 h
  · refine r_aload_n (pc := 12) C dX9_sum_12 rfl 0 rfl ?_
    refine r_aload_n (pc := 13) C dX9_sum_13 rfl 0 rfl ?_
    refine gi_X9_124 (pc := 14) C dX9_sum_14 kx_100 rfl ?_
    refine cv_X9_127 (pc := 17) C dX9_sum_17  h (by omega) (Nat.le_of_ble_eq_true rfl) (fun q1 h => ?_)
    refine r_bipush (v := (43:Int32)) (pc := 20) C dX9_sum_20 (by decide) ?_
    refine r_icmp_eq (pc := 22) C 38 dX9_sum_22 (by decide) h (fun h => ?_) (fun h => ?_)
    · exact r_sub C [0, 1] rfl (b_X9_sum_38 hg_factor hg_product hg_sum hg_compared hg_both hg_whole C hrec5 h)
    · refine r_aload_n (pc := 25) C dX9_sum_25 rfl 0 rfl ?_
      refine r_aload_n (pc := 26) C dX9_sum_26 rfl 0 rfl ?_
      refine gi_X9_124 (pc := 27) C dX9_sum_27 kx_100 rfl ?_
      refine cv_X9_127 (pc := 30) C dX9_sum_30  h (by omega) (Nat.le_of_ble_eq_true rfl) (fun q2 h => ?_)
      refine r_bipush (v := (45:Int32)) (pc := 33) C dX9_sum_33 (by decide) ?_
      refine r_icmp_ne (pc := 35) C 81 dX9_sum_35 (by decide) h (fun h => ?_) (fun h => ?_)
      · refine r_iload_n (pc := 81) C dX9_sum_81 rfl 1 rfl ?_
        exact r_iretE (pc := 82) C dX9_sum_82 h
      · exact r_sub C [0, 1] rfl (b_X9_sum_38 hg_factor hg_product hg_sum hg_compared hg_both hg_whole C hrec5 h)
def f_X9_sum_5 (g_factor : Wd → Option (Int32 × Wd)) (g_product : Wd → Option (Int32 × Wd)) (g_sum : Wd → Option (Int32 × Wd)) (g_compared : Wd → Option (Int32 × Wd)) (g_both : Wd → Option (Int32 × Wd)) (g_whole : Wd → Option (Int32 × Wd)) : Int32 → Wd → Option (Int32 × Wd) := lp (fun _ _ => none) (fun rec => fb_X9_sum_5 g_factor g_product g_sum g_compared g_both g_whole rec) FU
theorem b_X9_sum_5 {G : Gv} {V : Vt} {d : Nat} {g_factor : Wd → Option (Int32 × Wd)} {g_product : Wd → Option (Int32 × Wd)} {g_sum : Wd → Option (Int32 × Wd)} {g_compared : Wd → Option (Int32 × Wd)} {g_both : Wd → Option (Int32 × Wd)} {g_whole : Wd → Option (Int32 × Wd)} {res : Int32 × Wd} (hg_factor : ∀ (w : Wd) (r : Int32 × Wd), g_factor w = some r → ∀ l : Launch, MC l yX9_factor cX9_factor 3 (some FieldType.int) (4 + d) G SM w [.ref (G.2 100)] (some (.int r.1)) r.2) (hg_product : ∀ (w : Wd) (r : Int32 × Wd), g_product w = some r → ∀ l : Launch, MC l yX9_product cX9_product 4 (some FieldType.int) (4 + d) G SM w [.ref (G.2 100)] (some (.int r.1)) r.2) (hg_sum : ∀ (w : Wd) (r : Int32 × Wd), g_sum w = some r → ∀ l : Launch, MC l yX9_sum cX9_sum 4 (some FieldType.int) (4 + d) G SM w [.ref (G.2 100)] (some (.int r.1)) r.2) (hg_compared : ∀ (w : Wd) (r : Int32 × Wd), g_compared w = some r → ∀ l : Launch, MC l yX9_compared cX9_compared 5 (some FieldType.int) (4 + d) G SM w [.ref (G.2 100)] (some (.int r.1)) r.2) (hg_both : ∀ (w : Wd) (r : Int32 × Wd), g_both w = some r → ∀ l : Launch, MC l yX9_both cX9_both 3 (some FieldType.int) (4 + d) G SM w [.ref (G.2 100)] (some (.int r.1)) r.2) (hg_whole : ∀ (w : Wd) (r : Int32 × Wd), g_whole w = some r → ∀ l : Launch, MC l yX9_whole cX9_whole 3 (some FieldType.int) (4 + d) G SM w [.ref (G.2 100)] (some (.int r.1)) r.2) (C : CX cX9_sum RX9 G SM 4 (4 + d + 1) (some FieldType.int) (some (.int res.1)) res.2 V) : ∀ (x1 : Int32) (w : Wd), (f_X9_sum_5 g_factor g_product g_sum g_compared g_both g_whole) x1 w = some res → V w 5 [(0, .ref (G.2 100)), (1, .int x1)] [] :=
  lp_ind (P := fun (g : Int32 → Wd → Option (Int32 × Wd)) => ∀ (x1 : Int32) (w : Wd), g x1 w = some res → V w 5 [(0, .ref (G.2 100)), (1, .int x1)] []) (fun _ _ h => by cases h) (fun g hg _ _ h => bb_X9_sum_5 hg_factor hg_product hg_sum hg_compared hg_both hg_whole C hg h) FU
def fg_X9_sum (g_factor : Wd → Option (Int32 × Wd)) (g_product : Wd → Option (Int32 × Wd)) (g_sum : Wd → Option (Int32 × Wd)) (g_compared : Wd → Option (Int32 × Wd)) (g_both : Wd → Option (Int32 × Wd)) (g_whole : Wd → Option (Int32 × Wd)) (w : Wd) : Option (Int32 × Wd) := bd (g_product w) (fun q1 => f_X9_sum_5 g_factor g_product g_sum g_compared g_both g_whole q1.1 q1.2)
set_option maxRecDepth 20000 in
theorem b_X9_sum_E {G : Gv} {V : Vt} {d : Nat} {g_factor : Wd → Option (Int32 × Wd)} {g_product : Wd → Option (Int32 × Wd)} {g_sum : Wd → Option (Int32 × Wd)} {g_compared : Wd → Option (Int32 × Wd)} {g_both : Wd → Option (Int32 × Wd)} {g_whole : Wd → Option (Int32 × Wd)} {res : Int32 × Wd} (hg_factor : ∀ (w : Wd) (r : Int32 × Wd), g_factor w = some r → ∀ l : Launch, MC l yX9_factor cX9_factor 3 (some FieldType.int) (4 + d) G SM w [.ref (G.2 100)] (some (.int r.1)) r.2) (hg_product : ∀ (w : Wd) (r : Int32 × Wd), g_product w = some r → ∀ l : Launch, MC l yX9_product cX9_product 4 (some FieldType.int) (4 + d) G SM w [.ref (G.2 100)] (some (.int r.1)) r.2) (hg_sum : ∀ (w : Wd) (r : Int32 × Wd), g_sum w = some r → ∀ l : Launch, MC l yX9_sum cX9_sum 4 (some FieldType.int) (4 + d) G SM w [.ref (G.2 100)] (some (.int r.1)) r.2) (hg_compared : ∀ (w : Wd) (r : Int32 × Wd), g_compared w = some r → ∀ l : Launch, MC l yX9_compared cX9_compared 5 (some FieldType.int) (4 + d) G SM w [.ref (G.2 100)] (some (.int r.1)) r.2) (hg_both : ∀ (w : Wd) (r : Int32 × Wd), g_both w = some r → ∀ l : Launch, MC l yX9_both cX9_both 3 (some FieldType.int) (4 + d) G SM w [.ref (G.2 100)] (some (.int r.1)) r.2) (hg_whole : ∀ (w : Wd) (r : Int32 × Wd), g_whole w = some r → ∀ l : Launch, MC l yX9_whole cX9_whole 3 (some FieldType.int) (4 + d) G SM w [.ref (G.2 100)] (some (.int r.1)) r.2) (C : CX cX9_sum RX9 G SM 4 (4 + d + 1) (some FieldType.int) (some (.int res.1)) res.2 V) {w : Wd} (h : fg_X9_sum g_factor g_product g_sum g_compared g_both g_whole w = some res) : V w 0 [(0, .ref (G.2 100))] [] := by
  unfold fg_X9_sum at h
  refine r_aload_n (pc := 0) C dX9_sum_0 rfl 0 rfl ?_
  refine r_callV (As := []) (rest := []) (rvf := fun q => (some (.int q.1))) (wf := fun q => q.2) (pc := 1) C dX9_sum_1 h ql_X9_161 qi_X9_product qs_X9_product qn_X9 qc_X9_product ⟨rfl, by decide +kernel, by decide +kernel, (by decide +kernel : (parseMethodDescriptor yX9_product.desc).map (fun d => d.parameters.length) = some 0)⟩ ⟨Nat.le_refl _, by decide⟩ kx_100 rfl (fun q hq l => hg_product _  q hq l) rfl (Nat.le_of_ble_eq_true rfl) (fun q1 h => ?_)
  refine r_istore_n (L' := [(1, .int q1.1), (0, .ref (G.2 100))]) (pc := 4) C dX9_sum_4 rfl (by decide) rfl ?_
  exact r_sub C [1, 0] rfl (b_X9_sum_5 hg_factor hg_product hg_sum hg_compared hg_both hg_whole C _ _ h)
def f_X9_compared_108 (g_factor : Wd → Option (Int32 × Wd)) (g_product : Wd → Option (Int32 × Wd)) (g_sum : Wd → Option (Int32 × Wd)) (g_compared : Wd → Option (Int32 × Wd)) (g_both : Wd → Option (Int32 × Wd)) (g_whole : Wd → Option (Int32 × Wd)) (t0 : Int32) (w : Wd) : Option (Int32 × Wd) := (if t0 = 0 then some ((0:Int32), w) else some ((1:Int32), w))
set_option maxRecDepth 20000 in
theorem b_X9_compared_108 {G : Gv} {V : Vt} {d : Nat} {g_factor : Wd → Option (Int32 × Wd)} {g_product : Wd → Option (Int32 × Wd)} {g_sum : Wd → Option (Int32 × Wd)} {g_compared : Wd → Option (Int32 × Wd)} {g_both : Wd → Option (Int32 × Wd)} {g_whole : Wd → Option (Int32 × Wd)} {res : Int32 × Wd} (hg_factor : ∀ (w : Wd) (r : Int32 × Wd), g_factor w = some r → ∀ l : Launch, MC l yX9_factor cX9_factor 3 (some FieldType.int) (4 + d) G SM w [.ref (G.2 100)] (some (.int r.1)) r.2) (hg_product : ∀ (w : Wd) (r : Int32 × Wd), g_product w = some r → ∀ l : Launch, MC l yX9_product cX9_product 4 (some FieldType.int) (4 + d) G SM w [.ref (G.2 100)] (some (.int r.1)) r.2) (hg_sum : ∀ (w : Wd) (r : Int32 × Wd), g_sum w = some r → ∀ l : Launch, MC l yX9_sum cX9_sum 4 (some FieldType.int) (4 + d) G SM w [.ref (G.2 100)] (some (.int r.1)) r.2) (hg_compared : ∀ (w : Wd) (r : Int32 × Wd), g_compared w = some r → ∀ l : Launch, MC l yX9_compared cX9_compared 5 (some FieldType.int) (4 + d) G SM w [.ref (G.2 100)] (some (.int r.1)) r.2) (hg_both : ∀ (w : Wd) (r : Int32 × Wd), g_both w = some r → ∀ l : Launch, MC l yX9_both cX9_both 3 (some FieldType.int) (4 + d) G SM w [.ref (G.2 100)] (some (.int r.1)) r.2) (hg_whole : ∀ (w : Wd) (r : Int32 × Wd), g_whole w = some r → ∀ l : Launch, MC l yX9_whole cX9_whole 3 (some FieldType.int) (4 + d) G SM w [.ref (G.2 100)] (some (.int r.1)) r.2) (C : CX cX9_compared RX9 G SM 5 (4 + d + 1) (some FieldType.int) (some (.int res.1)) res.2 V) {t0 : Int32} {w : Wd} (h : f_X9_compared_108 g_factor g_product g_sum g_compared g_both g_whole t0 w = some res) : V w 108 [] [.int t0] := by
  unfold f_X9_compared_108 at h
  refine r_istore (L' := [(4, .int t0)]) (pc := 108) C dX9_compared_108 (by decide) rfl ?_
  refine r_iload (pc := 110) C dX9_compared_110 0 rfl ?_
  refine r_if_eq (pc := 112) C 119 dX9_compared_112 (by decide) h (fun h => ?_) (fun h => ?_)
  · refine r_iconst (v := (0:Int32)) (pc := 119) C dX9_compared_119 (by decide) ?_
    exact r_iretE (pc := 120) C dX9_compared_120 h
  · refine r_iconst (v := (1:Int32)) (pc := 115) C dX9_compared_115 (by decide) ?_
    refine r_goto (pc := 116) C 120 dX9_compared_116 (by decide) ?_
    exact r_iretE (pc := 120) C dX9_compared_120 h
def f_X9_compared_45 (g_factor : Wd → Option (Int32 × Wd)) (g_product : Wd → Option (Int32 × Wd)) (g_sum : Wd → Option (Int32 × Wd)) (g_compared : Wd → Option (Int32 × Wd)) (g_both : Wd → Option (Int32 × Wd)) (g_whole : Wd → Option (Int32 × Wd)) (x1 : Int32) (x2 : Int32) (w : Wd) : Option (Int32 × Wd) := wl (updW w 100 8 ((w 100 8) + (1:Int32))) (fun w1 => bd (g_sum w1) (fun q2 => (if ¬ x2 = (60:Int32) then (if ¬ x2 = (61:Int32) then (if x1 ≤ q2.1 then f_X9_compared_108 g_factor g_product g_sum g_compared g_both g_whole (0:Int32) q2.2 else f_X9_compared_108 g_factor g_product g_sum g_compared g_both g_whole (1:Int32) q2.2) else (if ¬ x1 = q2.1 then f_X9_compared_108 g_factor g_product g_sum g_compared g_both g_whole (0:Int32) q2.2 else f_X9_compared_108 g_factor g_product g_sum g_compared g_both g_whole (1:Int32) q2.2)) else (if q2.1 ≤ x1 then f_X9_compared_108 g_factor g_product g_sum g_compared g_both g_whole (0:Int32) q2.2 else f_X9_compared_108 g_factor g_product g_sum g_compared g_both g_whole (1:Int32) q2.2))))
set_option maxRecDepth 20000 in
theorem b_X9_compared_45 {G : Gv} {V : Vt} {d : Nat} {g_factor : Wd → Option (Int32 × Wd)} {g_product : Wd → Option (Int32 × Wd)} {g_sum : Wd → Option (Int32 × Wd)} {g_compared : Wd → Option (Int32 × Wd)} {g_both : Wd → Option (Int32 × Wd)} {g_whole : Wd → Option (Int32 × Wd)} {res : Int32 × Wd} (hg_factor : ∀ (w : Wd) (r : Int32 × Wd), g_factor w = some r → ∀ l : Launch, MC l yX9_factor cX9_factor 3 (some FieldType.int) (4 + d) G SM w [.ref (G.2 100)] (some (.int r.1)) r.2) (hg_product : ∀ (w : Wd) (r : Int32 × Wd), g_product w = some r → ∀ l : Launch, MC l yX9_product cX9_product 4 (some FieldType.int) (4 + d) G SM w [.ref (G.2 100)] (some (.int r.1)) r.2) (hg_sum : ∀ (w : Wd) (r : Int32 × Wd), g_sum w = some r → ∀ l : Launch, MC l yX9_sum cX9_sum 4 (some FieldType.int) (4 + d) G SM w [.ref (G.2 100)] (some (.int r.1)) r.2) (hg_compared : ∀ (w : Wd) (r : Int32 × Wd), g_compared w = some r → ∀ l : Launch, MC l yX9_compared cX9_compared 5 (some FieldType.int) (4 + d) G SM w [.ref (G.2 100)] (some (.int r.1)) r.2) (hg_both : ∀ (w : Wd) (r : Int32 × Wd), g_both w = some r → ∀ l : Launch, MC l yX9_both cX9_both 3 (some FieldType.int) (4 + d) G SM w [.ref (G.2 100)] (some (.int r.1)) r.2) (hg_whole : ∀ (w : Wd) (r : Int32 × Wd), g_whole w = some r → ∀ l : Launch, MC l yX9_whole cX9_whole 3 (some FieldType.int) (4 + d) G SM w [.ref (G.2 100)] (some (.int r.1)) r.2) (C : CX cX9_compared RX9 G SM 5 (4 + d + 1) (some FieldType.int) (some (.int res.1)) res.2 V) {x1 : Int32} {x2 : Int32} {w : Wd} (h : f_X9_compared_45 g_factor g_product g_sum g_compared g_both g_whole x1 x2 w = some res) : V w 45 [(0, .ref (G.2 100)), (1, .int x1), (2, .int x2)] [] := by
  unfold f_X9_compared_45 at h
  refine r_aload_n (pc := 45) C dX9_compared_45 rfl 0 rfl ?_
  refine r_dup (pc := 46) C dX9_compared_46 rfl ?_
  refine gi_X9_124 (pc := 47) C dX9_compared_47 kx_100 rfl ?_
  refine r_iconst (v := (1:Int32)) (pc := 50) C dX9_compared_50 (by decide) ?_
  refine r_iadd (pc := 51) C dX9_compared_51 ?_
  refine pi_X9_124 (pc := 52) C dX9_compared_52 kx_100 rfl h (fun w1 h => ?_)
  refine r_aload_n (pc := 55) C dX9_compared_55 rfl 0 rfl ?_
  refine r_callV (As := []) (rest := []) (rvf := fun q => (some (.int q.1))) (wf := fun q => q.2) (pc := 56) C dX9_compared_56 h ql_X9_164 qi_X9_sum qs_X9_sum qn_X9 qc_X9_sum ⟨rfl, by decide +kernel, by decide +kernel, (by decide +kernel : (parseMethodDescriptor yX9_sum.desc).map (fun d => d.parameters.length) = some 0)⟩ ⟨Nat.le_refl _, by decide⟩ kx_100 rfl (fun q hq l => hg_sum _  q hq l) rfl (Nat.le_of_ble_eq_true rfl) (fun q2 h => ?_)
  refine r_istore_n (L' := [(3, .int q2.1), (0, .ref (G.2 100)), (1, .int x1), (2, .int x2)]) (pc := 59) C dX9_compared_59 rfl (by decide) rfl ?_
  refine r_iload_n (pc := 60) C dX9_compared_60 rfl 3 rfl ?_
  refine r_bipush (v := (60:Int32)) (pc := 61) C dX9_compared_61 (by decide) ?_
  refine r_icmp_ne (pc := 63) C 79 dX9_compared_63 (by decide) h (fun h => ?_) (fun h => ?_)
  · refine r_iload_n (pc := 79) C dX9_compared_79 rfl 3 rfl ?_
    refine r_bipush (v := (61:Int32)) (pc := 80) C dX9_compared_80 (by decide) ?_
    refine r_icmp_ne (pc := 82) C 98 dX9_compared_82 (by decide) h (fun h => ?_) (fun h => ?_)
    · refine r_iload_n (pc := 98) C dX9_compared_98 rfl 2 rfl ?_
      refine r_iload_n (pc := 99) C dX9_compared_99 rfl 0 rfl ?_
      refine r_icmp_le (pc := 100) C 107 dX9_compared_100 (by decide) h (fun h => ?_) (fun h => ?_)
      · refine r_iconst (v := (0:Int32)) (pc := 107) C dX9_compared_107 (by decide) ?_
        exact r_sub C [] rfl (b_X9_compared_108 hg_factor hg_product hg_sum hg_compared hg_both hg_whole C h)
      · refine r_iconst (v := (1:Int32)) (pc := 103) C dX9_compared_103 (by decide) ?_
        refine r_goto (pc := 104) C 108 dX9_compared_104 (by decide) ?_
        exact r_sub C [] rfl (b_X9_compared_108 hg_factor hg_product hg_sum hg_compared hg_both hg_whole C h)
    · refine r_iload_n (pc := 85) C dX9_compared_85 rfl 2 rfl ?_
      refine r_iload_n (pc := 86) C dX9_compared_86 rfl 0 rfl ?_
      refine r_icmp_ne (pc := 87) C 94 dX9_compared_87 (by decide) h (fun h => ?_) (fun h => ?_)
      · refine r_iconst (v := (0:Int32)) (pc := 94) C dX9_compared_94 (by decide) ?_
        refine r_goto (pc := 95) C 108 dX9_compared_95 (by decide) ?_
        exact r_sub C [] rfl (b_X9_compared_108 hg_factor hg_product hg_sum hg_compared hg_both hg_whole C h)
      · refine r_iconst (v := (1:Int32)) (pc := 90) C dX9_compared_90 (by decide) ?_
        refine r_goto (pc := 91) C 108 dX9_compared_91 (by decide) ?_
        exact r_sub C [] rfl (b_X9_compared_108 hg_factor hg_product hg_sum hg_compared hg_both hg_whole C h)
  · refine r_iload_n (pc := 66) C dX9_compared_66 rfl 2 rfl ?_
    refine r_iload_n (pc := 67) C dX9_compared_67 rfl 0 rfl ?_
    refine r_icmp_ge (pc := 68) C 75 dX9_compared_68 (by decide) h (fun h => ?_) (fun h => ?_)
    · refine r_iconst (v := (0:Int32)) (pc := 75) C dX9_compared_75 (by decide) ?_
      refine r_goto (pc := 76) C 108 dX9_compared_76 (by decide) ?_
      exact r_sub C [] rfl (b_X9_compared_108 hg_factor hg_product hg_sum hg_compared hg_both hg_whole C h)
    · refine r_iconst (v := (1:Int32)) (pc := 71) C dX9_compared_71 (by decide) ?_
      refine r_goto (pc := 72) C 108 dX9_compared_72 (by decide) ?_
      exact r_sub C [] rfl (b_X9_compared_108 hg_factor hg_product hg_sum hg_compared hg_both hg_whole C h)
def f_X9_compared_24 (g_factor : Wd → Option (Int32 × Wd)) (g_product : Wd → Option (Int32 × Wd)) (g_sum : Wd → Option (Int32 × Wd)) (g_compared : Wd → Option (Int32 × Wd)) (g_both : Wd → Option (Int32 × Wd)) (g_whole : Wd → Option (Int32 × Wd)) (x1 : Int32) (t0 : Int32) (w : Wd) : Option (Int32 × Wd) := (if t0 = (60:Int32) then f_X9_compared_45 g_factor g_product g_sum g_compared g_both g_whole x1 t0 w else (if t0 = (61:Int32) then f_X9_compared_45 g_factor g_product g_sum g_compared g_both g_whole x1 t0 w else (if t0 = (62:Int32) then f_X9_compared_45 g_factor g_product g_sum g_compared g_both g_whole x1 t0 w else some (x1, w))))
set_option maxRecDepth 20000 in
theorem b_X9_compared_24 {G : Gv} {V : Vt} {d : Nat} {g_factor : Wd → Option (Int32 × Wd)} {g_product : Wd → Option (Int32 × Wd)} {g_sum : Wd → Option (Int32 × Wd)} {g_compared : Wd → Option (Int32 × Wd)} {g_both : Wd → Option (Int32 × Wd)} {g_whole : Wd → Option (Int32 × Wd)} {res : Int32 × Wd} (hg_factor : ∀ (w : Wd) (r : Int32 × Wd), g_factor w = some r → ∀ l : Launch, MC l yX9_factor cX9_factor 3 (some FieldType.int) (4 + d) G SM w [.ref (G.2 100)] (some (.int r.1)) r.2) (hg_product : ∀ (w : Wd) (r : Int32 × Wd), g_product w = some r → ∀ l : Launch, MC l yX9_product cX9_product 4 (some FieldType.int) (4 + d) G SM w [.ref (G.2 100)] (some (.int r.1)) r.2) (hg_sum : ∀ (w : Wd) (r : Int32 × Wd), g_sum w = some r → ∀ l : Launch, MC l yX9_sum cX9_sum 4 (some FieldType.int) (4 + d) G SM w [.ref (G.2 100)] (some (.int r.1)) r.2) (hg_compared : ∀ (w : Wd) (r : Int32 × Wd), g_compared w = some r → ∀ l : Launch, MC l yX9_compared cX9_compared 5 (some FieldType.int) (4 + d) G SM w [.ref (G.2 100)] (some (.int r.1)) r.2) (hg_both : ∀ (w : Wd) (r : Int32 × Wd), g_both w = some r → ∀ l : Launch, MC l yX9_both cX9_both 3 (some FieldType.int) (4 + d) G SM w [.ref (G.2 100)] (some (.int r.1)) r.2) (hg_whole : ∀ (w : Wd) (r : Int32 × Wd), g_whole w = some r → ∀ l : Launch, MC l yX9_whole cX9_whole 3 (some FieldType.int) (4 + d) G SM w [.ref (G.2 100)] (some (.int r.1)) r.2) (C : CX cX9_compared RX9 G SM 5 (4 + d + 1) (some FieldType.int) (some (.int res.1)) res.2 V) {x1 : Int32} {t0 : Int32} {w : Wd} (h : f_X9_compared_24 g_factor g_product g_sum g_compared g_both g_whole x1 t0 w = some res) : V w 24 [(0, .ref (G.2 100)), (1, .int x1)] [.int t0] := by
  unfold f_X9_compared_24 at h
  refine r_istore_n (L' := [(2, .int t0), (0, .ref (G.2 100)), (1, .int x1)]) (pc := 24) C dX9_compared_24 rfl (by decide) rfl ?_
  refine r_iload_n (pc := 25) C dX9_compared_25 rfl 0 rfl ?_
  refine r_bipush (v := (60:Int32)) (pc := 26) C dX9_compared_26 (by decide) ?_
  refine r_icmp_eq (pc := 28) C 45 dX9_compared_28 (by decide) h (fun h => ?_) (fun h => ?_)
  · exact r_sub C [1, 2, 0] rfl (b_X9_compared_45 hg_factor hg_product hg_sum hg_compared hg_both hg_whole C h)
  · refine r_iload_n (pc := 31) C dX9_compared_31 rfl 0 rfl ?_
    refine r_bipush (v := (61:Int32)) (pc := 32) C dX9_compared_32 (by decide) ?_
    refine r_icmp_eq (pc := 34) C 45 dX9_compared_34 (by decide) h (fun h => ?_) (fun h => ?_)
    · exact r_sub C [1, 2, 0] rfl (b_X9_compared_45 hg_factor hg_product hg_sum hg_compared hg_both hg_whole C h)
    · refine r_iload_n (pc := 37) C dX9_compared_37 rfl 0 rfl ?_
      refine r_bipush (v := (62:Int32)) (pc := 38) C dX9_compared_38 (by decide) ?_
      refine r_icmp_eq (pc := 40) C 45 dX9_compared_40 (by decide) h (fun h => ?_) (fun h => ?_)
      · exact r_sub C [1, 2, 0] rfl (b_X9_compared_45 hg_factor hg_product hg_sum hg_compared hg_both hg_whole C h)
      · refine r_iload_n (pc := 43) C dX9_compared_43 rfl 2 rfl ?_
        exact r_iretE (pc := 44) C dX9_compared_44 h
def fg_X9_compared (g_factor : Wd → Option (Int32 × Wd)) (g_product : Wd → Option (Int32 × Wd)) (g_sum : Wd → Option (Int32 × Wd)) (g_compared : Wd → Option (Int32 × Wd)) (g_both : Wd → Option (Int32 × Wd)) (g_whole : Wd → Option (Int32 × Wd)) (w : Wd) : Option (Int32 × Wd) := bd (g_sum w) (fun q1 => (if (q1.2 100 14) = 0 then f_X9_compared_24 g_factor g_product g_sum g_compared g_both g_whole q1.1 (-1:Int32) q1.2 else bd (f_X9_byteAt q1.2 (q1.2 100 8)) (fun q2 => f_X9_compared_24 g_factor g_product g_sum g_compared g_both g_whole q1.1 q2 q1.2)))
set_option maxRecDepth 20000 in
theorem b_X9_compared_E {G : Gv} {V : Vt} {d : Nat} {g_factor : Wd → Option (Int32 × Wd)} {g_product : Wd → Option (Int32 × Wd)} {g_sum : Wd → Option (Int32 × Wd)} {g_compared : Wd → Option (Int32 × Wd)} {g_both : Wd → Option (Int32 × Wd)} {g_whole : Wd → Option (Int32 × Wd)} {res : Int32 × Wd} (hg_factor : ∀ (w : Wd) (r : Int32 × Wd), g_factor w = some r → ∀ l : Launch, MC l yX9_factor cX9_factor 3 (some FieldType.int) (4 + d) G SM w [.ref (G.2 100)] (some (.int r.1)) r.2) (hg_product : ∀ (w : Wd) (r : Int32 × Wd), g_product w = some r → ∀ l : Launch, MC l yX9_product cX9_product 4 (some FieldType.int) (4 + d) G SM w [.ref (G.2 100)] (some (.int r.1)) r.2) (hg_sum : ∀ (w : Wd) (r : Int32 × Wd), g_sum w = some r → ∀ l : Launch, MC l yX9_sum cX9_sum 4 (some FieldType.int) (4 + d) G SM w [.ref (G.2 100)] (some (.int r.1)) r.2) (hg_compared : ∀ (w : Wd) (r : Int32 × Wd), g_compared w = some r → ∀ l : Launch, MC l yX9_compared cX9_compared 5 (some FieldType.int) (4 + d) G SM w [.ref (G.2 100)] (some (.int r.1)) r.2) (hg_both : ∀ (w : Wd) (r : Int32 × Wd), g_both w = some r → ∀ l : Launch, MC l yX9_both cX9_both 3 (some FieldType.int) (4 + d) G SM w [.ref (G.2 100)] (some (.int r.1)) r.2) (hg_whole : ∀ (w : Wd) (r : Int32 × Wd), g_whole w = some r → ∀ l : Launch, MC l yX9_whole cX9_whole 3 (some FieldType.int) (4 + d) G SM w [.ref (G.2 100)] (some (.int r.1)) r.2) (C : CX cX9_compared RX9 G SM 5 (4 + d + 1) (some FieldType.int) (some (.int res.1)) res.2 V) {w : Wd} (h : fg_X9_compared g_factor g_product g_sum g_compared g_both g_whole w = some res) : V w 0 [(0, .ref (G.2 100))] [] := by
  unfold fg_X9_compared at h
  refine r_aload_n (pc := 0) C dX9_compared_0 rfl 0 rfl ?_
  refine r_callV (As := []) (rest := []) (rvf := fun q => (some (.int q.1))) (wf := fun q => q.2) (pc := 1) C dX9_compared_1 h ql_X9_164 qi_X9_sum qs_X9_sum qn_X9 qc_X9_sum ⟨rfl, by decide +kernel, by decide +kernel, (by decide +kernel : (parseMethodDescriptor yX9_sum.desc).map (fun d => d.parameters.length) = some 0)⟩ ⟨Nat.le_refl _, by decide⟩ kx_100 rfl (fun q hq l => hg_sum _  q hq l) rfl (Nat.le_of_ble_eq_true rfl) (fun q1 h => ?_)
  refine r_istore_n (L' := [(1, .int q1.1), (0, .ref (G.2 100))]) (pc := 4) C dX9_compared_4 rfl (by decide) rfl ?_
  refine r_aload_n (pc := 5) C dX9_compared_5 rfl 1 rfl ?_
  refine gi_X9_120 (pc := 6) C dX9_compared_6 kx_100 rfl ?_
  refine r_if_eq (pc := 9) C 23 dX9_compared_9 (by decide) h (fun h => ?_) (fun h => ?_)
  · refine r_iconst (v := (-1:Int32)) (pc := 23) C dX9_compared_23 (by decide) ?_
    exact r_sub C [1, 0] rfl (b_X9_compared_24 hg_factor hg_product hg_sum hg_compared hg_both hg_whole C h)
  · refine r_aload_n (pc := 12) C dX9_compared_12 rfl 1 rfl ?_
    refine r_aload_n (pc := 13) C dX9_compared_13 rfl 1 rfl ?_
    refine gi_X9_124 (pc := 14) C dX9_compared_14 kx_100 rfl ?_
    refine cv_X9_127 (pc := 17) C dX9_compared_17  h (by omega) (Nat.le_of_ble_eq_true rfl) (fun q2 h => ?_)
    refine r_goto (pc := 20) C 24 dX9_compared_20 (by decide) ?_
    exact r_sub C [1, 0] rfl (b_X9_compared_24 hg_factor hg_product hg_sum hg_compared hg_both hg_whole C h)
def f_X9_both_53 (g_factor : Wd → Option (Int32 × Wd)) (g_product : Wd → Option (Int32 × Wd)) (g_sum : Wd → Option (Int32 × Wd)) (g_compared : Wd → Option (Int32 × Wd)) (g_both : Wd → Option (Int32 × Wd)) (g_whole : Wd → Option (Int32 × Wd)) (rec5 : Int32 → Wd → Option (Int32 × Wd)) (t0 : Int32) (w : Wd) : Option (Int32 × Wd) := rec5 t0 w
set_option maxRecDepth 20000 in
theorem b_X9_both_53 {G : Gv} {V : Vt} {d : Nat} {g_factor : Wd → Option (Int32 × Wd)} {g_product : Wd → Option (Int32 × Wd)} {g_sum : Wd → Option (Int32 × Wd)} {g_compared : Wd → Option (Int32 × Wd)} {g_both : Wd → Option (Int32 × Wd)} {g_whole : Wd → Option (Int32 × Wd)} {rec5 : Int32 → Wd → Option (Int32 × Wd)} {res : Int32 × Wd} (hg_factor : ∀ (w : Wd) (r : Int32 × Wd), g_factor w = some r → ∀ l : Launch, MC l yX9_factor cX9_factor 3 (some FieldType.int) (4 + d) G SM w [.ref (G.2 100)] (some (.int r.1)) r.2) (hg_product : ∀ (w : Wd) (r : Int32 × Wd), g_product w = some r → ∀ l : Launch, MC l yX9_product cX9_product 4 (some FieldType.int) (4 + d) G SM w [.ref (G.2 100)] (some (.int r.1)) r.2) (hg_sum : ∀ (w : Wd) (r : Int32 × Wd), g_sum w = some r → ∀ l : Launch, MC l yX9_sum cX9_sum 4 (some FieldType.int) (4 + d) G SM w [.ref (G.2 100)] (some (.int r.1)) r.2) (hg_compared : ∀ (w : Wd) (r : Int32 × Wd), g_compared w = some r → ∀ l : Launch, MC l yX9_compared cX9_compared 5 (some FieldType.int) (4 + d) G SM w [.ref (G.2 100)] (some (.int r.1)) r.2) (hg_both : ∀ (w : Wd) (r : Int32 × Wd), g_both w = some r → ∀ l : Launch, MC l yX9_both cX9_both 3 (some FieldType.int) (4 + d) G SM w [.ref (G.2 100)] (some (.int r.1)) r.2) (hg_whole : ∀ (w : Wd) (r : Int32 × Wd), g_whole w = some r → ∀ l : Launch, MC l yX9_whole cX9_whole 3 (some FieldType.int) (4 + d) G SM w [.ref (G.2 100)] (some (.int r.1)) r.2) (C : CX cX9_both RX9 G SM 3 (4 + d + 1) (some FieldType.int) (some (.int res.1)) res.2 V) (hrec5 : ∀ (x1 : Int32) (w : Wd), rec5 x1 w = some res → V w 5 [(0, .ref (G.2 100)), (1, .int x1)] []) {t0 : Int32} {w : Wd} (h : f_X9_both_53 g_factor g_product g_sum g_compared g_both g_whole rec5 t0 w = some res) : V w 53 [(0, .ref (G.2 100))] [.int t0] := by
  unfold f_X9_both_53 at h
  refine r_istore_n (L' := [(1, .int t0), (0, .ref (G.2 100))]) (pc := 53) C dX9_both_53 rfl (by decide) rfl ?_
  refine r_goto (pc := 54) C 5 dX9_both_54 (by decide) ?_
  exact r_sub C [1, 0] rfl (hrec5 _ _ h)
def f_X9_both_52 (g_factor : Wd → Option (Int32 × Wd)) (g_product : Wd → Option (Int32 × Wd)) (g_sum : Wd → Option (Int32 × Wd)) (g_compared : Wd → Option (Int32 × Wd)) (g_both : Wd → Option (Int32 × Wd)) (g_whole : Wd → Option (Int32 × Wd)) (rec5 : Int32 → Wd → Option (Int32 × Wd)) (w : Wd) : Option (Int32 × Wd) := f_X9_both_53 g_factor g_product g_sum g_compared g_both g_whole rec5 (0:Int32) w
set_option maxRecDepth 20000 in
theorem b_X9_both_52 {G : Gv} {V : Vt} {d : Nat} {g_factor : Wd → Option (Int32 × Wd)} {g_product : Wd → Option (Int32 × Wd)} {g_sum : Wd → Option (Int32 × Wd)} {g_compared : Wd → Option (Int32 × Wd)} {g_both : Wd → Option (Int32 × Wd)} {g_whole : Wd → Option (Int32 × Wd)} {rec5 : Int32 → Wd → Option (Int32 × Wd)} {res : Int32 × Wd} (hg_factor : ∀ (w : Wd) (r : Int32 × Wd), g_factor w = some r → ∀ l : Launch, MC l yX9_factor cX9_factor 3 (some FieldType.int) (4 + d) G SM w [.ref (G.2 100)] (some (.int r.1)) r.2) (hg_product : ∀ (w : Wd) (r : Int32 × Wd), g_product w = some r → ∀ l : Launch, MC l yX9_product cX9_product 4 (some FieldType.int) (4 + d) G SM w [.ref (G.2 100)] (some (.int r.1)) r.2) (hg_sum : ∀ (w : Wd) (r : Int32 × Wd), g_sum w = some r → ∀ l : Launch, MC l yX9_sum cX9_sum 4 (some FieldType.int) (4 + d) G SM w [.ref (G.2 100)] (some (.int r.1)) r.2) (hg_compared : ∀ (w : Wd) (r : Int32 × Wd), g_compared w = some r → ∀ l : Launch, MC l yX9_compared cX9_compared 5 (some FieldType.int) (4 + d) G SM w [.ref (G.2 100)] (some (.int r.1)) r.2) (hg_both : ∀ (w : Wd) (r : Int32 × Wd), g_both w = some r → ∀ l : Launch, MC l yX9_both cX9_both 3 (some FieldType.int) (4 + d) G SM w [.ref (G.2 100)] (some (.int r.1)) r.2) (hg_whole : ∀ (w : Wd) (r : Int32 × Wd), g_whole w = some r → ∀ l : Launch, MC l yX9_whole cX9_whole 3 (some FieldType.int) (4 + d) G SM w [.ref (G.2 100)] (some (.int r.1)) r.2) (C : CX cX9_both RX9 G SM 3 (4 + d + 1) (some FieldType.int) (some (.int res.1)) res.2 V) (hrec5 : ∀ (x1 : Int32) (w : Wd), rec5 x1 w = some res → V w 5 [(0, .ref (G.2 100)), (1, .int x1)] []) {w : Wd} (h : f_X9_both_52 g_factor g_product g_sum g_compared g_both g_whole rec5 w = some res) : V w 52 [(0, .ref (G.2 100))] [] := by
  unfold f_X9_both_52 at h
  refine r_iconst (v := (0:Int32)) (pc := 52) C dX9_both_52 (by decide) ?_
  exact r_sub C [0] rfl (b_X9_both_53 hg_factor hg_product hg_sum hg_compared hg_both hg_whole C hrec5 h)
def fb_X9_both_5 (g_factor : Wd → Option (Int32 × Wd)) (g_product : Wd → Option (Int32 × Wd)) (g_sum : Wd → Option (Int32 × Wd)) (g_compared : Wd → Option (Int32 × Wd)) (g_both : Wd → Option (Int32 × Wd)) (g_whole : Wd → Option (Int32 × Wd)) (rec5 : Int32 → Wd → Option (Int32 × Wd)) (x1 : Int32) (w : Wd) : Option (Int32 × Wd) := (if (w 100 14) = 0 then some (x1, w) else bd (f_X9_byteAt w (w 100 8)) (fun q1 => (if ¬ q1 = (38:Int32) then some (x1, w) else wl (updW w 100 8 ((w 100 8) + (1:Int32))) (fun w2 => bd (g_compared w2) (fun q3 => (if x1 = 0 then f_X9_both_52 g_factor g_product g_sum g_compared g_both g_whole rec5 q3.2 else (if q3.1 = 0 then f_X9_both_52 g_factor g_product g_sum g_compared g_both g_whole rec5 q3.2 else f_X9_both_53 g_factor g_product g_sum g_compared g_both g_whole rec5 (1:Int32) q3.2)))))))
set_option maxRecDepth 20000 in
theorem bb_X9_both_5 {G : Gv} {V : Vt} {d : Nat} {g_factor : Wd → Option (Int32 × Wd)} {g_product : Wd → Option (Int32 × Wd)} {g_sum : Wd → Option (Int32 × Wd)} {g_compared : Wd → Option (Int32 × Wd)} {g_both : Wd → Option (Int32 × Wd)} {g_whole : Wd → Option (Int32 × Wd)} {rec5 : Int32 → Wd → Option (Int32 × Wd)} {res : Int32 × Wd} (hg_factor : ∀ (w : Wd) (r : Int32 × Wd), g_factor w = some r → ∀ l : Launch, MC l yX9_factor cX9_factor 3 (some FieldType.int) (4 + d) G SM w [.ref (G.2 100)] (some (.int r.1)) r.2) (hg_product : ∀ (w : Wd) (r : Int32 × Wd), g_product w = some r → ∀ l : Launch, MC l yX9_product cX9_product 4 (some FieldType.int) (4 + d) G SM w [.ref (G.2 100)] (some (.int r.1)) r.2) (hg_sum : ∀ (w : Wd) (r : Int32 × Wd), g_sum w = some r → ∀ l : Launch, MC l yX9_sum cX9_sum 4 (some FieldType.int) (4 + d) G SM w [.ref (G.2 100)] (some (.int r.1)) r.2) (hg_compared : ∀ (w : Wd) (r : Int32 × Wd), g_compared w = some r → ∀ l : Launch, MC l yX9_compared cX9_compared 5 (some FieldType.int) (4 + d) G SM w [.ref (G.2 100)] (some (.int r.1)) r.2) (hg_both : ∀ (w : Wd) (r : Int32 × Wd), g_both w = some r → ∀ l : Launch, MC l yX9_both cX9_both 3 (some FieldType.int) (4 + d) G SM w [.ref (G.2 100)] (some (.int r.1)) r.2) (hg_whole : ∀ (w : Wd) (r : Int32 × Wd), g_whole w = some r → ∀ l : Launch, MC l yX9_whole cX9_whole 3 (some FieldType.int) (4 + d) G SM w [.ref (G.2 100)] (some (.int r.1)) r.2) (C : CX cX9_both RX9 G SM 3 (4 + d + 1) (some FieldType.int) (some (.int res.1)) res.2 V) (hrec5 : ∀ (x1 : Int32) (w : Wd), rec5 x1 w = some res → V w 5 [(0, .ref (G.2 100)), (1, .int x1)] []) {x1 : Int32} {w : Wd} (h : fb_X9_both_5 g_factor g_product g_sum g_compared g_both g_whole rec5 x1 w = some res) : V w 5 [(0, .ref (G.2 100)), (1, .int x1)] [] := by
  unfold fb_X9_both_5 at h
  refine r_aload_n (pc := 5) C dX9_both_5 rfl 0 rfl ?_
  refine gi_X9_120 (pc := 6) C dX9_both_6 kx_100 rfl ?_
  refine r_if_eq (pc := 9) C 57 dX9_both_9 (by decide) h (fun h => ?_) (fun h => ?_)
  · refine r_iload_n (pc := 57) C dX9_both_57 rfl 1 rfl ?_
    exact r_iretE (pc := 58) C dX9_both_58 h
  · refine r_aload_n (pc := 12) C dX9_both_12 rfl 0 rfl ?_
    refine r_aload_n (pc := 13) C dX9_both_13 rfl 0 rfl ?_
    refine gi_X9_124 (pc := 14) C dX9_both_14 kx_100 rfl ?_
    refine cv_X9_127 (pc := 17) C dX9_both_17  h (by omega) (Nat.le_of_ble_eq_true rfl) (fun q1 h => ?_)
    refine r_bipush (v := (38:Int32)) (pc := 20) C dX9_both_20 (by decide) ?_
    refine r_icmp_ne (pc := 22) C 57 dX9_both_22 (by decide) h (fun h => ?_) (fun h => ?_)
    · refine r_iload_n (pc := 57) C dX9_both_57 rfl 1 rfl ?_
      exact r_iretE (pc := 58) C dX9_both_58 h
    · refine r_aload_n (pc := 25) C dX9_both_25 rfl 0 rfl ?_
      refine r_dup (pc := 26) C dX9_both_26 rfl ?_
      refine gi_X9_124 (pc := 27) C dX9_both_27 kx_100 rfl ?_
      refine r_iconst (v := (1:Int32)) (pc := 30) C dX9_both_30 (by decide) ?_
      refine r_iadd (pc := 31) C dX9_both_31 ?_
      refine pi_X9_124 (pc := 32) C dX9_both_32 kx_100 rfl h (fun w2 h => ?_)
      refine r_aload_n (pc := 35) C dX9_both_35 rfl 0 rfl ?_
      refine r_callV (As := []) (rest := []) (rvf := fun q => (some (.int q.1))) (wf := fun q => q.2) (pc := 36) C dX9_both_36 h ql_X9_167 qi_X9_compared qs_X9_compared qn_X9 qc_X9_compared ⟨rfl, by decide +kernel, by decide +kernel, (by decide +kernel : (parseMethodDescriptor yX9_compared.desc).map (fun d => d.parameters.length) = some 0)⟩ ⟨Nat.le_refl _, by decide⟩ kx_100 rfl (fun q hq l => hg_compared _  q hq l) rfl (Nat.le_of_ble_eq_true rfl) (fun q3 h => ?_)
      refine r_istore_n (L' := [(2, .int q3.1), (0, .ref (G.2 100)), (1, .int x1)]) (pc := 39) C dX9_both_39 rfl (by decide) rfl ?_
      refine r_iload_n (pc := 40) C dX9_both_40 rfl 2 rfl ?_
      refine r_if_eq (pc := 41) C 52 dX9_both_41 (by decide) h (fun h => ?_) (fun h => ?_)
      · exact r_sub C [1] rfl (b_X9_both_52 hg_factor hg_product hg_sum hg_compared hg_both hg_whole C hrec5 h)
      · refine r_iload_n (pc := 44) C dX9_both_44 rfl 0 rfl ?_
        refine r_if_eq (pc := 45) C 52 dX9_both_45 (by decide) h (fun h => ?_) (fun h => ?_)
        · exact r_sub C [1] rfl (b_X9_both_52 hg_factor hg_product hg_sum hg_compared hg_both hg_whole C hrec5 h)
        · refine r_iconst (v := (1:Int32)) (pc := 48) C dX9_both_48 (by decide) ?_
          refine r_goto (pc := 49) C 53 dX9_both_49 (by decide) ?_
          exact r_sub C [1] rfl (b_X9_both_53 hg_factor hg_product hg_sum hg_compared hg_both hg_whole C hrec5 h)
def f_X9_both_5 (g_factor : Wd → Option (Int32 × Wd)) (g_product : Wd → Option (Int32 × Wd)) (g_sum : Wd → Option (Int32 × Wd)) (g_compared : Wd → Option (Int32 × Wd)) (g_both : Wd → Option (Int32 × Wd)) (g_whole : Wd → Option (Int32 × Wd)) : Int32 → Wd → Option (Int32 × Wd) := lp (fun _ _ => none) (fun rec => fb_X9_both_5 g_factor g_product g_sum g_compared g_both g_whole rec) FU
theorem b_X9_both_5 {G : Gv} {V : Vt} {d : Nat} {g_factor : Wd → Option (Int32 × Wd)} {g_product : Wd → Option (Int32 × Wd)} {g_sum : Wd → Option (Int32 × Wd)} {g_compared : Wd → Option (Int32 × Wd)} {g_both : Wd → Option (Int32 × Wd)} {g_whole : Wd → Option (Int32 × Wd)} {res : Int32 × Wd} (hg_factor : ∀ (w : Wd) (r : Int32 × Wd), g_factor w = some r → ∀ l : Launch, MC l yX9_factor cX9_factor 3 (some FieldType.int) (4 + d) G SM w [.ref (G.2 100)] (some (.int r.1)) r.2) (hg_product : ∀ (w : Wd) (r : Int32 × Wd), g_product w = some r → ∀ l : Launch, MC l yX9_product cX9_product 4 (some FieldType.int) (4 + d) G SM w [.ref (G.2 100)] (some (.int r.1)) r.2) (hg_sum : ∀ (w : Wd) (r : Int32 × Wd), g_sum w = some r → ∀ l : Launch, MC l yX9_sum cX9_sum 4 (some FieldType.int) (4 + d) G SM w [.ref (G.2 100)] (some (.int r.1)) r.2) (hg_compared : ∀ (w : Wd) (r : Int32 × Wd), g_compared w = some r → ∀ l : Launch, MC l yX9_compared cX9_compared 5 (some FieldType.int) (4 + d) G SM w [.ref (G.2 100)] (some (.int r.1)) r.2) (hg_both : ∀ (w : Wd) (r : Int32 × Wd), g_both w = some r → ∀ l : Launch, MC l yX9_both cX9_both 3 (some FieldType.int) (4 + d) G SM w [.ref (G.2 100)] (some (.int r.1)) r.2) (hg_whole : ∀ (w : Wd) (r : Int32 × Wd), g_whole w = some r → ∀ l : Launch, MC l yX9_whole cX9_whole 3 (some FieldType.int) (4 + d) G SM w [.ref (G.2 100)] (some (.int r.1)) r.2) (C : CX cX9_both RX9 G SM 3 (4 + d + 1) (some FieldType.int) (some (.int res.1)) res.2 V) : ∀ (x1 : Int32) (w : Wd), (f_X9_both_5 g_factor g_product g_sum g_compared g_both g_whole) x1 w = some res → V w 5 [(0, .ref (G.2 100)), (1, .int x1)] [] :=
  lp_ind (P := fun (g : Int32 → Wd → Option (Int32 × Wd)) => ∀ (x1 : Int32) (w : Wd), g x1 w = some res → V w 5 [(0, .ref (G.2 100)), (1, .int x1)] []) (fun _ _ h => by cases h) (fun g hg _ _ h => bb_X9_both_5 hg_factor hg_product hg_sum hg_compared hg_both hg_whole C hg h) FU
def fg_X9_both (g_factor : Wd → Option (Int32 × Wd)) (g_product : Wd → Option (Int32 × Wd)) (g_sum : Wd → Option (Int32 × Wd)) (g_compared : Wd → Option (Int32 × Wd)) (g_both : Wd → Option (Int32 × Wd)) (g_whole : Wd → Option (Int32 × Wd)) (w : Wd) : Option (Int32 × Wd) := bd (g_compared w) (fun q1 => f_X9_both_5 g_factor g_product g_sum g_compared g_both g_whole q1.1 q1.2)
set_option maxRecDepth 20000 in
theorem b_X9_both_E {G : Gv} {V : Vt} {d : Nat} {g_factor : Wd → Option (Int32 × Wd)} {g_product : Wd → Option (Int32 × Wd)} {g_sum : Wd → Option (Int32 × Wd)} {g_compared : Wd → Option (Int32 × Wd)} {g_both : Wd → Option (Int32 × Wd)} {g_whole : Wd → Option (Int32 × Wd)} {res : Int32 × Wd} (hg_factor : ∀ (w : Wd) (r : Int32 × Wd), g_factor w = some r → ∀ l : Launch, MC l yX9_factor cX9_factor 3 (some FieldType.int) (4 + d) G SM w [.ref (G.2 100)] (some (.int r.1)) r.2) (hg_product : ∀ (w : Wd) (r : Int32 × Wd), g_product w = some r → ∀ l : Launch, MC l yX9_product cX9_product 4 (some FieldType.int) (4 + d) G SM w [.ref (G.2 100)] (some (.int r.1)) r.2) (hg_sum : ∀ (w : Wd) (r : Int32 × Wd), g_sum w = some r → ∀ l : Launch, MC l yX9_sum cX9_sum 4 (some FieldType.int) (4 + d) G SM w [.ref (G.2 100)] (some (.int r.1)) r.2) (hg_compared : ∀ (w : Wd) (r : Int32 × Wd), g_compared w = some r → ∀ l : Launch, MC l yX9_compared cX9_compared 5 (some FieldType.int) (4 + d) G SM w [.ref (G.2 100)] (some (.int r.1)) r.2) (hg_both : ∀ (w : Wd) (r : Int32 × Wd), g_both w = some r → ∀ l : Launch, MC l yX9_both cX9_both 3 (some FieldType.int) (4 + d) G SM w [.ref (G.2 100)] (some (.int r.1)) r.2) (hg_whole : ∀ (w : Wd) (r : Int32 × Wd), g_whole w = some r → ∀ l : Launch, MC l yX9_whole cX9_whole 3 (some FieldType.int) (4 + d) G SM w [.ref (G.2 100)] (some (.int r.1)) r.2) (C : CX cX9_both RX9 G SM 3 (4 + d + 1) (some FieldType.int) (some (.int res.1)) res.2 V) {w : Wd} (h : fg_X9_both g_factor g_product g_sum g_compared g_both g_whole w = some res) : V w 0 [(0, .ref (G.2 100))] [] := by
  unfold fg_X9_both at h
  refine r_aload_n (pc := 0) C dX9_both_0 rfl 0 rfl ?_
  refine r_callV (As := []) (rest := []) (rvf := fun q => (some (.int q.1))) (wf := fun q => q.2) (pc := 1) C dX9_both_1 h ql_X9_167 qi_X9_compared qs_X9_compared qn_X9 qc_X9_compared ⟨rfl, by decide +kernel, by decide +kernel, (by decide +kernel : (parseMethodDescriptor yX9_compared.desc).map (fun d => d.parameters.length) = some 0)⟩ ⟨Nat.le_refl _, by decide⟩ kx_100 rfl (fun q hq l => hg_compared _  q hq l) rfl (Nat.le_of_ble_eq_true rfl) (fun q1 h => ?_)
  refine r_istore_n (L' := [(1, .int q1.1), (0, .ref (G.2 100))]) (pc := 4) C dX9_both_4 rfl (by decide) rfl ?_
  exact r_sub C [1, 0] rfl (b_X9_both_5 hg_factor hg_product hg_sum hg_compared hg_both hg_whole C _ _ h)
def f_X9_whole_53 (g_factor : Wd → Option (Int32 × Wd)) (g_product : Wd → Option (Int32 × Wd)) (g_sum : Wd → Option (Int32 × Wd)) (g_compared : Wd → Option (Int32 × Wd)) (g_both : Wd → Option (Int32 × Wd)) (g_whole : Wd → Option (Int32 × Wd)) (rec5 : Int32 → Wd → Option (Int32 × Wd)) (t0 : Int32) (w : Wd) : Option (Int32 × Wd) := rec5 t0 w
set_option maxRecDepth 20000 in
theorem b_X9_whole_53 {G : Gv} {V : Vt} {d : Nat} {g_factor : Wd → Option (Int32 × Wd)} {g_product : Wd → Option (Int32 × Wd)} {g_sum : Wd → Option (Int32 × Wd)} {g_compared : Wd → Option (Int32 × Wd)} {g_both : Wd → Option (Int32 × Wd)} {g_whole : Wd → Option (Int32 × Wd)} {rec5 : Int32 → Wd → Option (Int32 × Wd)} {res : Int32 × Wd} (hg_factor : ∀ (w : Wd) (r : Int32 × Wd), g_factor w = some r → ∀ l : Launch, MC l yX9_factor cX9_factor 3 (some FieldType.int) (4 + d) G SM w [.ref (G.2 100)] (some (.int r.1)) r.2) (hg_product : ∀ (w : Wd) (r : Int32 × Wd), g_product w = some r → ∀ l : Launch, MC l yX9_product cX9_product 4 (some FieldType.int) (4 + d) G SM w [.ref (G.2 100)] (some (.int r.1)) r.2) (hg_sum : ∀ (w : Wd) (r : Int32 × Wd), g_sum w = some r → ∀ l : Launch, MC l yX9_sum cX9_sum 4 (some FieldType.int) (4 + d) G SM w [.ref (G.2 100)] (some (.int r.1)) r.2) (hg_compared : ∀ (w : Wd) (r : Int32 × Wd), g_compared w = some r → ∀ l : Launch, MC l yX9_compared cX9_compared 5 (some FieldType.int) (4 + d) G SM w [.ref (G.2 100)] (some (.int r.1)) r.2) (hg_both : ∀ (w : Wd) (r : Int32 × Wd), g_both w = some r → ∀ l : Launch, MC l yX9_both cX9_both 3 (some FieldType.int) (4 + d) G SM w [.ref (G.2 100)] (some (.int r.1)) r.2) (hg_whole : ∀ (w : Wd) (r : Int32 × Wd), g_whole w = some r → ∀ l : Launch, MC l yX9_whole cX9_whole 3 (some FieldType.int) (4 + d) G SM w [.ref (G.2 100)] (some (.int r.1)) r.2) (C : CX cX9_whole RX9 G SM 3 (4 + d + 1) (some FieldType.int) (some (.int res.1)) res.2 V) (hrec5 : ∀ (x1 : Int32) (w : Wd), rec5 x1 w = some res → V w 5 [(0, .ref (G.2 100)), (1, .int x1)] []) {t0 : Int32} {w : Wd} (h : f_X9_whole_53 g_factor g_product g_sum g_compared g_both g_whole rec5 t0 w = some res) : V w 53 [(0, .ref (G.2 100))] [.int t0] := by
  unfold f_X9_whole_53 at h
  refine r_istore_n (L' := [(1, .int t0), (0, .ref (G.2 100))]) (pc := 53) C dX9_whole_53 rfl (by decide) rfl ?_
  refine r_goto (pc := 54) C 5 dX9_whole_54 (by decide) ?_
  exact r_sub C [1, 0] rfl (hrec5 _ _ h)
def f_X9_whole_48 (g_factor : Wd → Option (Int32 × Wd)) (g_product : Wd → Option (Int32 × Wd)) (g_sum : Wd → Option (Int32 × Wd)) (g_compared : Wd → Option (Int32 × Wd)) (g_both : Wd → Option (Int32 × Wd)) (g_whole : Wd → Option (Int32 × Wd)) (rec5 : Int32 → Wd → Option (Int32 × Wd)) (w : Wd) : Option (Int32 × Wd) := f_X9_whole_53 g_factor g_product g_sum g_compared g_both g_whole rec5 (1:Int32) w
set_option maxRecDepth 20000 in
theorem b_X9_whole_48 {G : Gv} {V : Vt} {d : Nat} {g_factor : Wd → Option (Int32 × Wd)} {g_product : Wd → Option (Int32 × Wd)} {g_sum : Wd → Option (Int32 × Wd)} {g_compared : Wd → Option (Int32 × Wd)} {g_both : Wd → Option (Int32 × Wd)} {g_whole : Wd → Option (Int32 × Wd)} {rec5 : Int32 → Wd → Option (Int32 × Wd)} {res : Int32 × Wd} (hg_factor : ∀ (w : Wd) (r : Int32 × Wd), g_factor w = some r → ∀ l : Launch, MC l yX9_factor cX9_factor 3 (some FieldType.int) (4 + d) G SM w [.ref (G.2 100)] (some (.int r.1)) r.2) (hg_product : ∀ (w : Wd) (r : Int32 × Wd), g_product w = some r → ∀ l : Launch, MC l yX9_product cX9_product 4 (some FieldType.int) (4 + d) G SM w [.ref (G.2 100)] (some (.int r.1)) r.2) (hg_sum : ∀ (w : Wd) (r : Int32 × Wd), g_sum w = some r → ∀ l : Launch, MC l yX9_sum cX9_sum 4 (some FieldType.int) (4 + d) G SM w [.ref (G.2 100)] (some (.int r.1)) r.2) (hg_compared : ∀ (w : Wd) (r : Int32 × Wd), g_compared w = some r → ∀ l : Launch, MC l yX9_compared cX9_compared 5 (some FieldType.int) (4 + d) G SM w [.ref (G.2 100)] (some (.int r.1)) r.2) (hg_both : ∀ (w : Wd) (r : Int32 × Wd), g_both w = some r → ∀ l : Launch, MC l yX9_both cX9_both 3 (some FieldType.int) (4 + d) G SM w [.ref (G.2 100)] (some (.int r.1)) r.2) (hg_whole : ∀ (w : Wd) (r : Int32 × Wd), g_whole w = some r → ∀ l : Launch, MC l yX9_whole cX9_whole 3 (some FieldType.int) (4 + d) G SM w [.ref (G.2 100)] (some (.int r.1)) r.2) (C : CX cX9_whole RX9 G SM 3 (4 + d + 1) (some FieldType.int) (some (.int res.1)) res.2 V) (hrec5 : ∀ (x1 : Int32) (w : Wd), rec5 x1 w = some res → V w 5 [(0, .ref (G.2 100)), (1, .int x1)] []) {w : Wd} (h : f_X9_whole_48 g_factor g_product g_sum g_compared g_both g_whole rec5 w = some res) : V w 48 [(0, .ref (G.2 100))] [] := by
  unfold f_X9_whole_48 at h
  refine r_iconst (v := (1:Int32)) (pc := 48) C dX9_whole_48 (by decide) ?_
  refine r_goto (pc := 49) C 53 dX9_whole_49 (by decide) ?_
  exact r_sub C [0] rfl (b_X9_whole_53 hg_factor hg_product hg_sum hg_compared hg_both hg_whole C hrec5 h)
def fb_X9_whole_5 (g_factor : Wd → Option (Int32 × Wd)) (g_product : Wd → Option (Int32 × Wd)) (g_sum : Wd → Option (Int32 × Wd)) (g_compared : Wd → Option (Int32 × Wd)) (g_both : Wd → Option (Int32 × Wd)) (g_whole : Wd → Option (Int32 × Wd)) (rec5 : Int32 → Wd → Option (Int32 × Wd)) (x1 : Int32) (w : Wd) : Option (Int32 × Wd) := (if (w 100 14) = 0 then some (x1, w) else bd (f_X9_byteAt w (w 100 8)) (fun q1 => (if ¬ q1 = (124:Int32) then some (x1, w) else wl (updW w 100 8 ((w 100 8) + (1:Int32))) (fun w2 => bd (g_both w2) (fun q3 => (if ¬ x1 = 0 then f_X9_whole_48 g_factor g_product g_sum g_compared g_both g_whole rec5 q3.2 else (if q3.1 = 0 then f_X9_whole_53 g_factor g_product g_sum g_compared g_both g_whole rec5 (0:Int32) q3.2 else f_X9_whole_48 g_factor g_product g_sum g_compared g_both g_whole rec5 q3.2)))))))
set_option maxRecDepth 20000 in
theorem bb_X9_whole_5 {G : Gv} {V : Vt} {d : Nat} {g_factor : Wd → Option (Int32 × Wd)} {g_product : Wd → Option (Int32 × Wd)} {g_sum : Wd → Option (Int32 × Wd)} {g_compared : Wd → Option (Int32 × Wd)} {g_both : Wd → Option (Int32 × Wd)} {g_whole : Wd → Option (Int32 × Wd)} {rec5 : Int32 → Wd → Option (Int32 × Wd)} {res : Int32 × Wd} (hg_factor : ∀ (w : Wd) (r : Int32 × Wd), g_factor w = some r → ∀ l : Launch, MC l yX9_factor cX9_factor 3 (some FieldType.int) (4 + d) G SM w [.ref (G.2 100)] (some (.int r.1)) r.2) (hg_product : ∀ (w : Wd) (r : Int32 × Wd), g_product w = some r → ∀ l : Launch, MC l yX9_product cX9_product 4 (some FieldType.int) (4 + d) G SM w [.ref (G.2 100)] (some (.int r.1)) r.2) (hg_sum : ∀ (w : Wd) (r : Int32 × Wd), g_sum w = some r → ∀ l : Launch, MC l yX9_sum cX9_sum 4 (some FieldType.int) (4 + d) G SM w [.ref (G.2 100)] (some (.int r.1)) r.2) (hg_compared : ∀ (w : Wd) (r : Int32 × Wd), g_compared w = some r → ∀ l : Launch, MC l yX9_compared cX9_compared 5 (some FieldType.int) (4 + d) G SM w [.ref (G.2 100)] (some (.int r.1)) r.2) (hg_both : ∀ (w : Wd) (r : Int32 × Wd), g_both w = some r → ∀ l : Launch, MC l yX9_both cX9_both 3 (some FieldType.int) (4 + d) G SM w [.ref (G.2 100)] (some (.int r.1)) r.2) (hg_whole : ∀ (w : Wd) (r : Int32 × Wd), g_whole w = some r → ∀ l : Launch, MC l yX9_whole cX9_whole 3 (some FieldType.int) (4 + d) G SM w [.ref (G.2 100)] (some (.int r.1)) r.2) (C : CX cX9_whole RX9 G SM 3 (4 + d + 1) (some FieldType.int) (some (.int res.1)) res.2 V) (hrec5 : ∀ (x1 : Int32) (w : Wd), rec5 x1 w = some res → V w 5 [(0, .ref (G.2 100)), (1, .int x1)] []) {x1 : Int32} {w : Wd} (h : fb_X9_whole_5 g_factor g_product g_sum g_compared g_both g_whole rec5 x1 w = some res) : V w 5 [(0, .ref (G.2 100)), (1, .int x1)] [] := by
  unfold fb_X9_whole_5 at h
  refine r_aload_n (pc := 5) C dX9_whole_5 rfl 0 rfl ?_
  refine gi_X9_120 (pc := 6) C dX9_whole_6 kx_100 rfl ?_
  refine r_if_eq (pc := 9) C 57 dX9_whole_9 (by decide) h (fun h => ?_) (fun h => ?_)
  · refine r_iload_n (pc := 57) C dX9_whole_57 rfl 1 rfl ?_
    exact r_iretE (pc := 58) C dX9_whole_58 h
  · refine r_aload_n (pc := 12) C dX9_whole_12 rfl 0 rfl ?_
    refine r_aload_n (pc := 13) C dX9_whole_13 rfl 0 rfl ?_
    refine gi_X9_124 (pc := 14) C dX9_whole_14 kx_100 rfl ?_
    refine cv_X9_127 (pc := 17) C dX9_whole_17  h (by omega) (Nat.le_of_ble_eq_true rfl) (fun q1 h => ?_)
    refine r_bipush (v := (124:Int32)) (pc := 20) C dX9_whole_20 (by decide) ?_
    refine r_icmp_ne (pc := 22) C 57 dX9_whole_22 (by decide) h (fun h => ?_) (fun h => ?_)
    · refine r_iload_n (pc := 57) C dX9_whole_57 rfl 1 rfl ?_
      exact r_iretE (pc := 58) C dX9_whole_58 h
    · refine r_aload_n (pc := 25) C dX9_whole_25 rfl 0 rfl ?_
      refine r_dup (pc := 26) C dX9_whole_26 rfl ?_
      refine gi_X9_124 (pc := 27) C dX9_whole_27 kx_100 rfl ?_
      refine r_iconst (v := (1:Int32)) (pc := 30) C dX9_whole_30 (by decide) ?_
      refine r_iadd (pc := 31) C dX9_whole_31 ?_
      refine pi_X9_124 (pc := 32) C dX9_whole_32 kx_100 rfl h (fun w2 h => ?_)
      refine r_aload_n (pc := 35) C dX9_whole_35 rfl 0 rfl ?_
      refine r_callV (As := []) (rest := []) (rvf := fun q => (some (.int q.1))) (wf := fun q => q.2) (pc := 36) C dX9_whole_36 h ql_X9_170 qi_X9_both qs_X9_both qn_X9 qc_X9_both ⟨rfl, by decide +kernel, by decide +kernel, (by decide +kernel : (parseMethodDescriptor yX9_both.desc).map (fun d => d.parameters.length) = some 0)⟩ ⟨Nat.le_refl _, by decide⟩ kx_100 rfl (fun q hq l => hg_both _  q hq l) rfl (Nat.le_of_ble_eq_true rfl) (fun q3 h => ?_)
      refine r_istore_n (L' := [(2, .int q3.1), (0, .ref (G.2 100)), (1, .int x1)]) (pc := 39) C dX9_whole_39 rfl (by decide) rfl ?_
      refine r_iload_n (pc := 40) C dX9_whole_40 rfl 2 rfl ?_
      refine r_if_ne (pc := 41) C 48 dX9_whole_41 (by decide) h (fun h => ?_) (fun h => ?_)
      · exact r_sub C [1] rfl (b_X9_whole_48 hg_factor hg_product hg_sum hg_compared hg_both hg_whole C hrec5 h)
      · refine r_iload_n (pc := 44) C dX9_whole_44 rfl 0 rfl ?_
        refine r_if_eq (pc := 45) C 52 dX9_whole_45 (by decide) h (fun h => ?_) (fun h => ?_)
        · refine r_iconst (v := (0:Int32)) (pc := 52) C dX9_whole_52 (by decide) ?_
          exact r_sub C [1] rfl (b_X9_whole_53 hg_factor hg_product hg_sum hg_compared hg_both hg_whole C hrec5 h)
        · exact r_sub C [1] rfl (b_X9_whole_48 hg_factor hg_product hg_sum hg_compared hg_both hg_whole C hrec5 h)
def f_X9_whole_5 (g_factor : Wd → Option (Int32 × Wd)) (g_product : Wd → Option (Int32 × Wd)) (g_sum : Wd → Option (Int32 × Wd)) (g_compared : Wd → Option (Int32 × Wd)) (g_both : Wd → Option (Int32 × Wd)) (g_whole : Wd → Option (Int32 × Wd)) : Int32 → Wd → Option (Int32 × Wd) := lp (fun _ _ => none) (fun rec => fb_X9_whole_5 g_factor g_product g_sum g_compared g_both g_whole rec) FU
theorem b_X9_whole_5 {G : Gv} {V : Vt} {d : Nat} {g_factor : Wd → Option (Int32 × Wd)} {g_product : Wd → Option (Int32 × Wd)} {g_sum : Wd → Option (Int32 × Wd)} {g_compared : Wd → Option (Int32 × Wd)} {g_both : Wd → Option (Int32 × Wd)} {g_whole : Wd → Option (Int32 × Wd)} {res : Int32 × Wd} (hg_factor : ∀ (w : Wd) (r : Int32 × Wd), g_factor w = some r → ∀ l : Launch, MC l yX9_factor cX9_factor 3 (some FieldType.int) (4 + d) G SM w [.ref (G.2 100)] (some (.int r.1)) r.2) (hg_product : ∀ (w : Wd) (r : Int32 × Wd), g_product w = some r → ∀ l : Launch, MC l yX9_product cX9_product 4 (some FieldType.int) (4 + d) G SM w [.ref (G.2 100)] (some (.int r.1)) r.2) (hg_sum : ∀ (w : Wd) (r : Int32 × Wd), g_sum w = some r → ∀ l : Launch, MC l yX9_sum cX9_sum 4 (some FieldType.int) (4 + d) G SM w [.ref (G.2 100)] (some (.int r.1)) r.2) (hg_compared : ∀ (w : Wd) (r : Int32 × Wd), g_compared w = some r → ∀ l : Launch, MC l yX9_compared cX9_compared 5 (some FieldType.int) (4 + d) G SM w [.ref (G.2 100)] (some (.int r.1)) r.2) (hg_both : ∀ (w : Wd) (r : Int32 × Wd), g_both w = some r → ∀ l : Launch, MC l yX9_both cX9_both 3 (some FieldType.int) (4 + d) G SM w [.ref (G.2 100)] (some (.int r.1)) r.2) (hg_whole : ∀ (w : Wd) (r : Int32 × Wd), g_whole w = some r → ∀ l : Launch, MC l yX9_whole cX9_whole 3 (some FieldType.int) (4 + d) G SM w [.ref (G.2 100)] (some (.int r.1)) r.2) (C : CX cX9_whole RX9 G SM 3 (4 + d + 1) (some FieldType.int) (some (.int res.1)) res.2 V) : ∀ (x1 : Int32) (w : Wd), (f_X9_whole_5 g_factor g_product g_sum g_compared g_both g_whole) x1 w = some res → V w 5 [(0, .ref (G.2 100)), (1, .int x1)] [] :=
  lp_ind (P := fun (g : Int32 → Wd → Option (Int32 × Wd)) => ∀ (x1 : Int32) (w : Wd), g x1 w = some res → V w 5 [(0, .ref (G.2 100)), (1, .int x1)] []) (fun _ _ h => by cases h) (fun g hg _ _ h => bb_X9_whole_5 hg_factor hg_product hg_sum hg_compared hg_both hg_whole C hg h) FU
def fg_X9_whole (g_factor : Wd → Option (Int32 × Wd)) (g_product : Wd → Option (Int32 × Wd)) (g_sum : Wd → Option (Int32 × Wd)) (g_compared : Wd → Option (Int32 × Wd)) (g_both : Wd → Option (Int32 × Wd)) (g_whole : Wd → Option (Int32 × Wd)) (w : Wd) : Option (Int32 × Wd) := bd (g_both w) (fun q1 => f_X9_whole_5 g_factor g_product g_sum g_compared g_both g_whole q1.1 q1.2)
set_option maxRecDepth 20000 in
theorem b_X9_whole_E {G : Gv} {V : Vt} {d : Nat} {g_factor : Wd → Option (Int32 × Wd)} {g_product : Wd → Option (Int32 × Wd)} {g_sum : Wd → Option (Int32 × Wd)} {g_compared : Wd → Option (Int32 × Wd)} {g_both : Wd → Option (Int32 × Wd)} {g_whole : Wd → Option (Int32 × Wd)} {res : Int32 × Wd} (hg_factor : ∀ (w : Wd) (r : Int32 × Wd), g_factor w = some r → ∀ l : Launch, MC l yX9_factor cX9_factor 3 (some FieldType.int) (4 + d) G SM w [.ref (G.2 100)] (some (.int r.1)) r.2) (hg_product : ∀ (w : Wd) (r : Int32 × Wd), g_product w = some r → ∀ l : Launch, MC l yX9_product cX9_product 4 (some FieldType.int) (4 + d) G SM w [.ref (G.2 100)] (some (.int r.1)) r.2) (hg_sum : ∀ (w : Wd) (r : Int32 × Wd), g_sum w = some r → ∀ l : Launch, MC l yX9_sum cX9_sum 4 (some FieldType.int) (4 + d) G SM w [.ref (G.2 100)] (some (.int r.1)) r.2) (hg_compared : ∀ (w : Wd) (r : Int32 × Wd), g_compared w = some r → ∀ l : Launch, MC l yX9_compared cX9_compared 5 (some FieldType.int) (4 + d) G SM w [.ref (G.2 100)] (some (.int r.1)) r.2) (hg_both : ∀ (w : Wd) (r : Int32 × Wd), g_both w = some r → ∀ l : Launch, MC l yX9_both cX9_both 3 (some FieldType.int) (4 + d) G SM w [.ref (G.2 100)] (some (.int r.1)) r.2) (hg_whole : ∀ (w : Wd) (r : Int32 × Wd), g_whole w = some r → ∀ l : Launch, MC l yX9_whole cX9_whole 3 (some FieldType.int) (4 + d) G SM w [.ref (G.2 100)] (some (.int r.1)) r.2) (C : CX cX9_whole RX9 G SM 3 (4 + d + 1) (some FieldType.int) (some (.int res.1)) res.2 V) {w : Wd} (h : fg_X9_whole g_factor g_product g_sum g_compared g_both g_whole w = some res) : V w 0 [(0, .ref (G.2 100))] [] := by
  unfold fg_X9_whole at h
  refine r_aload_n (pc := 0) C dX9_whole_0 rfl 0 rfl ?_
  refine r_callV (As := []) (rest := []) (rvf := fun q => (some (.int q.1))) (wf := fun q => q.2) (pc := 1) C dX9_whole_1 h ql_X9_170 qi_X9_both qs_X9_both qn_X9 qc_X9_both ⟨rfl, by decide +kernel, by decide +kernel, (by decide +kernel : (parseMethodDescriptor yX9_both.desc).map (fun d => d.parameters.length) = some 0)⟩ ⟨Nat.le_refl _, by decide⟩ kx_100 rfl (fun q hq l => hg_both _  q hq l) rfl (Nat.le_of_ble_eq_true rfl) (fun q1 h => ?_)
  refine r_istore_n (L' := [(1, .int q1.1), (0, .ref (G.2 100))]) (pc := 4) C dX9_whole_4 rfl (by decide) rfl ?_
  exact r_sub C [1, 0] rfl (b_X9_whole_5 hg_factor hg_product hg_sum hg_compared hg_both hg_whole C _ _ h)
def grp_X9_factor : Nat → (Wd → Option (Int32 × Wd)) × (Wd → Option (Int32 × Wd)) × (Wd → Option (Int32 × Wd)) × (Wd → Option (Int32 × Wd)) × (Wd → Option (Int32 × Wd)) × (Wd → Option (Int32 × Wd)) := lp ((fun _ => none), (fun _ => none), (fun _ => none), (fun _ => none), (fun _ => none), (fun _ => none)) (fun r => (fg_X9_factor r.1 r.2.1 r.2.2.1 r.2.2.2.1 r.2.2.2.2.1 r.2.2.2.2.2, fg_X9_product r.1 r.2.1 r.2.2.1 r.2.2.2.1 r.2.2.2.2.1 r.2.2.2.2.2, fg_X9_sum r.1 r.2.1 r.2.2.1 r.2.2.2.1 r.2.2.2.2.1 r.2.2.2.2.2, fg_X9_compared r.1 r.2.1 r.2.2.1 r.2.2.2.1 r.2.2.2.2.1 r.2.2.2.2.2, fg_X9_both r.1 r.2.1 r.2.2.1 r.2.2.2.1 r.2.2.2.2.1 r.2.2.2.2.2, fg_X9_whole r.1 r.2.1 r.2.2.1 r.2.2.2.1 r.2.2.2.2.1 r.2.2.2.2.2))
def f_X9_factor : Wd → Option (Int32 × Wd) := (grp_X9_factor 100).1
def f_X9_product : Wd → Option (Int32 × Wd) := (grp_X9_factor 100).2.1
def f_X9_sum : Wd → Option (Int32 × Wd) := (grp_X9_factor 100).2.2.1
def f_X9_compared : Wd → Option (Int32 × Wd) := (grp_X9_factor 100).2.2.2.1
def f_X9_both : Wd → Option (Int32 × Wd) := (grp_X9_factor 100).2.2.2.2.1
def f_X9_whole : Wd → Option (Int32 × Wd) := (grp_X9_factor 100).2.2.2.2.2
theorem cg_X9_factor {G : Gv} : ∀ d : Nat, (∀ (w : Wd) (r : Int32 × Wd), (grp_X9_factor d).1 w = some r → ∀ l : Launch, MC l yX9_factor cX9_factor 3 (some FieldType.int) (4 + d) G SM w [.ref (G.2 100)] (some (.int r.1)) r.2) ∧ (∀ (w : Wd) (r : Int32 × Wd), (grp_X9_factor d).2.1 w = some r → ∀ l : Launch, MC l yX9_product cX9_product 4 (some FieldType.int) (4 + d) G SM w [.ref (G.2 100)] (some (.int r.1)) r.2) ∧ (∀ (w : Wd) (r : Int32 × Wd), (grp_X9_factor d).2.2.1 w = some r → ∀ l : Launch, MC l yX9_sum cX9_sum 4 (some FieldType.int) (4 + d) G SM w [.ref (G.2 100)] (some (.int r.1)) r.2) ∧ (∀ (w : Wd) (r : Int32 × Wd), (grp_X9_factor d).2.2.2.1 w = some r → ∀ l : Launch, MC l yX9_compared cX9_compared 5 (some FieldType.int) (4 + d) G SM w [.ref (G.2 100)] (some (.int r.1)) r.2) ∧ (∀ (w : Wd) (r : Int32 × Wd), (grp_X9_factor d).2.2.2.2.1 w = some r → ∀ l : Launch, MC l yX9_both cX9_both 3 (some FieldType.int) (4 + d) G SM w [.ref (G.2 100)] (some (.int r.1)) r.2) ∧ (∀ (w : Wd) (r : Int32 × Wd), (grp_X9_factor d).2.2.2.2.2 w = some r → ∀ l : Launch, MC l yX9_whole cX9_whole 3 (some FieldType.int) (4 + d) G SM w [.ref (G.2 100)] (some (.int r.1)) r.2) := by
  intro d
  induction d with
  | zero => exact ⟨fun _ _ h => (by change none = some _ at h; cases h), fun _ _ h => (by change none = some _ at h; cases h), fun _ _ h => (by change none = some _ at h; cases h), fun _ _ h => (by change none = some _ at h; cases h), fun _ _ h => (by change none = some _ at h; cases h), fun _ _ h => (by change none = some _ at h; cases h)⟩
  | succ d ih =>
    obtain ⟨i0, i1, i2, i3, i4, i5⟩ := ih
    exact ⟨fun _ _ h l => mc_of (by decide +kernel) rfl (Nat.le_of_ble_eq_true rfl) rfl (fun V C => b_X9_factor_E i0 i1 i2 i3 i4 i5 C h) l, fun _ _ h l => mc_of (by decide +kernel) rfl (Nat.le_of_ble_eq_true rfl) rfl (fun V C => b_X9_product_E i0 i1 i2 i3 i4 i5 C h) l, fun _ _ h l => mc_of (by decide +kernel) rfl (Nat.le_of_ble_eq_true rfl) rfl (fun V C => b_X9_sum_E i0 i1 i2 i3 i4 i5 C h) l, fun _ _ h l => mc_of (by decide +kernel) rfl (Nat.le_of_ble_eq_true rfl) rfl (fun V C => b_X9_compared_E i0 i1 i2 i3 i4 i5 C h) l, fun _ _ h l => mc_of (by decide +kernel) rfl (Nat.le_of_ble_eq_true rfl) rfl (fun V C => b_X9_both_E i0 i1 i2 i3 i4 i5 C h) l, fun _ _ h l => mc_of (by decide +kernel) rfl (Nat.le_of_ble_eq_true rfl) rfl (fun V C => b_X9_whole_E i0 i1 i2 i3 i4 i5 C h) l⟩
theorem c_X9_factor {G : Gv} {w : Wd} {res : Int32 × Wd} (h : f_X9_factor w = some res) (l : Launch) : MC l yX9_factor cX9_factor 3 (some FieldType.int) 104 G SM w [.ref (G.2 100)] (some (.int res.1)) res.2 := (cg_X9_factor 100).1 w  _ h l
theorem c_X9_product {G : Gv} {w : Wd} {res : Int32 × Wd} (h : f_X9_product w = some res) (l : Launch) : MC l yX9_product cX9_product 4 (some FieldType.int) 104 G SM w [.ref (G.2 100)] (some (.int res.1)) res.2 := (cg_X9_factor 100).2.1 w  _ h l
theorem c_X9_sum {G : Gv} {w : Wd} {res : Int32 × Wd} (h : f_X9_sum w = some res) (l : Launch) : MC l yX9_sum cX9_sum 4 (some FieldType.int) 104 G SM w [.ref (G.2 100)] (some (.int res.1)) res.2 := (cg_X9_factor 100).2.2.1 w  _ h l
theorem c_X9_compared {G : Gv} {w : Wd} {res : Int32 × Wd} (h : f_X9_compared w = some res) (l : Launch) : MC l yX9_compared cX9_compared 5 (some FieldType.int) 104 G SM w [.ref (G.2 100)] (some (.int res.1)) res.2 := (cg_X9_factor 100).2.2.2.1 w  _ h l
theorem c_X9_both {G : Gv} {w : Wd} {res : Int32 × Wd} (h : f_X9_both w = some res) (l : Launch) : MC l yX9_both cX9_both 3 (some FieldType.int) 104 G SM w [.ref (G.2 100)] (some (.int res.1)) res.2 := (cg_X9_factor 100).2.2.2.2.1 w  _ h l
theorem c_X9_whole {G : Gv} {w : Wd} {res : Int32 × Wd} (h : f_X9_whole w = some res) (l : Launch) : MC l yX9_whole cX9_whole 3 (some FieldType.int) 104 G SM w [.ref (G.2 100)] (some (.int res.1)) res.2 := (cg_X9_factor 100).2.2.2.2.2 w  _ h l
theorem cv_X9_158 {cc : ByteArray} {G : Gv} {n hc : Nat} {rt : Option FieldType} {rv : Option Value} {w0 : Wd} {V : Vt} {w : Wd} {pc : Nat} {L : List (Nat × Value)} {rest : List Value} {α : Type} {res : α} {K : Int32 × Wd → Option α} (C : CX cc RX9 G SM n hc rt rv w0 V) (hd : decode cc pc = .ok (.invokevirtual 158, 3)) (h : bd (f_X9_whole w) K = some res) (hR : 104 + 1 ≤ hc) (hr : (rest.map fun v => v.category).sum ≤ 8) (kk : ∀ q, K q = some res → V q.2 (pc + 3) L (.int q.1 :: rest)) : V w pc L (.ref (G.2 100) :: rest) := r_callV (As := []) (rest := rest) (rvf := fun q => (some (.int q.1))) (wf := fun q => q.2) C hd h ql_X9_158 qi_X9_whole qs_X9_whole qn_X9 qc_X9_whole ⟨rfl, by decide +kernel, by decide +kernel, (by decide +kernel : (parseMethodDescriptor yX9_whole.desc).map (fun d => d.parameters.length) = some 0)⟩ ⟨hR, by decide⟩ kx_100 rfl (fun q hq l => c_X9_whole hq l) rfl hr kk
def f_X9_walks_79 (x5 : Int32) (t0 : Int32) (w : Wd) : Option (Int32 × Wd) := zb t0 (wl (updW w 100 14 t0) (fun w1 => some (x5, w1)))
set_option maxRecDepth 20000 in
theorem b_X9_walks_79 {G : Gv} {V : Vt} {res : Int32 × Wd}  (C : CX cX9_walks RX9 G SM 6 105 (some FieldType.int) (some (.int res.1)) res.2 V) {x5 : Int32} {t0 : Int32} {w : Wd} (h : f_X9_walks_79 x5 t0 w = some res) : V w 79 [(5, .int x5)] [.int t0, .ref (G.2 100)] := by
  unfold f_X9_walks_79 at h
  refine r_zb h (fun hn hfz h => ?_)
  refine pi_X9_120 (pc := 79) C dX9_walks_79 kx_100 rfl hn hfz h (fun w1 h => ?_)
  refine r_iload (pc := 82) C dX9_walks_82 0 rfl ?_
  exact r_iretE (pc := 84) C dX9_walks_84 h
def f_X9_walks_78 (x5 : Int32) (w : Wd) : Option (Int32 × Wd) := f_X9_walks_79 x5 (0:Int32) w
set_option maxRecDepth 20000 in
theorem b_X9_walks_78 {G : Gv} {V : Vt} {res : Int32 × Wd}  (C : CX cX9_walks RX9 G SM 6 105 (some FieldType.int) (some (.int res.1)) res.2 V) {x5 : Int32} {w : Wd} (h : f_X9_walks_78 x5 w = some res) : V w 78 [(5, .int x5)] [.ref (G.2 100)] := by
  unfold f_X9_walks_78 at h
  refine r_iconst (v := (0:Int32)) (pc := 78) C dX9_walks_78 (by decide) ?_
  exact r_sub C [0] rfl (b_X9_walks_79 C h)
def f_X9_walks (p1 : Int32) (p2 : Int32) (p3 : Int32) (p4 : Int32) (w : Wd) : Option (Int32 × Wd) := wl (updW w 100 7 p1) (fun w1 => wl (updW w1 100 8 (0:Int32)) (fun w2 => ald w2 101 229 ((6:Int32) + p1) (fun v3 => wl (updW w2 100 9 v3) (fun w4 => wl (updW w4 100 10 (0:Int32)) (fun w5 => wl (updW w5 100 14 (1:Int32)) (fun w6 => wl (updW w6 100 11 p2) (fun w7 => wl (updW w7 100 12 p3) (fun w8 => wl (updW w8 100 13 p4) (fun w9 => bd (f_X9_whole w9) (fun q10 => (if (q10.2 100 14) = 0 then f_X9_walks_78 q10.1 q10.2 else (if ¬ (q10.2 100 8) = (q10.2 100 9) then f_X9_walks_78 q10.1 q10.2 else f_X9_walks_79 q10.1 (1:Int32) q10.2))))))))))))
set_option maxRecDepth 20000 in
theorem b_X9_walks_E {G : Gv} {V : Vt} {res : Int32 × Wd}  (C : CX cX9_walks RX9 G SM 6 105 (some FieldType.int) (some (.int res.1)) res.2 V) {p1 : Int32} {p2 : Int32} {p3 : Int32} {p4 : Int32} {w : Wd} (h : f_X9_walks p1 p2 p3 p4 w = some res) : V w 0 [(0, .ref (G.2 100)), (1, .int p1), (2, .int p2), (3, .int p3), (4, .int p4)] [] := by
  unfold f_X9_walks at h
  refine r_aload_n (pc := 0) C dX9_walks_0 rfl 0 rfl ?_
  refine r_iload_n (pc := 1) C dX9_walks_1 rfl 1 rfl ?_
  refine pi_X9_117 (pc := 2) C dX9_walks_2 kx_100 rfl h (fun w1 h => ?_)
  refine r_aload_n (pc := 5) C dX9_walks_5 rfl 0 rfl ?_
  refine r_iconst (v := (0:Int32)) (pc := 6) C dX9_walks_6 (by decide) ?_
  refine pi_X9_124 (pc := 7) C dX9_walks_7 kx_100 rfl h (fun w2 h => ?_)
  refine r_aload_n (pc := 10) C dX9_walks_10 rfl 0 rfl ?_
  refine r_aload_n (pc := 11) C dX9_walks_11 rfl 0 rfl ?_
  refine gr_X9_7 (pc := 12) 101 C dX9_walks_12 kx_100 rfl ?_
  refine r_bipush (v := (6:Int32)) (pc := 15) C dX9_walks_15 (by decide) ?_
  refine r_iload_n (pc := 17) C dX9_walks_17 rfl 1 rfl ?_
  refine r_iadd (pc := 18) C dX9_walks_18 ?_
  refine r_ald (pc := 19) C dX9_walks_19 h kx_101 (fun v3 h => ?_)
  refine pi_X9_113 (pc := 20) C dX9_walks_20 kx_100 rfl h (fun w4 h => ?_)
  refine r_aload_n (pc := 23) C dX9_walks_23 rfl 0 rfl ?_
  refine r_iconst (v := (0:Int32)) (pc := 24) C dX9_walks_24 (by decide) ?_
  refine pi_X9_152 (pc := 25) C dX9_walks_25 kx_100 rfl h (fun w5 h => ?_)
  refine r_aload_n (pc := 28) C dX9_walks_28 rfl 0 rfl ?_
  refine r_iconst (v := (1:Int32)) (pc := 29) C dX9_walks_29 (by decide) ?_
  refine pi_X9_120 (pc := 30) C dX9_walks_30 kx_100 rfl rfl rfl h (fun w6 h => ?_)
  refine r_aload_n (pc := 33) C dX9_walks_33 rfl 0 rfl ?_
  refine r_iload_n (pc := 34) C dX9_walks_34 rfl 2 rfl ?_
  refine pi_X9_137 (pc := 35) C dX9_walks_35 kx_100 rfl h (fun w7 h => ?_)
  refine r_aload_n (pc := 38) C dX9_walks_38 rfl 0 rfl ?_
  refine r_iload_n (pc := 39) C dX9_walks_39 rfl 3 rfl ?_
  refine pi_X9_140 (pc := 40) C dX9_walks_40 kx_100 rfl h (fun w8 h => ?_)
  refine r_aload_n (pc := 43) C dX9_walks_43 rfl 0 rfl ?_
  refine r_iload (pc := 44) C dX9_walks_44 4 rfl ?_
  refine pi_X9_143 (pc := 46) C dX9_walks_46 kx_100 rfl h (fun w9 h => ?_)
  refine r_aload_n (pc := 49) C dX9_walks_49 rfl 0 rfl ?_
  refine cv_X9_158 (pc := 50) C dX9_walks_50  h (by decide) (Nat.le_of_ble_eq_true rfl) (fun q10 h => ?_)
  refine r_istore (L' := [(5, .int q10.1), (0, .ref (G.2 100)), (1, .int p1), (2, .int p2), (3, .int p3), (4, .int p4)]) (pc := 53) C dX9_walks_53 (by decide) rfl ?_
  refine r_aload_n (pc := 55) C dX9_walks_55 rfl 1 rfl ?_
  refine r_aload_n (pc := 56) C dX9_walks_56 rfl 1 rfl ?_
  refine gi_X9_120 (pc := 57) C dX9_walks_57 kx_100 rfl ?_
  refine r_if_eq (pc := 60) C 78 dX9_walks_60 (by decide) h (fun h => ?_) (fun h => ?_)
  · exact r_sub C [0] rfl (b_X9_walks_78 C h)
  · refine r_aload_n (pc := 63) C dX9_walks_63 rfl 1 rfl ?_
    refine gi_X9_124 (pc := 64) C dX9_walks_64 kx_100 rfl ?_
    refine r_aload_n (pc := 67) C dX9_walks_67 rfl 1 rfl ?_
    refine gi_X9_113 (pc := 68) C dX9_walks_68 kx_100 rfl ?_
    refine r_icmp_ne (pc := 71) C 78 dX9_walks_71 (by decide) h (fun h => ?_) (fun h => ?_)
    · exact r_sub C [0] rfl (b_X9_walks_78 C h)
    · refine r_iconst (v := (1:Int32)) (pc := 74) C dX9_walks_74 (by decide) ?_
      refine r_goto (pc := 75) C 79 dX9_walks_75 (by decide) ?_
      exact r_sub C [0] rfl (b_X9_walks_79 C h)
theorem c_X9_walks {G : Gv} {p1 : Int32} {p2 : Int32} {p3 : Int32} {p4 : Int32} {w : Wd} {res : Int32 × Wd} (h : f_X9_walks p1 p2 p3 p4 w = some res) (l : Launch) : MC l yX9_walks cX9_walks 6 (some FieldType.int) 105 G SM w [.ref (G.2 100), .int p1, .int p2, .int p3, .int p4] (some (.int res.1)) res.2 := mc_of (by decide +kernel) rfl (Nat.le_of_ble_eq_true rfl) rfl (fun V C => b_X9_walks_E C h) l
theorem cv_X9_173 {cc : ByteArray} {G : Gv} {n hc : Nat} {rt : Option FieldType} {rv : Option Value} {w0 : Wd} {V : Vt} {w : Wd} {pc : Nat} {L : List (Nat × Value)} {rest : List Value} {α : Type} {res : α} {p1 : Int32} {p2 : Int32} {p3 : Int32} {p4 : Int32} {K : Int32 × Wd → Option α} (C : CX cc RX9 G SM n hc rt rv w0 V) (hd : decode cc pc = .ok (.invokevirtual 173, 3)) (h : bd (f_X9_walks p1 p2 p3 p4 w) K = some res) (hR : 105 + 1 ≤ hc) (hr : (rest.map fun v => v.category).sum ≤ 8) (kk : ∀ q, K q = some res → V q.2 (pc + 3) L (.int q.1 :: rest)) : V w pc L (.int p4 :: .int p3 :: .int p2 :: .int p1 :: .ref (G.2 100) :: rest) := r_callV (As := [.int p1, .int p2, .int p3, .int p4]) (rest := rest) (rvf := fun q => (some (.int q.1))) (wf := fun q => q.2) C hd h ql_X9_173 qi_X9_walks qs_X9_walks qn_X9 qc_X9_walks ⟨rfl, by decide +kernel, by decide +kernel, (by decide +kernel : (parseMethodDescriptor yX9_walks.desc).map (fun d => d.parameters.length) = some 4)⟩ ⟨hR, by decide⟩ kx_100 rfl (fun q hq l => c_X9_walks hq l) rfl hr kk
theorem cv_X9_177 {cc : ByteArray} {G : Gv} {n hc : Nat} {rt : Option FieldType} {rv : Option Value} {w0 : Wd} {V : Vt} {w : Wd} {pc : Nat} {L : List (Nat × Value)} {rest : List Value} {α : Type} {res : α} {p0 : Int32} {p1 : Int32} {p2 : Int32} {K : Int32 → Option α} (C : CX cc RX9 G SM n hc rt rv w0 V) (hd : decode cc pc = .ok (.invokestatic 177, 3)) (h : bd (f_X9_held p0 p1 p2) K = some res) (hR : 1 + 1 ≤ hc) (hr : (rest.map fun v => v.category).sum ≤ 8) (kk : ∀ q, K q = some res → V w (pc + 3) L (.int q :: rest)) : V w pc L (.int p2 :: .int p1 :: .int p0 :: rest) := r_callS (As := [.int p0, .int p1, .int p2]) (rest := rest) (rvf := fun q => (some (.int q))) (wf := fun q => w) C hd h ql_X9_177 qt_X9_held qn_X9 qc_X9_held ⟨by decide +kernel, by decide +kernel, (by decide +kernel : (parseMethodDescriptor yX9_held.desc).map (fun d => d.parameters.length) = some 3)⟩ ⟨hR, by decide⟩ (fun q hq l => c_X9_held hq l) rfl hr kk
def f_X9_lawOf_59 (x5 : Int32) (t0 : Int32) (w : Wd) : Option (Int32 × Wd) := bd (f_X9_held t0 (0:Int32) x5) (fun q1 => some (q1, w))
set_option maxRecDepth 20000 in
theorem b_X9_lawOf_59 {G : Gv} {V : Vt} {res : Int32 × Wd}  (C : CX cX9_lawOf RX9 G SM 6 106 (some FieldType.int) (some (.int res.1)) res.2 V) {x5 : Int32} {t0 : Int32} {w : Wd} (h : f_X9_lawOf_59 x5 t0 w = some res) : V w 59 [(5, .int x5)] [.int t0] := by
  unfold f_X9_lawOf_59 at h
  refine r_iconst (v := (0:Int32)) (pc := 59) C dX9_lawOf_59 (by decide) ?_
  refine r_iload (pc := 60) C dX9_lawOf_60 0 rfl ?_
  refine cv_X9_177 (pc := 62) C dX9_lawOf_62  h (by decide) (Nat.le_of_ble_eq_true rfl) (fun q1 h => ?_)
  exact r_iretE (pc := 65) C dX9_lawOf_65 h
def f_X9_lawOf_12 (x1 : Int32) (x2 : Int32) (x3 : Int32) (x4 : Int32) (t0 : Int32) (w : Wd) : Option (Int32 × Wd) := ald w 101 229 ((6:Int32) + x1) (fun v1 => (if v1 < 0 then (if ¬ x1 = 0 then nz (10:Int32) (f_X9_lawOf_59 t0 ((1:Int32) + (x2 / (10:Int32))) w) else f_X9_lawOf_59 t0 (x2 + x4) w) else bd (f_X9_walks x1 x2 x3 x4 w) (fun q2 => bd (f_X9_held q2.1 (0:Int32) t0) (fun q3 => some (q3, q2.2)))))
set_option maxRecDepth 20000 in
theorem b_X9_lawOf_12 {G : Gv} {V : Vt} {res : Int32 × Wd}  (C : CX cX9_lawOf RX9 G SM 6 106 (some FieldType.int) (some (.int res.1)) res.2 V) {x1 : Int32} {x2 : Int32} {x3 : Int32} {x4 : Int32} {t0 : Int32} {w : Wd} (h : f_X9_lawOf_12 x1 x2 x3 x4 t0 w = some res) : V w 12 [(0, .ref (G.2 100)), (1, .int x1), (2, .int x2), (3, .int x3), (4, .int x4)] [.int t0] := by
  unfold f_X9_lawOf_12 at h
  refine r_istore (L' := [(5, .int t0), (0, .ref (G.2 100)), (1, .int x1), (2, .int x2), (3, .int x3), (4, .int x4)]) (pc := 12) C dX9_lawOf_12 (by decide) rfl ?_
  refine r_aload_n (pc := 14) C dX9_lawOf_14 rfl 1 rfl ?_
  refine gr_X9_7 (pc := 15) 101 C dX9_lawOf_15 kx_100 rfl ?_
  refine r_bipush (v := (6:Int32)) (pc := 18) C dX9_lawOf_18 (by decide) ?_
  refine r_iload_n (pc := 20) C dX9_lawOf_20 rfl 2 rfl ?_
  refine r_iadd (pc := 21) C dX9_lawOf_21 ?_
  refine r_ald (pc := 22) C dX9_lawOf_22 h kx_101 (fun v1 h => ?_)
  refine r_if_lt (pc := 23) C 42 dX9_lawOf_23 (by decide) h (fun h => ?_) (fun h => ?_)
  · refine r_iload_n (pc := 42) C dX9_lawOf_42 rfl 2 rfl ?_
    refine r_if_ne (pc := 43) C 53 dX9_lawOf_43 (by decide) h (fun h => ?_) (fun h => ?_)
    · refine r_iconst (v := (1:Int32)) (pc := 53) C dX9_lawOf_53 (by decide) ?_
      refine r_iload_n (pc := 54) C dX9_lawOf_54 rfl 3 rfl ?_
      refine r_bipush (v := (10:Int32)) (pc := 55) C dX9_lawOf_55 (by decide) ?_
      refine r_nz_div (pc := 57) C dX9_lawOf_57 h (fun h => ?_)
      refine r_iadd (pc := 58) C dX9_lawOf_58 ?_
      exact r_sub C [0] rfl (b_X9_lawOf_59 C h)
    · refine r_iload_n (pc := 46) C dX9_lawOf_46 rfl 3 rfl ?_
      refine r_iload (pc := 47) C dX9_lawOf_47 5 rfl ?_
      refine r_iadd (pc := 49) C dX9_lawOf_49 ?_
      refine r_goto (pc := 50) C 59 dX9_lawOf_50 (by decide) ?_
      exact r_sub C [0] rfl (b_X9_lawOf_59 C h)
  · refine r_aload_n (pc := 26) C dX9_lawOf_26 rfl 1 rfl ?_
    refine r_iload_n (pc := 27) C dX9_lawOf_27 rfl 2 rfl ?_
    refine r_iload_n (pc := 28) C dX9_lawOf_28 rfl 3 rfl ?_
    refine r_iload_n (pc := 29) C dX9_lawOf_29 rfl 4 rfl ?_
    refine r_iload (pc := 30) C dX9_lawOf_30 5 rfl ?_
    refine cv_X9_173 (pc := 32) C dX9_lawOf_32  h (by decide) (Nat.le_of_ble_eq_true rfl) (fun q2 h => ?_)
    refine r_iconst (v := (0:Int32)) (pc := 35) C dX9_lawOf_35 (by decide) ?_
    refine r_iload (pc := 36) C dX9_lawOf_36 0 rfl ?_
    refine cv_X9_177 (pc := 38) C dX9_lawOf_38  h (by decide) (Nat.le_of_ble_eq_true rfl) (fun q3 h => ?_)
    exact r_iretE (pc := 41) C dX9_lawOf_41 h
def f_X9_lawOf (p1 : Int32) (p2 : Int32) (p3 : Int32) (p4 : Int32) (w : Wd) : Option (Int32 × Wd) := (if ¬ p1 = 0 then f_X9_lawOf_12 p1 p2 p3 p4 (99:Int32) w else f_X9_lawOf_12 p1 p2 p3 p4 (999:Int32) w)
set_option maxRecDepth 20000 in
theorem b_X9_lawOf_E {G : Gv} {V : Vt} {res : Int32 × Wd}  (C : CX cX9_lawOf RX9 G SM 6 106 (some FieldType.int) (some (.int res.1)) res.2 V) {p1 : Int32} {p2 : Int32} {p3 : Int32} {p4 : Int32} {w : Wd} (h : f_X9_lawOf p1 p2 p3 p4 w = some res) : V w 0 [(0, .ref (G.2 100)), (1, .int p1), (2, .int p2), (3, .int p3), (4, .int p4)] [] := by
  unfold f_X9_lawOf at h
  refine r_iload_n (pc := 0) C dX9_lawOf_0 rfl 1 rfl ?_
  refine r_if_ne (pc := 1) C 10 dX9_lawOf_1 (by decide) h (fun h => ?_) (fun h => ?_)
  · refine r_bipush (v := (99:Int32)) (pc := 10) C dX9_lawOf_10 (by decide) ?_
    exact r_sub C [0, 1, 2, 3, 4] rfl (b_X9_lawOf_12 C h)
  · refine r_sipush (v := (999:Int32)) (pc := 4) C dX9_lawOf_4 (by decide) ?_
    refine r_goto (pc := 7) C 12 dX9_lawOf_7 (by decide) ?_
    exact r_sub C [0, 1, 2, 3, 4] rfl (b_X9_lawOf_12 C h)
theorem c_X9_lawOf {G : Gv} {p1 : Int32} {p2 : Int32} {p3 : Int32} {p4 : Int32} {w : Wd} {res : Int32 × Wd} (h : f_X9_lawOf p1 p2 p3 p4 w = some res) (l : Launch) : MC l yX9_lawOf cX9_lawOf 6 (some FieldType.int) 106 G SM w [.ref (G.2 100), .int p1, .int p2, .int p3, .int p4] (some (.int res.1)) res.2 := mc_of (by decide +kernel) rfl (Nat.le_of_ble_eq_true rfl) rfl (fun V C => b_X9_lawOf_E C h) l
theorem cv_X9_181 {cc : ByteArray} {G : Gv} {n hc : Nat} {rt : Option FieldType} {rv : Option Value} {w0 : Wd} {V : Vt} {w : Wd} {pc : Nat} {L : List (Nat × Value)} {rest : List Value} {α : Type} {res : α} {p1 : Int32} {p2 : Int32} {p3 : Int32} {p4 : Int32} {K : Int32 × Wd → Option α} (C : CX cc RX9 G SM n hc rt rv w0 V) (hd : decode cc pc = .ok (.invokevirtual 181, 3)) (h : bd (f_X9_lawOf p1 p2 p3 p4 w) K = some res) (hR : 106 + 1 ≤ hc) (hr : (rest.map fun v => v.category).sum ≤ 8) (kk : ∀ q, K q = some res → V q.2 (pc + 3) L (.int q.1 :: rest)) : V w pc L (.int p4 :: .int p3 :: .int p2 :: .int p1 :: .ref (G.2 100) :: rest) := r_callV (As := [.int p1, .int p2, .int p3, .int p4]) (rest := rest) (rvf := fun q => (some (.int q.1))) (wf := fun q => q.2) C hd h ql_X9_181 qi_X9_lawOf qs_X9_lawOf qn_X9 qc_X9_lawOf ⟨rfl, by decide +kernel, by decide +kernel, (by decide +kernel : (parseMethodDescriptor yX9_lawOf.desc).map (fun d => d.parameters.length) = some 4)⟩ ⟨hR, by decide⟩ kx_100 rfl (fun q hq l => c_X9_lawOf hq l) rfl hr kk
def f_X9_law (p1 : Int32) (p2 : Int32) (p3 : Int32) (p4 : Int32) (w : Wd) : Option (Int32 × Wd) := bd (f_X9_in p1 (0:Int32) (1:Int32)) (fun q1 => (if q1 = 0 then bd (f_X9_errs (-1000000001:Int32) w) (fun q2 => some (q2.1, q2.2)) else bd (f_X9_lawOf p1 p2 p3 p4 w) (fun q3 => some (q3.1, q3.2))))
set_option maxRecDepth 20000 in
theorem b_X9_law_E {G : Gv} {V : Vt} {res : Int32 × Wd}  (C : CX cX9_law RX9 G SM 5 107 (some FieldType.int) (some (.int res.1)) res.2 V) {p1 : Int32} {p2 : Int32} {p3 : Int32} {p4 : Int32} {w : Wd} (h : f_X9_law p1 p2 p3 p4 w = some res) : V w 0 [(0, .ref (G.2 100)), (1, .int p1), (2, .int p2), (3, .int p3), (4, .int p4)] [] := by
  unfold f_X9_law at h
  refine r_iload_n (pc := 0) C dX9_law_0 rfl 1 rfl ?_
  refine r_iconst (v := (0:Int32)) (pc := 1) C dX9_law_1 (by decide) ?_
  refine r_iconst (v := (1:Int32)) (pc := 2) C dX9_law_2 (by decide) ?_
  refine cv_X9_53 (pc := 3) C dX9_law_3  h (by decide) (Nat.le_of_ble_eq_true rfl) (fun q1 h => ?_)
  refine r_if_eq (pc := 6) C 21 dX9_law_6 (by decide) h (fun h => ?_) (fun h => ?_)
  · refine r_aload_n (pc := 21) C dX9_law_21 rfl 0 rfl ?_
    refine r_ldc (pc := 22) C dX9_law_22 qk_X9_61 ?_
    refine cv_X9_62 (pc := 24) C dX9_law_24  h (by decide) (Nat.le_of_ble_eq_true rfl) (fun q2 h => ?_)
    exact r_iretE (pc := 27) C dX9_law_27 h
  · refine r_aload_n (pc := 9) C dX9_law_9 rfl 0 rfl ?_
    refine r_iload_n (pc := 10) C dX9_law_10 rfl 1 rfl ?_
    refine r_iload_n (pc := 11) C dX9_law_11 rfl 2 rfl ?_
    refine r_iload_n (pc := 12) C dX9_law_12 rfl 3 rfl ?_
    refine r_iload (pc := 13) C dX9_law_13 4 rfl ?_
    refine cv_X9_181 (pc := 15) C dX9_law_15  h (by decide) (Nat.le_of_ble_eq_true rfl) (fun q3 h => ?_)
    refine r_goto (pc := 18) C 27 dX9_law_18 (by decide) ?_
    exact r_iretE (pc := 27) C dX9_law_27 h
theorem c_X9_law {G : Gv} {p1 : Int32} {p2 : Int32} {p3 : Int32} {p4 : Int32} {w : Wd} {res : Int32 × Wd} (h : f_X9_law p1 p2 p3 p4 w = some res) (l : Launch) : MC l yX9_law cX9_law 5 (some FieldType.int) 107 G SM w [.ref (G.2 100), .int p1, .int p2, .int p3, .int p4] (some (.int res.1)) res.2 := mc_of (by decide +kernel) rfl (Nat.le_of_ble_eq_true rfl) rfl (fun V C => b_X9_law_E C h) l
def f_X9_feed_88 (w : Wd) : Option (Int32 × Wd) := ald w 101 229 (4:Int32) (fun v1 => some (v1, w))
set_option maxRecDepth 20000 in
theorem b_X9_feed_88 {G : Gv} {V : Vt} {res : Int32 × Wd}  (C : CX cX9_feed RX9 G SM 5 2 (some FieldType.int) (some (.int res.1)) res.2 V) {w : Wd} (h : f_X9_feed_88 w = some res) : V w 88 [(0, .ref (G.2 100))] [] := by
  unfold f_X9_feed_88 at h
  refine r_aload_n (pc := 88) C dX9_feed_88 rfl 0 rfl ?_
  refine gr_X9_7 (pc := 89) 101 C dX9_feed_89 kx_100 rfl ?_
  refine r_iconst (v := (4:Int32)) (pc := 92) C dX9_feed_92 (by decide) ?_
  refine r_ald (pc := 93) C dX9_feed_93 h kx_101 (fun v1 h => ?_)
  exact r_iretE (pc := 94) C dX9_feed_94 h
def fb_X9_feed_40 (rec40 : Int64 → Int32 → Int32 → Wd → Option (Int32 × Wd)) (x1 : Int64) (x3 : Int32) (x4 : Int32) (w : Wd) : Option (Int32 × Wd) := (if x3 ≤ x4 then f_X9_feed_88 w else ald w 101 229 (4:Int32) (fun v1 => ast w 101 229 ((59:Int32) + v1) ((((lshr x1 ((8:Int32) * x4)) &&& (255:Int64))).toInt32) (fun w2 => ald w2 101 229 (4:Int32) (fun v3 => ast w2 101 229 (4:Int32) (v3 + (1:Int32)) (fun w4 => rec40 x1 x3 (x4 + (1:Int32)) w4)))))
set_option maxRecDepth 20000 in
theorem bb_X9_feed_40 {G : Gv} {V : Vt} {rec40 : Int64 → Int32 → Int32 → Wd → Option (Int32 × Wd)} {res : Int32 × Wd}  (C : CX cX9_feed RX9 G SM 5 2 (some FieldType.int) (some (.int res.1)) res.2 V) (hrec40 : ∀ (x1 : Int64) (x3 : Int32) (x4 : Int32) (w : Wd), rec40 x1 x3 x4 w = some res → V w 40 [(0, .ref (G.2 100)), (1, .long x1), (3, .int x3), (4, .int x4)] []) {x1 : Int64} {x3 : Int32} {x4 : Int32} {w : Wd} (h : fb_X9_feed_40 rec40 x1 x3 x4 w = some res) : V w 40 [(0, .ref (G.2 100)), (1, .long x1), (3, .int x3), (4, .int x4)] [] := by
  unfold fb_X9_feed_40 at h
  refine r_iload (pc := 40) C dX9_feed_40 3 rfl ?_
  refine r_iload_n (pc := 42) C dX9_feed_42 rfl 2 rfl ?_
  refine r_icmp_ge (pc := 43) C 88 dX9_feed_43 (by decide) h (fun h => ?_) (fun h => ?_)
  · exact r_sub C [0] rfl (b_X9_feed_88 C h)
  · refine r_aload_n (pc := 46) C dX9_feed_46 rfl 0 rfl ?_
    refine gr_X9_7 (pc := 47) 101 C dX9_feed_47 kx_100 rfl ?_
    refine r_bipush (v := (59:Int32)) (pc := 50) C dX9_feed_50 (by decide) ?_
    refine r_aload_n (pc := 52) C dX9_feed_52 rfl 0 rfl ?_
    refine gr_X9_7 (pc := 53) 101 C dX9_feed_53 kx_100 rfl ?_
    refine r_iconst (v := (4:Int32)) (pc := 56) C dX9_feed_56 (by decide) ?_
    refine r_ald (pc := 57) C dX9_feed_57 h kx_101 (fun v1 h => ?_)
    refine r_iadd (pc := 58) C dX9_feed_58 ?_
    refine r_lload_n (pc := 59) C dX9_feed_59 rfl 1 rfl ?_
    refine r_bipush (v := (8:Int32)) (pc := 60) C dX9_feed_60 (by decide) ?_
    refine r_iload (pc := 62) C dX9_feed_62 3 rfl ?_
    refine r_imul (pc := 64) C dX9_feed_64 ?_
    refine r_lshr (pc := 65) C dX9_feed_65 ?_
    refine r_ldc2 (pc := 66) C dX9_feed_66 qk_X9_184 ?_
    refine r_land (pc := 69) C dX9_feed_69 ?_
    refine r_l2i (pc := 70) C dX9_feed_70 ?_
    refine r_ast (pc := 71) C dX9_feed_71 h kx_101 (fun w2 h => ?_)
    refine r_aload_n (pc := 72) C dX9_feed_72 rfl 0 rfl ?_
    refine gr_X9_7 (pc := 73) 101 C dX9_feed_73 kx_100 rfl ?_
    refine r_iconst (v := (4:Int32)) (pc := 76) C dX9_feed_76 (by decide) ?_
    refine r_dup2 (pc := 77) C dX9_feed_77 rfl rfl ?_
    refine r_ald (pc := 78) C dX9_feed_78 h kx_101 (fun v3 h => ?_)
    refine r_iconst (v := (1:Int32)) (pc := 79) C dX9_feed_79 (by decide) ?_
    refine r_iadd (pc := 80) C dX9_feed_80 ?_
    refine r_ast (pc := 81) C dX9_feed_81 h kx_101 (fun w4 h => ?_)
    refine r_iinc (v := (x4 + (1:Int32))) (L' := [(4, .int (x4 + (1:Int32))), (0, .ref (G.2 100)), (1, .long x1), (3, .int x3)]) (pc := 82) C dX9_feed_82 3 rfl rfl (by decide) rfl ?_
    refine r_goto (pc := 85) C 40 dX9_feed_85 (by decide) ?_
    exact r_sub C [1, 2, 3, 0] rfl (hrec40 _ _ _ _ h)
def f_X9_feed_40 : Int64 → Int32 → Int32 → Wd → Option (Int32 × Wd) := lp (fun _ _ _ _ => none) (fun rec => fb_X9_feed_40 rec) FU
theorem b_X9_feed_40 {G : Gv} {V : Vt} {res : Int32 × Wd}  (C : CX cX9_feed RX9 G SM 5 2 (some FieldType.int) (some (.int res.1)) res.2 V) : ∀ (x1 : Int64) (x3 : Int32) (x4 : Int32) (w : Wd), (f_X9_feed_40) x1 x3 x4 w = some res → V w 40 [(0, .ref (G.2 100)), (1, .long x1), (3, .int x3), (4, .int x4)] [] :=
  lp_ind (P := fun (g : Int64 → Int32 → Int32 → Wd → Option (Int32 × Wd)) => ∀ (x1 : Int64) (x3 : Int32) (x4 : Int32) (w : Wd), g x1 x3 x4 w = some res → V w 40 [(0, .ref (G.2 100)), (1, .long x1), (3, .int x3), (4, .int x4)] []) (fun _ _ _ _ h => by cases h) (fun g hg _ _ _ _ h => bb_X9_feed_40 C hg h) FU
def f_X9_feed (p1 : Int64) (p3 : Int32) (w : Wd) : Option (Int32 × Wd) := bd (f_X9_in p3 (1:Int32) (8:Int32)) (fun q1 => (if ¬ q1 = 0 then ald w 101 229 (4:Int32) (fun v2 => (if (v2 + p3) ≤ (50:Int32) then f_X9_feed_40 p1 p3 (0:Int32) w else bd (f_X9_errs (-1000000004:Int32) w) (fun q3 => some (q3.1, q3.2)))) else bd (f_X9_errs (-1000000001:Int32) w) (fun q4 => some (q4.1, q4.2))))
set_option maxRecDepth 20000 in
theorem b_X9_feed_E {G : Gv} {V : Vt} {res : Int32 × Wd}  (C : CX cX9_feed RX9 G SM 5 2 (some FieldType.int) (some (.int res.1)) res.2 V) {p1 : Int64} {p3 : Int32} {w : Wd} (h : f_X9_feed p1 p3 w = some res) : V w 0 [(0, .ref (G.2 100)), (1, .long p1), (3, .int p3)] [] := by
  unfold f_X9_feed at h
  refine r_iload_n (pc := 0) C dX9_feed_0 rfl 2 rfl ?_
  refine r_iconst (v := (1:Int32)) (pc := 1) C dX9_feed_1 (by decide) ?_
  refine r_bipush (v := (8:Int32)) (pc := 2) C dX9_feed_2 (by decide) ?_
  refine cv_X9_53 (pc := 4) C dX9_feed_4  h (by decide) (Nat.le_of_ble_eq_true rfl) (fun q1 h => ?_)
  refine r_if_ne (pc := 7) C 17 dX9_feed_7 (by decide) h (fun h => ?_) (fun h => ?_)
  · refine r_aload_n (pc := 17) C dX9_feed_17 rfl 0 rfl ?_
    refine gr_X9_7 (pc := 18) 101 C dX9_feed_18 kx_100 rfl ?_
    refine r_iconst (v := (4:Int32)) (pc := 21) C dX9_feed_21 (by decide) ?_
    refine r_ald (pc := 22) C dX9_feed_22 h kx_101 (fun v2 h => ?_)
    refine r_iload_n (pc := 23) C dX9_feed_23 rfl 2 rfl ?_
    refine r_iadd (pc := 24) C dX9_feed_24 ?_
    refine r_bipush (v := (50:Int32)) (pc := 25) C dX9_feed_25 (by decide) ?_
    refine r_icmp_le (pc := 27) C 37 dX9_feed_27 (by decide) h (fun h => ?_) (fun h => ?_)
    · refine r_iconst (v := (0:Int32)) (pc := 37) C dX9_feed_37 (by decide) ?_
      refine r_istore (L' := [(4, .int (0:Int32)), (0, .ref (G.2 100)), (1, .long p1), (3, .int p3)]) (pc := 38) C dX9_feed_38 (by decide) rfl ?_
      exact r_sub C [1, 2, 3, 0] rfl (b_X9_feed_40 C _ _ _ _ h)
    · refine r_aload_n (pc := 30) C dX9_feed_30 rfl 0 rfl ?_
      refine r_ldc (pc := 31) C dX9_feed_31 qk_X9_66 ?_
      refine cv_X9_62 (pc := 33) C dX9_feed_33  h (by decide) (Nat.le_of_ble_eq_true rfl) (fun q3 h => ?_)
      exact r_iretE (pc := 36) C dX9_feed_36 h
  · refine r_aload_n (pc := 10) C dX9_feed_10 rfl 0 rfl ?_
    refine r_ldc (pc := 11) C dX9_feed_11 qk_X9_61 ?_
    refine cv_X9_62 (pc := 13) C dX9_feed_13  h (by decide) (Nat.le_of_ble_eq_true rfl) (fun q4 h => ?_)
    exact r_iretE (pc := 16) C dX9_feed_16 h
theorem c_X9_feed {G : Gv} {p1 : Int64} {p3 : Int32} {w : Wd} {res : Int32 × Wd} (h : f_X9_feed p1 p3 w = some res) (l : Launch) : MC l yX9_feed cX9_feed 5 (some FieldType.int) 2 G SM w [.ref (G.2 100), .long p1, .int p3] (some (.int res.1)) res.2 := mc_of (by decide +kernel) rfl (Nat.le_of_ble_eq_true rfl) rfl (fun V C => b_X9_feed_E C h) l
theorem cv_X9_186 {cc : ByteArray} {G : Gv} {n hc : Nat} {rt : Option FieldType} {rv : Option Value} {w0 : Wd} {V : Vt} {w : Wd} {pc : Nat} {L : List (Nat × Value)} {rest : List Value} {α : Type} {res : α} {b1 : Nat} {b2 : Nat} {K : Wd → Option α} (C : CX cc RX9 G SM n hc rt rv w0 V) (hd : decode cc pc = .ok (.invokevirtual 186, 3)) (hb1 : isAm b1 = true) (hb2 : isAm b2 = true) (h : bd (f_X9_moveAll b1 b2 w) K = some res) (hR : 1 + 1 ≤ hc) (hr : (rest.map fun v => v.category).sum ≤ 8) (kk : ∀ q, K q = some res → V q (pc + 3) L (rest)) : V w pc L (.ref (G.2 b2) :: .ref (G.2 b1) :: .ref (G.2 100) :: rest) := r_callV (As := [.ref (G.2 b1), .ref (G.2 b2)]) (rest := rest) (rvf := fun q => none) (wf := fun q => q) C hd h ql_X9_186 qi_X9_moveAll qs_X9_moveAll qn_X9 qc_X9_moveAll ⟨rfl, by decide +kernel, by decide +kernel, (by decide +kernel : (parseMethodDescriptor yX9_moveAll.desc).map (fun d => d.parameters.length) = some 2)⟩ ⟨hR, by decide⟩ kx_100 rfl (fun q hq l => c_X9_moveAll hb1 hb2 hq l) rfl hr kk
def f_X9_text_130 (x3 : Int32) (x4 : Int32) (w : Wd) : Option (Int32 × Wd) := ast w 101 229 (4:Int32) (0:Int32) (fun w1 => (if x3 = 0 then some (((-10:Int32) - x4), w1) else some ((1:Int32), w1)))
set_option maxRecDepth 20000 in
theorem b_X9_text_130 {G : Gv} {V : Vt} {res : Int32 × Wd}  (C : CX cX9_text RX9 G SM 5 106 (some FieldType.int) (some (.int res.1)) res.2 V) {x3 : Int32} {x4 : Int32} {w : Wd} (h : f_X9_text_130 x3 x4 w = some res) : V w 130 [(0, .ref (G.2 100)), (3, .int x3), (4, .int x4)] [] := by
  unfold f_X9_text_130 at h
  refine r_aload_n (pc := 130) C dX9_text_130 rfl 0 rfl ?_
  refine gr_X9_7 (pc := 131) 101 C dX9_text_131 kx_100 rfl ?_
  refine r_iconst (v := (4:Int32)) (pc := 134) C dX9_text_134 (by decide) ?_
  refine r_iconst (v := (0:Int32)) (pc := 135) C dX9_text_135 (by decide) ?_
  refine r_ast (pc := 136) C dX9_text_136 h kx_101 (fun w1 h => ?_)
  refine r_iload_n (pc := 137) C dX9_text_137 rfl 1 rfl ?_
  refine r_if_eq (pc := 138) C 145 dX9_text_138 (by decide) h (fun h => ?_) (fun h => ?_)
  · refine r_bipush (v := (-10:Int32)) (pc := 145) C dX9_text_145 (by decide) ?_
    refine r_iload (pc := 147) C dX9_text_147 2 rfl ?_
    refine r_isub (pc := 149) C dX9_text_149 ?_
    exact r_iretE (pc := 150) C dX9_text_150 h
  · refine r_iconst (v := (1:Int32)) (pc := 141) C dX9_text_141 (by decide) ?_
    refine r_goto (pc := 142) C 150 dX9_text_142 (by decide) ?_
    exact r_iretE (pc := 150) C dX9_text_150 h
def f_X9_text_107 (t0 : Int32) (w : Wd) : Option (Int32 × Wd) := lv (w 100 8) (fun v1 => (if ¬ t0 = 0 then f_X9_text_130 t0 v1 w else bd (f_X9_moveAll 104 101 w) (fun q2 => f_X9_text_130 t0 v1 q2)))
set_option maxRecDepth 20000 in
theorem b_X9_text_107 {G : Gv} {V : Vt} {res : Int32 × Wd}  (C : CX cX9_text RX9 G SM 5 106 (some FieldType.int) (some (.int res.1)) res.2 V) {t0 : Int32} {w : Wd} (h : f_X9_text_107 t0 w = some res) : V w 107 [(0, .ref (G.2 100))] [.int t0] := by
  unfold f_X9_text_107 at h
  refine r_istore_n (L' := [(3, .int t0), (0, .ref (G.2 100))]) (pc := 107) C dX9_text_107 rfl (by decide) rfl ?_
  refine r_aload_n (pc := 108) C dX9_text_108 rfl 1 rfl ?_
  refine gi_X9_124 (pc := 109) C dX9_text_109 kx_100 rfl ?_
  refine r_lv h (fun v1 h => ?_)
  refine r_istore (L' := [(4, .int v1), (3, .int t0), (0, .ref (G.2 100))]) (pc := 112) C dX9_text_112 (by decide) rfl ?_
  refine r_iload_n (pc := 114) C dX9_text_114 rfl 1 rfl ?_
  refine r_if_ne (pc := 115) C 130 dX9_text_115 (by decide) h (fun h => ?_) (fun h => ?_)
  · exact r_sub C [2, 1, 0] rfl (b_X9_text_130 C h)
  · refine r_aload_n (pc := 118) C dX9_text_118 rfl 2 rfl ?_
    refine r_aload_n (pc := 119) C dX9_text_119 rfl 2 rfl ?_
    refine gr_X9_19 (pc := 120) 104 C dX9_text_120 kx_100 rfl ?_
    refine r_aload_n (pc := 123) C dX9_text_123 rfl 2 rfl ?_
    refine gr_X9_7 (pc := 124) 101 C dX9_text_124 kx_100 rfl ?_
    refine cv_X9_186 (pc := 127) C dX9_text_127 isAm_104 isAm_101 h (by decide) (Nat.le_of_ble_eq_true rfl) (fun q2 h => ?_)
    exact r_sub C [2, 1, 0] rfl (b_X9_text_130 C h)
def f_X9_text_106 (w : Wd) : Option (Int32 × Wd) := f_X9_text_107 (0:Int32) w
set_option maxRecDepth 20000 in
theorem b_X9_text_106 {G : Gv} {V : Vt} {res : Int32 × Wd}  (C : CX cX9_text RX9 G SM 5 106 (some FieldType.int) (some (.int res.1)) res.2 V) {w : Wd} (h : f_X9_text_106 w = some res) : V w 106 [(0, .ref (G.2 100))] [] := by
  unfold f_X9_text_106 at h
  refine r_iconst (v := (0:Int32)) (pc := 106) C dX9_text_106 (by decide) ?_
  exact r_sub C [0] rfl (b_X9_text_107 C h)
def f_X9_text_66 (x1 : Int32) (w : Wd) : Option (Int32 × Wd) := ald w 101 229 (4:Int32) (fun v1 => ast w 101 229 ((6:Int32) + x1) v1 (fun w2 => bd (f_X9_walks x1 (1:Int32) (1:Int32) (1:Int32) w2) (fun q3 => (if (q3.2 100 14) = 0 then f_X9_text_106 q3.2 else (if ¬ q3.1 = q3.1 then f_X9_text_106 q3.2 else f_X9_text_107 (1:Int32) q3.2)))))
set_option maxRecDepth 20000 in
theorem b_X9_text_66 {G : Gv} {V : Vt} {res : Int32 × Wd}  (C : CX cX9_text RX9 G SM 5 106 (some FieldType.int) (some (.int res.1)) res.2 V) {x1 : Int32} {w : Wd} (h : f_X9_text_66 x1 w = some res) : V w 66 [(0, .ref (G.2 100)), (1, .int x1)] [] := by
  unfold f_X9_text_66 at h
  refine r_aload_n (pc := 66) C dX9_text_66 rfl 0 rfl ?_
  refine gr_X9_7 (pc := 67) 101 C dX9_text_67 kx_100 rfl ?_
  refine r_bipush (v := (6:Int32)) (pc := 70) C dX9_text_70 (by decide) ?_
  refine r_iload_n (pc := 72) C dX9_text_72 rfl 1 rfl ?_
  refine r_iadd (pc := 73) C dX9_text_73 ?_
  refine r_aload_n (pc := 74) C dX9_text_74 rfl 0 rfl ?_
  refine gr_X9_7 (pc := 75) 101 C dX9_text_75 kx_100 rfl ?_
  refine r_iconst (v := (4:Int32)) (pc := 78) C dX9_text_78 (by decide) ?_
  refine r_ald (pc := 79) C dX9_text_79 h kx_101 (fun v1 h => ?_)
  refine r_ast (pc := 80) C dX9_text_80 h kx_101 (fun w2 h => ?_)
  refine r_aload_n (pc := 81) C dX9_text_81 rfl 0 rfl ?_
  refine r_iload_n (pc := 82) C dX9_text_82 rfl 1 rfl ?_
  refine r_iconst (v := (1:Int32)) (pc := 83) C dX9_text_83 (by decide) ?_
  refine r_iconst (v := (1:Int32)) (pc := 84) C dX9_text_84 (by decide) ?_
  refine r_iconst (v := (1:Int32)) (pc := 85) C dX9_text_85 (by decide) ?_
  refine cv_X9_173 (pc := 86) C dX9_text_86  h (by decide) (Nat.le_of_ble_eq_true rfl) (fun q3 h => ?_)
  refine r_istore_n (L' := [(2, .int q3.1), (0, .ref (G.2 100)), (1, .int x1)]) (pc := 89) C dX9_text_89 rfl (by decide) rfl ?_
  refine r_aload_n (pc := 90) C dX9_text_90 rfl 1 rfl ?_
  refine gi_X9_120 (pc := 91) C dX9_text_91 kx_100 rfl ?_
  refine r_if_eq (pc := 94) C 106 dX9_text_94 (by decide) h (fun h => ?_) (fun h => ?_)
  · exact r_sub C [1] rfl (b_X9_text_106 C h)
  · refine r_iload_n (pc := 97) C dX9_text_97 rfl 0 rfl ?_
    refine r_iload_n (pc := 98) C dX9_text_98 rfl 0 rfl ?_
    refine r_icmp_ne (pc := 99) C 106 dX9_text_99 (by decide) h (fun h => ?_) (fun h => ?_)
    · exact r_sub C [1] rfl (b_X9_text_106 C h)
    · refine r_iconst (v := (1:Int32)) (pc := 102) C dX9_text_102 (by decide) ?_
      refine r_goto (pc := 103) C 107 dX9_text_103 (by decide) ?_
      exact r_sub C [1] rfl (b_X9_text_107 C h)
def fb_X9_text_30 (rec30 : Int32 → Int32 → Wd → Option (Int32 × Wd)) (x1 : Int32) (x2 : Int32) (w : Wd) : Option (Int32 × Wd) := (if (50:Int32) ≤ x2 then f_X9_text_66 x1 w else ald w 101 229 ((59:Int32) + x2) (fun v1 => ast w 101 229 (((129:Int32) + ((50:Int32) * x1)) + x2) v1 (fun w2 => rec30 x1 (x2 + (1:Int32)) w2)))
set_option maxRecDepth 20000 in
theorem bb_X9_text_30 {G : Gv} {V : Vt} {rec30 : Int32 → Int32 → Wd → Option (Int32 × Wd)} {res : Int32 × Wd}  (C : CX cX9_text RX9 G SM 5 106 (some FieldType.int) (some (.int res.1)) res.2 V) (hrec30 : ∀ (x1 : Int32) (x2 : Int32) (w : Wd), rec30 x1 x2 w = some res → V w 30 [(0, .ref (G.2 100)), (1, .int x1), (2, .int x2)] []) {x1 : Int32} {x2 : Int32} {w : Wd} (h : fb_X9_text_30 rec30 x1 x2 w = some res) : V w 30 [(0, .ref (G.2 100)), (1, .int x1), (2, .int x2)] [] := by
  unfold fb_X9_text_30 at h
  refine r_iload_n (pc := 30) C dX9_text_30 rfl 2 rfl ?_
  refine r_bipush (v := (50:Int32)) (pc := 31) C dX9_text_31 (by decide) ?_
  refine r_icmp_ge (pc := 33) C 66 dX9_text_33 (by decide) h (fun h => ?_) (fun h => ?_)
  · exact r_sub C [0, 1] rfl (b_X9_text_66 C h)
  · refine r_aload_n (pc := 36) C dX9_text_36 rfl 0 rfl ?_
    refine gr_X9_7 (pc := 37) 101 C dX9_text_37 kx_100 rfl ?_
    refine r_sipush (v := (129:Int32)) (pc := 40) C dX9_text_40 (by decide) ?_
    refine r_bipush (v := (50:Int32)) (pc := 43) C dX9_text_43 (by decide) ?_
    refine r_iload_n (pc := 45) C dX9_text_45 rfl 1 rfl ?_
    refine r_imul (pc := 46) C dX9_text_46 ?_
    refine r_iadd (pc := 47) C dX9_text_47 ?_
    refine r_iload_n (pc := 48) C dX9_text_48 rfl 2 rfl ?_
    refine r_iadd (pc := 49) C dX9_text_49 ?_
    refine r_aload_n (pc := 50) C dX9_text_50 rfl 0 rfl ?_
    refine gr_X9_7 (pc := 51) 101 C dX9_text_51 kx_100 rfl ?_
    refine r_bipush (v := (59:Int32)) (pc := 54) C dX9_text_54 (by decide) ?_
    refine r_iload_n (pc := 56) C dX9_text_56 rfl 2 rfl ?_
    refine r_iadd (pc := 57) C dX9_text_57 ?_
    refine r_ald (pc := 58) C dX9_text_58 h kx_101 (fun v1 h => ?_)
    refine r_ast (pc := 59) C dX9_text_59 h kx_101 (fun w2 h => ?_)
    refine r_iinc (v := (x2 + (1:Int32))) (L' := [(2, .int (x2 + (1:Int32))), (0, .ref (G.2 100)), (1, .int x1)]) (pc := 60) C dX9_text_60 2 rfl rfl (by decide) rfl ?_
    refine r_goto (pc := 63) C 30 dX9_text_63 (by decide) ?_
    exact r_sub C [1, 2, 0] rfl (hrec30 _ _ _ h)
def f_X9_text_30 : Int32 → Int32 → Wd → Option (Int32 × Wd) := lp (fun _ _ _ => none) (fun rec => fb_X9_text_30 rec) FU
theorem b_X9_text_30 {G : Gv} {V : Vt} {res : Int32 × Wd}  (C : CX cX9_text RX9 G SM 5 106 (some FieldType.int) (some (.int res.1)) res.2 V) : ∀ (x1 : Int32) (x2 : Int32) (w : Wd), (f_X9_text_30) x1 x2 w = some res → V w 30 [(0, .ref (G.2 100)), (1, .int x1), (2, .int x2)] [] :=
  lp_ind (P := fun (g : Int32 → Int32 → Wd → Option (Int32 × Wd)) => ∀ (x1 : Int32) (x2 : Int32) (w : Wd), g x1 x2 w = some res → V w 30 [(0, .ref (G.2 100)), (1, .int x1), (2, .int x2)] []) (fun _ _ _ h => by cases h) (fun g hg _ _ _ h => bb_X9_text_30 C hg h) FU
def f_X9_text (p1 : Int32) (w : Wd) : Option (Int32 × Wd) := bd (f_X9_in p1 (0:Int32) (1:Int32)) (fun q1 => (if ¬ q1 = 0 then bd (f_X9_moveAll 101 104 w) (fun q2 => f_X9_text_30 p1 (0:Int32) q2) else bd (f_X9_errs (-1000000001:Int32) w) (fun q3 => some (q3.1, q3.2))))
set_option maxRecDepth 20000 in
theorem b_X9_text_E {G : Gv} {V : Vt} {res : Int32 × Wd}  (C : CX cX9_text RX9 G SM 5 106 (some FieldType.int) (some (.int res.1)) res.2 V) {p1 : Int32} {w : Wd} (h : f_X9_text p1 w = some res) : V w 0 [(0, .ref (G.2 100)), (1, .int p1)] [] := by
  unfold f_X9_text at h
  refine r_iload_n (pc := 0) C dX9_text_0 rfl 1 rfl ?_
  refine r_iconst (v := (0:Int32)) (pc := 1) C dX9_text_1 (by decide) ?_
  refine r_iconst (v := (1:Int32)) (pc := 2) C dX9_text_2 (by decide) ?_
  refine cv_X9_53 (pc := 3) C dX9_text_3  h (by decide) (Nat.le_of_ble_eq_true rfl) (fun q1 h => ?_)
  refine r_if_ne (pc := 6) C 16 dX9_text_6 (by decide) h (fun h => ?_) (fun h => ?_)
  · refine r_aload_n (pc := 16) C dX9_text_16 rfl 0 rfl ?_
    refine r_aload_n (pc := 17) C dX9_text_17 rfl 0 rfl ?_
    refine gr_X9_7 (pc := 18) 101 C dX9_text_18 kx_100 rfl ?_
    refine r_aload_n (pc := 21) C dX9_text_21 rfl 0 rfl ?_
    refine gr_X9_19 (pc := 22) 104 C dX9_text_22 kx_100 rfl ?_
    refine cv_X9_186 (pc := 25) C dX9_text_25 isAm_101 isAm_104 h (by decide) (Nat.le_of_ble_eq_true rfl) (fun q2 h => ?_)
    refine r_iconst (v := (0:Int32)) (pc := 28) C dX9_text_28 (by decide) ?_
    refine r_istore_n (L' := [(2, .int (0:Int32)), (0, .ref (G.2 100)), (1, .int p1)]) (pc := 29) C dX9_text_29 rfl (by decide) rfl ?_
    exact r_sub C [1, 2, 0] rfl (b_X9_text_30 C _ _ _ h)
  · refine r_aload_n (pc := 9) C dX9_text_9 rfl 0 rfl ?_
    refine r_ldc (pc := 10) C dX9_text_10 qk_X9_61 ?_
    refine cv_X9_62 (pc := 12) C dX9_text_12  h (by decide) (Nat.le_of_ble_eq_true rfl) (fun q3 h => ?_)
    exact r_iretE (pc := 15) C dX9_text_15 h
theorem c_X9_text {G : Gv} {p1 : Int32} {w : Wd} {res : Int32 × Wd} (h : f_X9_text p1 w = some res) (l : Launch) : MC l yX9_text cX9_text 5 (some FieldType.int) 106 G SM w [.ref (G.2 100), .int p1] (some (.int res.1)) res.2 := mc_of (by decide +kernel) rfl (Nat.le_of_ble_eq_true rfl) rfl (fun V C => b_X9_text_E C h) l
def f_X9_isDoubled_20 (w : Wd) : Option (Int32) := some (1:Int32)
set_option maxRecDepth 20000 in
theorem b_X9_isDoubled_20 {G : Gv} {V : Vt} {w : Wd} {res : Int32}  (C : CX cX9_isDoubled RX9 G SM 2 2 (some FieldType.boolean) (some (.int res)) w V) (h : f_X9_isDoubled_20 w = some res) : V w 20 [] [] := by
  unfold f_X9_isDoubled_20 at h
  refine r_iconst (v := (1:Int32)) (pc := 20) C dX9_isDoubled_20 (by decide) ?_
  refine r_goto (pc := 21) C 25 dX9_isDoubled_21 (by decide) ?_
  exact r_zretP (pc := 25) C rfl dX9_isDoubled_25 h
def f_X9_isDoubled (w : Wd) (p1 : Int32) : Option (Int32) := bd (f_X9_its w p1 (0:Int32)) (fun q1 => (if q1 = (1:Int32) then f_X9_isDoubled_20 w else bd (f_X9_its w p1 (0:Int32)) (fun q2 => (if ¬ q2 = (4:Int32) then some (0:Int32) else f_X9_isDoubled_20 w))))
set_option maxRecDepth 20000 in
theorem b_X9_isDoubled_E {G : Gv} {V : Vt} {w : Wd} {res : Int32}  (C : CX cX9_isDoubled RX9 G SM 2 2 (some FieldType.boolean) (some (.int res)) w V) {p1 : Int32} (h : f_X9_isDoubled w p1 = some res) : V w 0 [(0, .ref (G.2 100)), (1, .int p1)] [] := by
  unfold f_X9_isDoubled at h
  refine r_aload_n (pc := 0) C dX9_isDoubled_0 rfl 0 rfl ?_
  refine r_iload_n (pc := 1) C dX9_isDoubled_1 rfl 1 rfl ?_
  refine r_iconst (v := (0:Int32)) (pc := 2) C dX9_isDoubled_2 (by decide) ?_
  refine cv_X9_67 (pc := 3) C dX9_isDoubled_3  h (by decide) (Nat.le_of_ble_eq_true rfl) (fun q1 h => ?_)
  refine r_iconst (v := (1:Int32)) (pc := 6) C dX9_isDoubled_6 (by decide) ?_
  refine r_icmp_eq (pc := 7) C 20 dX9_isDoubled_7 (by decide) h (fun h => ?_) (fun h => ?_)
  · exact r_sub C [] rfl (b_X9_isDoubled_20 C h)
  · refine r_aload_n (pc := 10) C dX9_isDoubled_10 rfl 0 rfl ?_
    refine r_iload_n (pc := 11) C dX9_isDoubled_11 rfl 1 rfl ?_
    refine r_iconst (v := (0:Int32)) (pc := 12) C dX9_isDoubled_12 (by decide) ?_
    refine cv_X9_67 (pc := 13) C dX9_isDoubled_13  h (by decide) (Nat.le_of_ble_eq_true rfl) (fun q2 h => ?_)
    refine r_iconst (v := (4:Int32)) (pc := 16) C dX9_isDoubled_16 (by decide) ?_
    refine r_icmp_ne (pc := 17) C 24 dX9_isDoubled_17 (by decide) h (fun h => ?_) (fun h => ?_)
    · refine r_iconst (v := (0:Int32)) (pc := 24) C dX9_isDoubled_24 (by decide) ?_
      exact r_zretP (pc := 25) C rfl dX9_isDoubled_25 h
    · exact r_sub C [] rfl (b_X9_isDoubled_20 C h)
theorem c_X9_isDoubled {G : Gv} {p1 : Int32} {w : Wd} {res : Int32} (h : f_X9_isDoubled w p1 = some res) (l : Launch) : MC l yX9_isDoubled cX9_isDoubled 2 (some FieldType.boolean) 2 G SM w [.ref (G.2 100), .int p1] (some (.int res)) w := mc_of (by decide +kernel) rfl (Nat.le_of_ble_eq_true rfl) rfl (fun V C => b_X9_isDoubled_E C h) l
theorem cv_X9_190 {cc : ByteArray} {G : Gv} {n hc : Nat} {rt : Option FieldType} {rv : Option Value} {w0 : Wd} {V : Vt} {w : Wd} {pc : Nat} {L : List (Nat × Value)} {rest : List Value} {α : Type} {res : α} {p1 : Int32} {K : Int32 → Option α} (C : CX cc RX9 G SM n hc rt rv w0 V) (hd : decode cc pc = .ok (.invokevirtual 190, 3)) (h : bd (f_X9_isDoubled w p1) K = some res) (hR : 2 + 1 ≤ hc) (hr : (rest.map fun v => v.category).sum ≤ 8) (kk : ∀ q, K q = some res → V w (pc + 3) L (.int q :: rest)) : V w pc L (.int p1 :: .ref (G.2 100) :: rest) := r_callV (As := [.int p1]) (rest := rest) (rvf := fun q => (some (.int q))) (wf := fun q => w) C hd h ql_X9_190 qi_X9_isDoubled qs_X9_isDoubled qn_X9 qc_X9_isDoubled ⟨rfl, by decide +kernel, by decide +kernel, (by decide +kernel : (parseMethodDescriptor yX9_isDoubled.desc).map (fun d => d.parameters.length) = some 1)⟩ ⟨hR, by decide⟩ kx_100 rfl (fun q hq l => c_X9_isDoubled hq l) rfl hr kk
def f_X9_canBe_92 (w : Wd) (rec45 : Int32 → Int32 → Int32 → Int32 → Option (Int32)) (x1 : Int32) (x2 : Int32) (x4 : Int32) (t0 : Int32) : Option (Int32) := rec45 x1 x2 t0 (x4 + (1:Int32))
set_option maxRecDepth 20000 in
theorem b_X9_canBe_92 {G : Gv} {V : Vt} {w : Wd} {rec45 : Int32 → Int32 → Int32 → Int32 → Option (Int32)} {res : Int32}  (C : CX cX9_canBe RX9 G SM 5 4 (some FieldType.boolean) (some (.int res)) w V) (hrec45 : ∀ (x1 : Int32) (x2 : Int32) (x3 : Int32) (x4 : Int32), rec45 x1 x2 x3 x4 = some res → V w 45 [(0, .ref (G.2 100)), (1, .int x1), (2, .int x2), (3, .int x3), (4, .int x4)] []) {x1 : Int32} {x2 : Int32} {x4 : Int32} {t0 : Int32} (h : f_X9_canBe_92 w rec45 x1 x2 x4 t0 = some res) : V w 92 [(0, .ref (G.2 100)), (1, .int x1), (2, .int x2), (4, .int x4)] [.int t0] := by
  unfold f_X9_canBe_92 at h
  refine r_istore_n (L' := [(3, .int t0), (0, .ref (G.2 100)), (1, .int x1), (2, .int x2), (4, .int x4)]) (pc := 92) C dX9_canBe_92 rfl (by decide) rfl ?_
  refine r_iinc (v := (x4 + (1:Int32))) (L' := [(4, .int (x4 + (1:Int32))), (3, .int t0), (0, .ref (G.2 100)), (1, .int x1), (2, .int x2)]) (pc := 93) C dX9_canBe_93 4 rfl rfl (by decide) rfl ?_
  refine r_goto (pc := 96) C 45 dX9_canBe_96 (by decide) ?_
  exact r_sub C [2, 3, 4, 1, 0] rfl (hrec45 _ _ _ _ h)
def f_X9_canBe_87 (w : Wd) (rec45 : Int32 → Int32 → Int32 → Int32 → Option (Int32)) (x1 : Int32) (x2 : Int32) (x4 : Int32) : Option (Int32) := f_X9_canBe_92 w rec45 x1 x2 x4 (1:Int32)
set_option maxRecDepth 20000 in
theorem b_X9_canBe_87 {G : Gv} {V : Vt} {w : Wd} {rec45 : Int32 → Int32 → Int32 → Int32 → Option (Int32)} {res : Int32}  (C : CX cX9_canBe RX9 G SM 5 4 (some FieldType.boolean) (some (.int res)) w V) (hrec45 : ∀ (x1 : Int32) (x2 : Int32) (x3 : Int32) (x4 : Int32), rec45 x1 x2 x3 x4 = some res → V w 45 [(0, .ref (G.2 100)), (1, .int x1), (2, .int x2), (3, .int x3), (4, .int x4)] []) {x1 : Int32} {x2 : Int32} {x4 : Int32} (h : f_X9_canBe_87 w rec45 x1 x2 x4 = some res) : V w 87 [(0, .ref (G.2 100)), (1, .int x1), (2, .int x2), (4, .int x4)] [] := by
  unfold f_X9_canBe_87 at h
  refine r_iconst (v := (1:Int32)) (pc := 87) C dX9_canBe_87 (by decide) ?_
  refine r_goto (pc := 88) C 92 dX9_canBe_88 (by decide) ?_
  exact r_sub C [0, 1, 2, 3] rfl (b_X9_canBe_92 C hrec45 h)
def fb_X9_canBe_45 (w : Wd) (rec45 : Int32 → Int32 → Int32 → Int32 → Option (Int32)) (x1 : Int32) (x2 : Int32) (x3 : Int32) (x4 : Int32) : Option (Int32) := (if x1 ≤ x4 then zk x3 (some x3) else (if x3 = 0 then zk x3 (some x3) else (if x2 < 0 then zk x3 (some x3) else ald w 106 5 x4 (fun v1 => (if ¬ v1 = x2 then f_X9_canBe_87 w rec45 x1 x2 x4 else bd (f_X9_isDoubled w x4) (fun q2 => (if ¬ q2 = 0 then f_X9_canBe_87 w rec45 x1 x2 x4 else bd (f_X9_isDoubled w x1) (fun q3 => (if q3 = 0 then f_X9_canBe_92 w rec45 x1 x2 x4 (0:Int32) else f_X9_canBe_87 w rec45 x1 x2 x4)))))))))
set_option maxRecDepth 20000 in
theorem bb_X9_canBe_45 {G : Gv} {V : Vt} {w : Wd} {rec45 : Int32 → Int32 → Int32 → Int32 → Option (Int32)} {res : Int32}  (C : CX cX9_canBe RX9 G SM 5 4 (some FieldType.boolean) (some (.int res)) w V) (hrec45 : ∀ (x1 : Int32) (x2 : Int32) (x3 : Int32) (x4 : Int32), rec45 x1 x2 x3 x4 = some res → V w 45 [(0, .ref (G.2 100)), (1, .int x1), (2, .int x2), (3, .int x3), (4, .int x4)] []) {x1 : Int32} {x2 : Int32} {x3 : Int32} {x4 : Int32} (h : fb_X9_canBe_45 w rec45 x1 x2 x3 x4 = some res) : V w 45 [(0, .ref (G.2 100)), (1, .int x1), (2, .int x2), (3, .int x3), (4, .int x4)] [] := by
  unfold fb_X9_canBe_45 at h
  refine r_iload (pc := 45) C dX9_canBe_45 4 rfl ?_
  refine r_iload_n (pc := 47) C dX9_canBe_47 rfl 1 rfl ?_
  refine r_icmp_ge (pc := 48) C 99 dX9_canBe_48 (by decide) h (fun h => ?_) (fun h => ?_)
  · refine r_iload_n (pc := 99) C dX9_canBe_99 rfl 3 rfl ?_
    refine r_zk h (fun hn h => ?_)
    exact r_zretP (pc := 100) C hn dX9_canBe_100 h
  · refine r_iload_n (pc := 51) C dX9_canBe_51 rfl 3 rfl ?_
    refine r_if_eq (pc := 52) C 99 dX9_canBe_52 (by decide) h (fun h => ?_) (fun h => ?_)
    · refine r_iload_n (pc := 99) C dX9_canBe_99 rfl 3 rfl ?_
      refine r_zk h (fun hn h => ?_)
      exact r_zretP (pc := 100) C hn dX9_canBe_100 h
    · refine r_iload_n (pc := 55) C dX9_canBe_55 rfl 2 rfl ?_
      refine r_if_lt (pc := 56) C 99 dX9_canBe_56 (by decide) h (fun h => ?_) (fun h => ?_)
      · refine r_iload_n (pc := 99) C dX9_canBe_99 rfl 3 rfl ?_
        refine r_zk h (fun hn h => ?_)
        exact r_zretP (pc := 100) C hn dX9_canBe_100 h
      · refine r_aload_n (pc := 59) C dX9_canBe_59 rfl 0 rfl ?_
        refine gr_X9_25 (pc := 60) 106 C dX9_canBe_60 kx_100 rfl ?_
        refine r_iload (pc := 63) C dX9_canBe_63 4 rfl ?_
        refine r_ald (pc := 65) C dX9_canBe_65 h kx_106 (fun v1 h => ?_)
        refine r_iload_n (pc := 66) C dX9_canBe_66 rfl 2 rfl ?_
        refine r_icmp_ne (pc := 67) C 87 dX9_canBe_67 (by decide) h (fun h => ?_) (fun h => ?_)
        · exact r_sub C [0, 1, 2, 4] rfl (b_X9_canBe_87 C hrec45 h)
        · refine r_aload_n (pc := 70) C dX9_canBe_70 rfl 0 rfl ?_
          refine r_iload (pc := 71) C dX9_canBe_71 4 rfl ?_
          refine cv_X9_190 (pc := 73) C dX9_canBe_73  h (by decide) (Nat.le_of_ble_eq_true rfl) (fun q2 h => ?_)
          refine r_if_ne (pc := 76) C 87 dX9_canBe_76 (by decide) h (fun h => ?_) (fun h => ?_)
          · exact r_sub C [0, 1, 2, 4] rfl (b_X9_canBe_87 C hrec45 h)
          · refine r_aload_n (pc := 79) C dX9_canBe_79 rfl 0 rfl ?_
            refine r_iload_n (pc := 80) C dX9_canBe_80 rfl 1 rfl ?_
            refine cv_X9_190 (pc := 81) C dX9_canBe_81  h (by decide) (Nat.le_of_ble_eq_true rfl) (fun q3 h => ?_)
            refine r_if_eq (pc := 84) C 91 dX9_canBe_84 (by decide) h (fun h => ?_) (fun h => ?_)
            · refine r_iconst (v := (0:Int32)) (pc := 91) C dX9_canBe_91 (by decide) ?_
              exact r_sub C [0, 1, 2, 4] rfl (b_X9_canBe_92 C hrec45 h)
            · exact r_sub C [0, 1, 2, 4] rfl (b_X9_canBe_87 C hrec45 h)
def f_X9_canBe_45 (w : Wd) : Int32 → Int32 → Int32 → Int32 → Option (Int32) := lp (fun _ _ _ _ => none) (fun rec => fb_X9_canBe_45 w rec) FU
theorem b_X9_canBe_45 {G : Gv} {V : Vt} {w : Wd} {res : Int32}  (C : CX cX9_canBe RX9 G SM 5 4 (some FieldType.boolean) (some (.int res)) w V) : ∀ (x1 : Int32) (x2 : Int32) (x3 : Int32) (x4 : Int32), (f_X9_canBe_45 w) x1 x2 x3 x4 = some res → V w 45 [(0, .ref (G.2 100)), (1, .int x1), (2, .int x2), (3, .int x3), (4, .int x4)] [] :=
  lp_ind (P := fun (g : Int32 → Int32 → Int32 → Int32 → Option (Int32)) => ∀ (x1 : Int32) (x2 : Int32) (x3 : Int32) (x4 : Int32), g x1 x2 x3 x4 = some res → V w 45 [(0, .ref (G.2 100)), (1, .int x1), (2, .int x2), (3, .int x3), (4, .int x4)] []) (fun _ _ _ _ h => by cases h) (fun g hg _ _ _ _ h => bb_X9_canBe_45 C hg h) FU
def f_X9_canBe_42 (w : Wd) (x1 : Int32) (x2 : Int32) (x3 : Int32) : Option (Int32) := f_X9_canBe_45 w x1 x2 x3 (0:Int32)
set_option maxRecDepth 20000 in
theorem b_X9_canBe_42 {G : Gv} {V : Vt} {w : Wd} {res : Int32}  (C : CX cX9_canBe RX9 G SM 5 4 (some FieldType.boolean) (some (.int res)) w V) {x1 : Int32} {x2 : Int32} {x3 : Int32} (h : f_X9_canBe_42 w x1 x2 x3 = some res) : V w 42 [(0, .ref (G.2 100)), (1, .int x1), (2, .int x2), (3, .int x3)] [] := by
  unfold f_X9_canBe_42 at h
  refine r_iconst (v := (0:Int32)) (pc := 42) C dX9_canBe_42 (by decide) ?_
  refine r_istore (L' := [(4, .int (0:Int32)), (0, .ref (G.2 100)), (1, .int x1), (2, .int x2), (3, .int x3)]) (pc := 43) C dX9_canBe_43 (by decide) rfl ?_
  exact r_sub C [1, 2, 3, 4, 0] rfl (b_X9_canBe_45 C _ _ _ _ h)
def f_X9_canBe_26 (w : Wd) (x1 : Int32) (x2 : Int32) (t0 : Int32) : Option (Int32) := (if t0 = 0 then f_X9_canBe_42 w x1 x2 t0 else (if x2 < 0 then f_X9_canBe_42 w x1 x2 t0 else bd (f_X9_may w x2 x1) (fun q1 => f_X9_canBe_42 w x1 x2 q1)))
set_option maxRecDepth 20000 in
theorem b_X9_canBe_26 {G : Gv} {V : Vt} {w : Wd} {res : Int32}  (C : CX cX9_canBe RX9 G SM 5 4 (some FieldType.boolean) (some (.int res)) w V) {x1 : Int32} {x2 : Int32} {t0 : Int32} (h : f_X9_canBe_26 w x1 x2 t0 = some res) : V w 26 [(0, .ref (G.2 100)), (1, .int x1), (2, .int x2)] [.int t0] := by
  unfold f_X9_canBe_26 at h
  refine r_istore_n (L' := [(3, .int t0), (0, .ref (G.2 100)), (1, .int x1), (2, .int x2)]) (pc := 26) C dX9_canBe_26 rfl (by decide) rfl ?_
  refine r_iload_n (pc := 27) C dX9_canBe_27 rfl 0 rfl ?_
  refine r_if_eq (pc := 28) C 42 dX9_canBe_28 (by decide) h (fun h => ?_) (fun h => ?_)
  · exact r_sub C [1, 2, 3, 0] rfl (b_X9_canBe_42 C h)
  · refine r_iload_n (pc := 31) C dX9_canBe_31 rfl 3 rfl ?_
    refine r_if_lt (pc := 32) C 42 dX9_canBe_32 (by decide) h (fun h => ?_) (fun h => ?_)
    · exact r_sub C [1, 2, 3, 0] rfl (b_X9_canBe_42 C h)
    · refine r_aload_n (pc := 35) C dX9_canBe_35 rfl 1 rfl ?_
      refine r_iload_n (pc := 36) C dX9_canBe_36 rfl 3 rfl ?_
      refine r_iload_n (pc := 37) C dX9_canBe_37 rfl 2 rfl ?_
      refine cv_X9_81 (pc := 38) C dX9_canBe_38  h (by decide) (Nat.le_of_ble_eq_true rfl) (fun q1 h => ?_)
      refine r_istore_n (L' := [(3, .int q1), (0, .ref (G.2 100)), (1, .int x1), (2, .int x2)]) (pc := 41) C dX9_canBe_41 rfl (by decide) rfl ?_
      exact r_sub C [1, 2, 3, 0] rfl (b_X9_canBe_42 C h)
def f_X9_canBe (w : Wd) (p1 : Int32) (p2 : Int32) : Option (Int32) := bd (f_X9_isEmpty w p1) (fun q1 => (if q1 = 0 then bd (f_X9_isPlayer w p2) (fun q2 => f_X9_canBe_26 w p1 p2 q2) else (if ¬ p2 = (-1:Int32) then f_X9_canBe_26 w p1 p2 (0:Int32) else f_X9_canBe_26 w p1 p2 (1:Int32))))
set_option maxRecDepth 20000 in
theorem b_X9_canBe_E {G : Gv} {V : Vt} {w : Wd} {res : Int32}  (C : CX cX9_canBe RX9 G SM 5 4 (some FieldType.boolean) (some (.int res)) w V) {p1 : Int32} {p2 : Int32} (h : f_X9_canBe w p1 p2 = some res) : V w 0 [(0, .ref (G.2 100)), (1, .int p1), (2, .int p2)] [] := by
  unfold f_X9_canBe at h
  refine r_aload_n (pc := 0) C dX9_canBe_0 rfl 0 rfl ?_
  refine r_iload_n (pc := 1) C dX9_canBe_1 rfl 1 rfl ?_
  refine cv_X9_78 (pc := 2) C dX9_canBe_2  h (by decide) (Nat.le_of_ble_eq_true rfl) (fun q1 h => ?_)
  refine r_if_eq (pc := 5) C 21 dX9_canBe_5 (by decide) h (fun h => ?_) (fun h => ?_)
  · refine r_aload_n (pc := 21) C dX9_canBe_21 rfl 0 rfl ?_
    refine r_iload_n (pc := 22) C dX9_canBe_22 rfl 2 rfl ?_
    refine cv_X9_107 (pc := 23) C dX9_canBe_23  h (by decide) (Nat.le_of_ble_eq_true rfl) (fun q2 h => ?_)
    exact r_sub C [0, 1, 2] rfl (b_X9_canBe_26 C h)
  · refine r_iload_n (pc := 8) C dX9_canBe_8 rfl 2 rfl ?_
    refine r_iconst (v := (-1:Int32)) (pc := 9) C dX9_canBe_9 (by decide) ?_
    refine r_icmp_ne (pc := 10) C 17 dX9_canBe_10 (by decide) h (fun h => ?_) (fun h => ?_)
    · refine r_iconst (v := (0:Int32)) (pc := 17) C dX9_canBe_17 (by decide) ?_
      refine r_goto (pc := 18) C 26 dX9_canBe_18 (by decide) ?_
      exact r_sub C [0, 1, 2] rfl (b_X9_canBe_26 C h)
    · refine r_iconst (v := (1:Int32)) (pc := 13) C dX9_canBe_13 (by decide) ?_
      refine r_goto (pc := 14) C 26 dX9_canBe_14 (by decide) ?_
      exact r_sub C [0, 1, 2] rfl (b_X9_canBe_26 C h)
theorem c_X9_canBe {G : Gv} {p1 : Int32} {p2 : Int32} {w : Wd} {res : Int32} (h : f_X9_canBe w p1 p2 = some res) (l : Launch) : MC l yX9_canBe cX9_canBe 5 (some FieldType.boolean) 4 G SM w [.ref (G.2 100), .int p1, .int p2] (some (.int res)) w := mc_of (by decide +kernel) rfl (Nat.le_of_ble_eq_true rfl) rfl (fun V C => b_X9_canBe_E C h) l
theorem cv_X9_193 {cc : ByteArray} {G : Gv} {n hc : Nat} {rt : Option FieldType} {rv : Option Value} {w0 : Wd} {V : Vt} {w : Wd} {pc : Nat} {L : List (Nat × Value)} {rest : List Value} {α : Type} {res : α} {p1 : Int32} {p2 : Int32} {K : Int32 → Option α} (C : CX cc RX9 G SM n hc rt rv w0 V) (hd : decode cc pc = .ok (.invokevirtual 193, 3)) (h : bd (f_X9_canBe w p1 p2) K = some res) (hR : 4 + 1 ≤ hc) (hr : (rest.map fun v => v.category).sum ≤ 8) (kk : ∀ q, K q = some res → V w (pc + 3) L (.int q :: rest)) : V w pc L (.int p2 :: .int p1 :: .ref (G.2 100) :: rest) := r_callV (As := [.int p1, .int p2]) (rest := rest) (rvf := fun q => (some (.int q))) (wf := fun q => w) C hd h ql_X9_193 qi_X9_canBe qs_X9_canBe qn_X9 qc_X9_canBe ⟨rfl, by decide +kernel, by decide +kernel, (by decide +kernel : (parseMethodDescriptor yX9_canBe.desc).map (fun d => d.parameters.length) = some 2)⟩ ⟨hR, by decide⟩ kx_100 rfl (fun q hq l => c_X9_canBe hq l) rfl hr kk
def f_X9_goesOnFrom_157 (x2 : Int32) (w : Wd) : Option (Int32 × Wd) := (if x2 < 0 then some ((0:Int32), w) else some ((1:Int32), w))
set_option maxRecDepth 20000 in
theorem b_X9_goesOnFrom_157 {G : Gv} {V : Vt} {res : Int32 × Wd}  (C : CX cX9_goesOnFrom RX9 G SM 4 5 (some FieldType.boolean) (some (.int res.1)) res.2 V) {x2 : Int32} {w : Wd} (h : f_X9_goesOnFrom_157 x2 w = some res) : V w 157 [(2, .int x2)] [] := by
  unfold f_X9_goesOnFrom_157 at h
  refine r_iload_n (pc := 157) C dX9_goesOnFrom_157 rfl 0 rfl ?_
  refine r_if_lt (pc := 158) C 165 dX9_goesOnFrom_158 (by decide) h (fun h => ?_) (fun h => ?_)
  · refine r_iconst (v := (0:Int32)) (pc := 165) C dX9_goesOnFrom_165 (by decide) ?_
    exact r_zretE (pc := 166) C rfl dX9_goesOnFrom_166 h
  · refine r_iconst (v := (1:Int32)) (pc := 161) C dX9_goesOnFrom_161 (by decide) ?_
    refine r_goto (pc := 162) C 166 dX9_goesOnFrom_162 (by decide) ?_
    exact r_zretE (pc := 166) C rfl dX9_goesOnFrom_166 h
def f_X9_goesOnFrom_154 (rec2 : Int32 → Wd → Option (Int32 × Wd)) (x2 : Int32) (w : Wd) : Option (Int32 × Wd) := rec2 x2 w
set_option maxRecDepth 20000 in
theorem b_X9_goesOnFrom_154 {G : Gv} {V : Vt} {rec2 : Int32 → Wd → Option (Int32 × Wd)} {res : Int32 × Wd}  (C : CX cX9_goesOnFrom RX9 G SM 4 5 (some FieldType.boolean) (some (.int res.1)) res.2 V) (hrec2 : ∀ (x2 : Int32) (w : Wd), rec2 x2 w = some res → V w 2 [(0, .ref (G.2 100)), (2, .int x2)] []) {x2 : Int32} {w : Wd} (h : f_X9_goesOnFrom_154 rec2 x2 w = some res) : V w 154 [(0, .ref (G.2 100)), (2, .int x2)] [] := by
  unfold f_X9_goesOnFrom_154 at h
  refine r_goto (pc := 154) C 2 dX9_goesOnFrom_154 (by decide) ?_
  exact r_sub C [0, 1] rfl (hrec2 _ _ h)
def f_X9_goesOnFrom_147 (rec2 : Int32 → Wd → Option (Int32 × Wd)) (x2 : Int32) (t0 : Int32) (t1 : Int32) (w : Wd) : Option (Int32 × Wd) := ast w 106 5 t1 t0 (fun w1 => f_X9_goesOnFrom_154 rec2 x2 w1)
set_option maxRecDepth 20000 in
theorem b_X9_goesOnFrom_147 {G : Gv} {V : Vt} {rec2 : Int32 → Wd → Option (Int32 × Wd)} {res : Int32 × Wd}  (C : CX cX9_goesOnFrom RX9 G SM 4 5 (some FieldType.boolean) (some (.int res.1)) res.2 V) (hrec2 : ∀ (x2 : Int32) (w : Wd), rec2 x2 w = some res → V w 2 [(0, .ref (G.2 100)), (2, .int x2)] []) {x2 : Int32} {t0 : Int32} {t1 : Int32} {w : Wd} (h : f_X9_goesOnFrom_147 rec2 x2 t0 t1 w = some res) : V w 147 [(0, .ref (G.2 100)), (2, .int x2)] [.int t0, .int t1, .ref (G.2 106)] := by
  unfold f_X9_goesOnFrom_147 at h
  refine r_ast (pc := 147) C dX9_goesOnFrom_147 h kx_106 (fun w1 h => ?_)
  refine r_goto (pc := 148) C 154 dX9_goesOnFrom_148 (by decide) ?_
  exact r_sub C [0, 1] rfl (b_X9_goesOnFrom_154 C hrec2 h)
def f_X9_goesOnFrom_97 (rec2 : Int32 → Wd → Option (Int32 × Wd)) (x2 : Int32) (x3 : Int32) (w : Wd) : Option (Int32 × Wd) := ald w 101 229 (8:Int32) (fun v1 => (if v1 ≤ x3 then f_X9_goesOnFrom_154 rec2 (x2 + (-1:Int32)) w else ast w 106 5 x2 x3 (fun w2 => ald w2 101 229 (3:Int32) (fun v3 => (if v3 ≤ (x2 + (1:Int32)) then f_X9_goesOnFrom_154 rec2 (x2 + (1:Int32)) w2 else bd (f_X9_isEmpty w2 (x2 + (1:Int32))) (fun q4 => (if q4 = 0 then f_X9_goesOnFrom_147 rec2 (x2 + (1:Int32)) (-1:Int32) (x2 + (1:Int32)) w2 else f_X9_goesOnFrom_147 rec2 (x2 + (1:Int32)) (-2:Int32) (x2 + (1:Int32)) w2)))))))
set_option maxRecDepth 20000 in
theorem b_X9_goesOnFrom_97 {G : Gv} {V : Vt} {rec2 : Int32 → Wd → Option (Int32 × Wd)} {res : Int32 × Wd}  (C : CX cX9_goesOnFrom RX9 G SM 4 5 (some FieldType.boolean) (some (.int res.1)) res.2 V) (hrec2 : ∀ (x2 : Int32) (w : Wd), rec2 x2 w = some res → V w 2 [(0, .ref (G.2 100)), (2, .int x2)] []) {x2 : Int32} {x3 : Int32} {w : Wd} (h : f_X9_goesOnFrom_97 rec2 x2 x3 w = some res) : V w 97 [(0, .ref (G.2 100)), (2, .int x2), (3, .int x3)] [] := by
  unfold f_X9_goesOnFrom_97 at h
  refine r_iload_n (pc := 97) C dX9_goesOnFrom_97 rfl 2 rfl ?_
  refine r_aload_n (pc := 98) C dX9_goesOnFrom_98 rfl 0 rfl ?_
  refine gr_X9_7 (pc := 99) 101 C dX9_goesOnFrom_99 kx_100 rfl ?_
  refine r_bipush (v := (8:Int32)) (pc := 102) C dX9_goesOnFrom_102 (by decide) ?_
  refine r_ald (pc := 104) C dX9_goesOnFrom_104 h kx_101 (fun v1 h => ?_)
  refine r_icmp_ge (pc := 105) C 151 dX9_goesOnFrom_105 (by decide) h (fun h => ?_) (fun h => ?_)
  · refine r_iinc (v := (x2 + (-1:Int32))) (L' := [(2, .int (x2 + (-1:Int32))), (0, .ref (G.2 100)), (3, .int x3)]) (pc := 151) C dX9_goesOnFrom_151 1 rfl rfl (by decide) rfl ?_
    exact r_sub C [1, 0] rfl (b_X9_goesOnFrom_154 C hrec2 h)
  · refine r_aload_n (pc := 108) C dX9_goesOnFrom_108 rfl 0 rfl ?_
    refine gr_X9_25 (pc := 109) 106 C dX9_goesOnFrom_109 kx_100 rfl ?_
    refine r_iload_n (pc := 112) C dX9_goesOnFrom_112 rfl 1 rfl ?_
    refine r_iload_n (pc := 113) C dX9_goesOnFrom_113 rfl 2 rfl ?_
    refine r_ast (pc := 114) C dX9_goesOnFrom_114 h kx_106 (fun w2 h => ?_)
    refine r_iinc (v := (x2 + (1:Int32))) (L' := [(2, .int (x2 + (1:Int32))), (0, .ref (G.2 100)), (3, .int x3)]) (pc := 115) C dX9_goesOnFrom_115 1 rfl rfl (by decide) rfl ?_
    refine r_iload_n (pc := 118) C dX9_goesOnFrom_118 rfl 0 rfl ?_
    refine r_aload_n (pc := 119) C dX9_goesOnFrom_119 rfl 1 rfl ?_
    refine gr_X9_7 (pc := 120) 101 C dX9_goesOnFrom_120 kx_100 rfl ?_
    refine r_iconst (v := (3:Int32)) (pc := 123) C dX9_goesOnFrom_123 (by decide) ?_
    refine r_ald (pc := 124) C dX9_goesOnFrom_124 h kx_101 (fun v3 h => ?_)
    refine r_icmp_ge (pc := 125) C 154 dX9_goesOnFrom_125 (by decide) h (fun h => ?_) (fun h => ?_)
    · exact r_sub C [1, 0] rfl (b_X9_goesOnFrom_154 C hrec2 h)
    · refine r_aload_n (pc := 128) C dX9_goesOnFrom_128 rfl 1 rfl ?_
      refine gr_X9_25 (pc := 129) 106 C dX9_goesOnFrom_129 kx_100 rfl ?_
      refine r_iload_n (pc := 132) C dX9_goesOnFrom_132 rfl 0 rfl ?_
      refine r_aload_n (pc := 133) C dX9_goesOnFrom_133 rfl 1 rfl ?_
      refine r_iload_n (pc := 134) C dX9_goesOnFrom_134 rfl 0 rfl ?_
      refine cv_X9_78 (pc := 135) C dX9_goesOnFrom_135  h (by decide) (Nat.le_of_ble_eq_true rfl) (fun q4 h => ?_)
      refine r_if_eq (pc := 138) C 146 dX9_goesOnFrom_138 (by decide) h (fun h => ?_) (fun h => ?_)
      · refine r_iconst (v := (-1:Int32)) (pc := 146) C dX9_goesOnFrom_146 (by decide) ?_
        exact r_sub C [1, 0] rfl (b_X9_goesOnFrom_147 C hrec2 h)
      · refine r_bipush (v := (-2:Int32)) (pc := 141) C dX9_goesOnFrom_141 (by decide) ?_
        refine r_goto (pc := 143) C 147 dX9_goesOnFrom_143 (by decide) ?_
        exact r_sub C [1, 0] rfl (b_X9_goesOnFrom_147 C hrec2 h)
def f_X9_goesOnFrom_71 (rec2 : Int32 → Wd → Option (Int32 × Wd)) (x2 : Int32) (x3 : Int32) (w : Wd) : Option (Int32 × Wd) := bd (f_X9_isEmpty w x2) (fun q1 => (if q1 = 0 then f_X9_goesOnFrom_97 rec2 x2 x3 w else ald w 106 5 x2 (fun v2 => (if ¬ v2 = (-1:Int32) then f_X9_goesOnFrom_97 rec2 x2 x3 w else ald w 101 229 (8:Int32) (fun v3 => f_X9_goesOnFrom_97 rec2 x2 v3 w)))))
set_option maxRecDepth 20000 in
theorem b_X9_goesOnFrom_71 {G : Gv} {V : Vt} {rec2 : Int32 → Wd → Option (Int32 × Wd)} {res : Int32 × Wd}  (C : CX cX9_goesOnFrom RX9 G SM 4 5 (some FieldType.boolean) (some (.int res.1)) res.2 V) (hrec2 : ∀ (x2 : Int32) (w : Wd), rec2 x2 w = some res → V w 2 [(0, .ref (G.2 100)), (2, .int x2)] []) {x2 : Int32} {x3 : Int32} {w : Wd} (h : f_X9_goesOnFrom_71 rec2 x2 x3 w = some res) : V w 71 [(0, .ref (G.2 100)), (2, .int x2), (3, .int x3)] [] := by
  unfold f_X9_goesOnFrom_71 at h
  refine r_aload_n (pc := 71) C dX9_goesOnFrom_71 rfl 0 rfl ?_
  refine r_iload_n (pc := 72) C dX9_goesOnFrom_72 rfl 1 rfl ?_
  refine cv_X9_78 (pc := 73) C dX9_goesOnFrom_73  h (by decide) (Nat.le_of_ble_eq_true rfl) (fun q1 h => ?_)
  refine r_if_eq (pc := 76) C 97 dX9_goesOnFrom_76 (by decide) h (fun h => ?_) (fun h => ?_)
  · exact r_sub C [0, 1, 2] rfl (b_X9_goesOnFrom_97 C hrec2 h)
  · refine r_aload_n (pc := 79) C dX9_goesOnFrom_79 rfl 0 rfl ?_
    refine gr_X9_25 (pc := 80) 106 C dX9_goesOnFrom_80 kx_100 rfl ?_
    refine r_iload_n (pc := 83) C dX9_goesOnFrom_83 rfl 1 rfl ?_
    refine r_ald (pc := 84) C dX9_goesOnFrom_84 h kx_106 (fun v2 h => ?_)
    refine r_iconst (v := (-1:Int32)) (pc := 85) C dX9_goesOnFrom_85 (by decide) ?_
    refine r_icmp_ne (pc := 86) C 97 dX9_goesOnFrom_86 (by decide) h (fun h => ?_) (fun h => ?_)
    · exact r_sub C [0, 1, 2] rfl (b_X9_goesOnFrom_97 C hrec2 h)
    · refine r_aload_n (pc := 89) C dX9_goesOnFrom_89 rfl 0 rfl ?_
      refine gr_X9_7 (pc := 90) 101 C dX9_goesOnFrom_90 kx_100 rfl ?_
      refine r_bipush (v := (8:Int32)) (pc := 93) C dX9_goesOnFrom_93 (by decide) ?_
      refine r_ald (pc := 95) C dX9_goesOnFrom_95 h kx_101 (fun v3 h => ?_)
      refine r_istore_n (L' := [(3, .int v3), (0, .ref (G.2 100)), (2, .int x2)]) (pc := 96) C dX9_goesOnFrom_96 rfl (by decide) rfl ?_
      exact r_sub C [1, 2, 0] rfl (b_X9_goesOnFrom_97 C hrec2 h)
def f_X9_goesOnFrom_51 (rec2 : Int32 → Wd → Option (Int32 × Wd)) (x2 : Int32) (x3 : Int32) (w : Wd) : Option (Int32 × Wd) := bd (f_X9_isEmpty w x2) (fun q1 => (if q1 = 0 then f_X9_goesOnFrom_71 rec2 x2 x3 w else ald w 106 5 x2 (fun v2 => (if (-1:Int32) ≤ v2 then f_X9_goesOnFrom_71 rec2 x2 x3 w else f_X9_goesOnFrom_71 rec2 x2 (-1:Int32) w))))
set_option maxRecDepth 20000 in
theorem b_X9_goesOnFrom_51 {G : Gv} {V : Vt} {rec2 : Int32 → Wd → Option (Int32 × Wd)} {res : Int32 × Wd}  (C : CX cX9_goesOnFrom RX9 G SM 4 5 (some FieldType.boolean) (some (.int res.1)) res.2 V) (hrec2 : ∀ (x2 : Int32) (w : Wd), rec2 x2 w = some res → V w 2 [(0, .ref (G.2 100)), (2, .int x2)] []) {x2 : Int32} {x3 : Int32} {w : Wd} (h : f_X9_goesOnFrom_51 rec2 x2 x3 w = some res) : V w 51 [(0, .ref (G.2 100)), (2, .int x2), (3, .int x3)] [] := by
  unfold f_X9_goesOnFrom_51 at h
  refine r_aload_n (pc := 51) C dX9_goesOnFrom_51 rfl 0 rfl ?_
  refine r_iload_n (pc := 52) C dX9_goesOnFrom_52 rfl 1 rfl ?_
  refine cv_X9_78 (pc := 53) C dX9_goesOnFrom_53  h (by decide) (Nat.le_of_ble_eq_true rfl) (fun q1 h => ?_)
  refine r_if_eq (pc := 56) C 71 dX9_goesOnFrom_56 (by decide) h (fun h => ?_) (fun h => ?_)
  · exact r_sub C [0, 1, 2] rfl (b_X9_goesOnFrom_71 C hrec2 h)
  · refine r_aload_n (pc := 59) C dX9_goesOnFrom_59 rfl 0 rfl ?_
    refine gr_X9_25 (pc := 60) 106 C dX9_goesOnFrom_60 kx_100 rfl ?_
    refine r_iload_n (pc := 63) C dX9_goesOnFrom_63 rfl 1 rfl ?_
    refine r_ald (pc := 64) C dX9_goesOnFrom_64 h kx_106 (fun v2 h => ?_)
    refine r_iconst (v := (-1:Int32)) (pc := 65) C dX9_goesOnFrom_65 (by decide) ?_
    refine r_icmp_ge (pc := 66) C 71 dX9_goesOnFrom_66 (by decide) h (fun h => ?_) (fun h => ?_)
    · exact r_sub C [0, 1, 2] rfl (b_X9_goesOnFrom_71 C hrec2 h)
    · refine r_iconst (v := (-1:Int32)) (pc := 69) C dX9_goesOnFrom_69 (by decide) ?_
      refine r_istore_n (L' := [(3, .int (-1:Int32)), (0, .ref (G.2 100)), (2, .int x2)]) (pc := 70) C dX9_goesOnFrom_70 rfl (by decide) rfl ?_
      exact r_sub C [1, 2, 0] rfl (b_X9_goesOnFrom_71 C hrec2 h)
def fb_X9_goesOnFrom_25 (rec2 : Int32 → Wd → Option (Int32 × Wd)) (rec25 : Int32 → Int32 → Wd → Option (Int32 × Wd)) (x2 : Int32) (x3 : Int32) (w : Wd) : Option (Int32 × Wd) := ald w 101 229 (8:Int32) (fun v1 => (if v1 ≤ x3 then f_X9_goesOnFrom_51 rec2 x2 x3 w else bd (f_X9_canBe w x2 x3) (fun q2 => (if ¬ q2 = 0 then f_X9_goesOnFrom_51 rec2 x2 x3 w else rec25 x2 (x3 + (1:Int32)) w))))
set_option maxRecDepth 20000 in
theorem bb_X9_goesOnFrom_25 {G : Gv} {V : Vt} {rec2 : Int32 → Wd → Option (Int32 × Wd)} {rec25 : Int32 → Int32 → Wd → Option (Int32 × Wd)} {res : Int32 × Wd}  (C : CX cX9_goesOnFrom RX9 G SM 4 5 (some FieldType.boolean) (some (.int res.1)) res.2 V) (hrec2 : ∀ (x2 : Int32) (w : Wd), rec2 x2 w = some res → V w 2 [(0, .ref (G.2 100)), (2, .int x2)] []) (hrec25 : ∀ (x2 : Int32) (x3 : Int32) (w : Wd), rec25 x2 x3 w = some res → V w 25 [(0, .ref (G.2 100)), (2, .int x2), (3, .int x3)] []) {x2 : Int32} {x3 : Int32} {w : Wd} (h : fb_X9_goesOnFrom_25 rec2 rec25 x2 x3 w = some res) : V w 25 [(0, .ref (G.2 100)), (2, .int x2), (3, .int x3)] [] := by
  unfold fb_X9_goesOnFrom_25 at h
  refine r_iload_n (pc := 25) C dX9_goesOnFrom_25 rfl 2 rfl ?_
  refine r_aload_n (pc := 26) C dX9_goesOnFrom_26 rfl 0 rfl ?_
  refine gr_X9_7 (pc := 27) 101 C dX9_goesOnFrom_27 kx_100 rfl ?_
  refine r_bipush (v := (8:Int32)) (pc := 30) C dX9_goesOnFrom_30 (by decide) ?_
  refine r_ald (pc := 32) C dX9_goesOnFrom_32 h kx_101 (fun v1 h => ?_)
  refine r_icmp_ge (pc := 33) C 51 dX9_goesOnFrom_33 (by decide) h (fun h => ?_) (fun h => ?_)
  · exact r_sub C [0, 1, 2] rfl (b_X9_goesOnFrom_51 C hrec2 h)
  · refine r_aload_n (pc := 36) C dX9_goesOnFrom_36 rfl 0 rfl ?_
    refine r_iload_n (pc := 37) C dX9_goesOnFrom_37 rfl 1 rfl ?_
    refine r_iload_n (pc := 38) C dX9_goesOnFrom_38 rfl 2 rfl ?_
    refine cv_X9_193 (pc := 39) C dX9_goesOnFrom_39  h (by decide) (Nat.le_of_ble_eq_true rfl) (fun q2 h => ?_)
    refine r_if_ne (pc := 42) C 51 dX9_goesOnFrom_42 (by decide) h (fun h => ?_) (fun h => ?_)
    · exact r_sub C [0, 1, 2] rfl (b_X9_goesOnFrom_51 C hrec2 h)
    · refine r_iinc (v := (x3 + (1:Int32))) (L' := [(3, .int (x3 + (1:Int32))), (0, .ref (G.2 100)), (2, .int x2)]) (pc := 45) C dX9_goesOnFrom_45 2 rfl rfl (by decide) rfl ?_
      refine r_goto (pc := 48) C 25 dX9_goesOnFrom_48 (by decide) ?_
      exact r_sub C [1, 2, 0] rfl (hrec25 _ _ _ h)
def f_X9_goesOnFrom_25 (rec2 : Int32 → Wd → Option (Int32 × Wd)) : Int32 → Int32 → Wd → Option (Int32 × Wd) := lp (fun _ _ _ => none) (fun rec => fb_X9_goesOnFrom_25 rec2 rec) FU
theorem b_X9_goesOnFrom_25 {G : Gv} {V : Vt} {rec2 : Int32 → Wd → Option (Int32 × Wd)} {res : Int32 × Wd}  (C : CX cX9_goesOnFrom RX9 G SM 4 5 (some FieldType.boolean) (some (.int res.1)) res.2 V) (hrec2 : ∀ (x2 : Int32) (w : Wd), rec2 x2 w = some res → V w 2 [(0, .ref (G.2 100)), (2, .int x2)] []) : ∀ (x2 : Int32) (x3 : Int32) (w : Wd), (f_X9_goesOnFrom_25 rec2) x2 x3 w = some res → V w 25 [(0, .ref (G.2 100)), (2, .int x2), (3, .int x3)] [] :=
  lp_ind (P := fun (g : Int32 → Int32 → Wd → Option (Int32 × Wd)) => ∀ (x2 : Int32) (x3 : Int32) (w : Wd), g x2 x3 w = some res → V w 25 [(0, .ref (G.2 100)), (2, .int x2), (3, .int x3)] []) (fun _ _ _ h => by cases h) (fun g hg _ _ _ h => bb_X9_goesOnFrom_25 C hrec2 hg h) FU
def fb_X9_goesOnFrom_2 (rec2 : Int32 → Wd → Option (Int32 × Wd)) (x2 : Int32) (w : Wd) : Option (Int32 × Wd) := (if x2 < 0 then f_X9_goesOnFrom_157 x2 w else ald w 101 229 (3:Int32) (fun v1 => (if v1 ≤ x2 then f_X9_goesOnFrom_157 x2 w else ald w 106 5 x2 (fun v2 => lv (v2 + (1:Int32)) (fun v3 => f_X9_goesOnFrom_25 rec2 x2 v3 w)))))
set_option maxRecDepth 20000 in
theorem bb_X9_goesOnFrom_2 {G : Gv} {V : Vt} {rec2 : Int32 → Wd → Option (Int32 × Wd)} {res : Int32 × Wd}  (C : CX cX9_goesOnFrom RX9 G SM 4 5 (some FieldType.boolean) (some (.int res.1)) res.2 V) (hrec2 : ∀ (x2 : Int32) (w : Wd), rec2 x2 w = some res → V w 2 [(0, .ref (G.2 100)), (2, .int x2)] []) {x2 : Int32} {w : Wd} (h : fb_X9_goesOnFrom_2 rec2 x2 w = some res) : V w 2 [(0, .ref (G.2 100)), (2, .int x2)] [] := by
  unfold fb_X9_goesOnFrom_2 at h
  refine r_iload_n (pc := 2) C dX9_goesOnFrom_2 rfl 1 rfl ?_
  refine r_if_lt (pc := 3) C 157 dX9_goesOnFrom_3 (by decide) h (fun h => ?_) (fun h => ?_)
  · exact r_sub C [1] rfl (b_X9_goesOnFrom_157 C h)
  · refine r_iload_n (pc := 6) C dX9_goesOnFrom_6 rfl 1 rfl ?_
    refine r_aload_n (pc := 7) C dX9_goesOnFrom_7 rfl 0 rfl ?_
    refine gr_X9_7 (pc := 8) 101 C dX9_goesOnFrom_8 kx_100 rfl ?_
    refine r_iconst (v := (3:Int32)) (pc := 11) C dX9_goesOnFrom_11 (by decide) ?_
    refine r_ald (pc := 12) C dX9_goesOnFrom_12 h kx_101 (fun v1 h => ?_)
    refine r_icmp_ge (pc := 13) C 157 dX9_goesOnFrom_13 (by decide) h (fun h => ?_) (fun h => ?_)
    · exact r_sub C [1] rfl (b_X9_goesOnFrom_157 C h)
    · refine r_aload_n (pc := 16) C dX9_goesOnFrom_16 rfl 0 rfl ?_
      refine gr_X9_25 (pc := 17) 106 C dX9_goesOnFrom_17 kx_100 rfl ?_
      refine r_iload_n (pc := 20) C dX9_goesOnFrom_20 rfl 1 rfl ?_
      refine r_ald (pc := 21) C dX9_goesOnFrom_21 h kx_106 (fun v2 h => ?_)
      refine r_iconst (v := (1:Int32)) (pc := 22) C dX9_goesOnFrom_22 (by decide) ?_
      refine r_iadd (pc := 23) C dX9_goesOnFrom_23 ?_
      refine r_lv h (fun v3 h => ?_)
      refine r_istore_n (L' := [(3, .int v3), (0, .ref (G.2 100)), (2, .int x2)]) (pc := 24) C dX9_goesOnFrom_24 rfl (by decide) rfl ?_
      exact r_sub C [1, 2, 0] rfl (b_X9_goesOnFrom_25 C hrec2 _ _ _ h)
def f_X9_goesOnFrom_2 : Int32 → Wd → Option (Int32 × Wd) := lp (fun _ _ => none) (fun rec => fb_X9_goesOnFrom_2 rec) FU
theorem b_X9_goesOnFrom_2 {G : Gv} {V : Vt} {res : Int32 × Wd}  (C : CX cX9_goesOnFrom RX9 G SM 4 5 (some FieldType.boolean) (some (.int res.1)) res.2 V) : ∀ (x2 : Int32) (w : Wd), (f_X9_goesOnFrom_2) x2 w = some res → V w 2 [(0, .ref (G.2 100)), (2, .int x2)] [] :=
  lp_ind (P := fun (g : Int32 → Wd → Option (Int32 × Wd)) => ∀ (x2 : Int32) (w : Wd), g x2 w = some res → V w 2 [(0, .ref (G.2 100)), (2, .int x2)] []) (fun _ _ h => by cases h) (fun g hg _ _ h => bb_X9_goesOnFrom_2 C hg h) FU
def f_X9_goesOnFrom (p1 : Int32) (w : Wd) : Option (Int32 × Wd) := f_X9_goesOnFrom_2 p1 w
set_option maxRecDepth 20000 in
theorem b_X9_goesOnFrom_E {G : Gv} {V : Vt} {res : Int32 × Wd}  (C : CX cX9_goesOnFrom RX9 G SM 4 5 (some FieldType.boolean) (some (.int res.1)) res.2 V) {p1 : Int32} {w : Wd} (h : f_X9_goesOnFrom p1 w = some res) : V w 0 [(0, .ref (G.2 100)), (1, .int p1)] [] := by
  unfold f_X9_goesOnFrom at h
  refine r_iload_n (pc := 0) C dX9_goesOnFrom_0 rfl 1 rfl ?_
  refine r_istore_n (L' := [(2, .int p1), (0, .ref (G.2 100)), (1, .int p1)]) (pc := 1) C dX9_goesOnFrom_1 rfl (by decide) rfl ?_
  exact r_sub C [1, 0] rfl (b_X9_goesOnFrom_2 C _ _ h)
theorem c_X9_goesOnFrom {G : Gv} {p1 : Int32} {w : Wd} {res : Int32 × Wd} (h : f_X9_goesOnFrom p1 w = some res) (l : Launch) : MC l yX9_goesOnFrom cX9_goesOnFrom 4 (some FieldType.boolean) 5 G SM w [.ref (G.2 100), .int p1] (some (.int res.1)) res.2 := mc_of (by decide +kernel) rfl (Nat.le_of_ble_eq_true rfl) rfl (fun V C => b_X9_goesOnFrom_E C h) l
theorem cv_X9_196 {cc : ByteArray} {G : Gv} {n hc : Nat} {rt : Option FieldType} {rv : Option Value} {w0 : Wd} {V : Vt} {w : Wd} {pc : Nat} {L : List (Nat × Value)} {rest : List Value} {α : Type} {res : α} {p1 : Int32} {K : Int32 × Wd → Option α} (C : CX cc RX9 G SM n hc rt rv w0 V) (hd : decode cc pc = .ok (.invokevirtual 196, 3)) (h : bd (f_X9_goesOnFrom p1 w) K = some res) (hR : 5 + 1 ≤ hc) (hr : (rest.map fun v => v.category).sum ≤ 8) (kk : ∀ q, K q = some res → V q.2 (pc + 3) L (.int q.1 :: rest)) : V w pc L (.int p1 :: .ref (G.2 100) :: rest) := r_callV (As := [.int p1]) (rest := rest) (rvf := fun q => (some (.int q.1))) (wf := fun q => q.2) C hd h ql_X9_196 qi_X9_goesOnFrom qs_X9_goesOnFrom qn_X9 qc_X9_goesOnFrom ⟨rfl, by decide +kernel, by decide +kernel, (by decide +kernel : (parseMethodDescriptor yX9_goesOnFrom.desc).map (fun d => d.parameters.length) = some 1)⟩ ⟨hR, by decide⟩ kx_100 rfl (fun q hq l => c_X9_goesOnFrom hq l) rfl hr kk
def f_X9_isFirst_29 (w : Wd) : Option (Int32 × Wd) := bd (f_X9_goesOnFrom (0:Int32) w) (fun q1 => zk q1.1 (some (q1.1, q1.2)))
set_option maxRecDepth 20000 in
theorem b_X9_isFirst_29 {G : Gv} {V : Vt} {res : Int32 × Wd}  (C : CX cX9_isFirst RX9 G SM 1 6 (some FieldType.boolean) (some (.int res.1)) res.2 V) {w : Wd} (h : f_X9_isFirst_29 w = some res) : V w 29 [(0, .ref (G.2 100))] [] := by
  unfold f_X9_isFirst_29 at h
  refine r_aload_n (pc := 29) C dX9_isFirst_29 rfl 0 rfl ?_
  refine r_iconst (v := (0:Int32)) (pc := 30) C dX9_isFirst_30 (by decide) ?_
  refine cv_X9_196 (pc := 31) C dX9_isFirst_31  h (by decide) (Nat.le_of_ble_eq_true rfl) (fun q1 h => ?_)
  refine r_zk h (fun hn h => ?_)
  exact r_zretE (pc := 34) C hn dX9_isFirst_34 h
def f_X9_isFirst_28 (t0 : Int32) (t1 : Int32) (w : Wd) : Option (Int32 × Wd) := ast w 106 5 t1 t0 (fun w1 => f_X9_isFirst_29 w1)
set_option maxRecDepth 20000 in
theorem b_X9_isFirst_28 {G : Gv} {V : Vt} {res : Int32 × Wd}  (C : CX cX9_isFirst RX9 G SM 1 6 (some FieldType.boolean) (some (.int res.1)) res.2 V) {t0 : Int32} {t1 : Int32} {w : Wd} (h : f_X9_isFirst_28 t0 t1 w = some res) : V w 28 [(0, .ref (G.2 100))] [.int t0, .int t1, .ref (G.2 106)] := by
  unfold f_X9_isFirst_28 at h
  refine r_ast (pc := 28) C dX9_isFirst_28 h kx_106 (fun w1 h => ?_)
  exact r_sub C [0] rfl (b_X9_isFirst_29 C h)
def f_X9_isFirst (w : Wd) : Option (Int32 × Wd) := ald w 101 229 (3:Int32) (fun v1 => (if v1 ≤ 0 then f_X9_isFirst_29 w else bd (f_X9_isEmpty w (0:Int32)) (fun q2 => (if q2 = 0 then f_X9_isFirst_28 (-1:Int32) (0:Int32) w else f_X9_isFirst_28 (-2:Int32) (0:Int32) w))))
set_option maxRecDepth 20000 in
theorem b_X9_isFirst_E {G : Gv} {V : Vt} {res : Int32 × Wd}  (C : CX cX9_isFirst RX9 G SM 1 6 (some FieldType.boolean) (some (.int res.1)) res.2 V) {w : Wd} (h : f_X9_isFirst w = some res) : V w 0 [(0, .ref (G.2 100))] [] := by
  unfold f_X9_isFirst at h
  refine r_aload_n (pc := 0) C dX9_isFirst_0 rfl 0 rfl ?_
  refine gr_X9_7 (pc := 1) 101 C dX9_isFirst_1 kx_100 rfl ?_
  refine r_iconst (v := (3:Int32)) (pc := 4) C dX9_isFirst_4 (by decide) ?_
  refine r_ald (pc := 5) C dX9_isFirst_5 h kx_101 (fun v1 h => ?_)
  refine r_if_le (pc := 6) C 29 dX9_isFirst_6 (by decide) h (fun h => ?_) (fun h => ?_)
  · exact r_sub C [0] rfl (b_X9_isFirst_29 C h)
  · refine r_aload_n (pc := 9) C dX9_isFirst_9 rfl 0 rfl ?_
    refine gr_X9_25 (pc := 10) 106 C dX9_isFirst_10 kx_100 rfl ?_
    refine r_iconst (v := (0:Int32)) (pc := 13) C dX9_isFirst_13 (by decide) ?_
    refine r_aload_n (pc := 14) C dX9_isFirst_14 rfl 0 rfl ?_
    refine r_iconst (v := (0:Int32)) (pc := 15) C dX9_isFirst_15 (by decide) ?_
    refine cv_X9_78 (pc := 16) C dX9_isFirst_16  h (by decide) (Nat.le_of_ble_eq_true rfl) (fun q2 h => ?_)
    refine r_if_eq (pc := 19) C 27 dX9_isFirst_19 (by decide) h (fun h => ?_) (fun h => ?_)
    · refine r_iconst (v := (-1:Int32)) (pc := 27) C dX9_isFirst_27 (by decide) ?_
      exact r_sub C [0] rfl (b_X9_isFirst_28 C h)
    · refine r_bipush (v := (-2:Int32)) (pc := 22) C dX9_isFirst_22 (by decide) ?_
      refine r_goto (pc := 24) C 28 dX9_isFirst_24 (by decide) ?_
      exact r_sub C [0] rfl (b_X9_isFirst_28 C h)
theorem c_X9_isFirst {G : Gv} {w : Wd} {res : Int32 × Wd} (h : f_X9_isFirst w = some res) (l : Launch) : MC l yX9_isFirst cX9_isFirst 1 (some FieldType.boolean) 6 G SM w [.ref (G.2 100)] (some (.int res.1)) res.2 := mc_of (by decide +kernel) rfl (Nat.le_of_ble_eq_true rfl) rfl (fun V C => b_X9_isFirst_E C h) l
def f_X9_isNext (w : Wd) : Option (Int32 × Wd) := ald w 101 229 (3:Int32) (fun v1 => (if v1 ≤ 0 then some ((0:Int32), w) else ald w 101 229 (3:Int32) (fun v2 => bd (f_X9_goesOnFrom (v2 - (1:Int32)) w) (fun q3 => (if q3.1 = 0 then some ((0:Int32), q3.2) else some ((1:Int32), q3.2))))))
set_option maxRecDepth 20000 in
theorem b_X9_isNext_E {G : Gv} {V : Vt} {res : Int32 × Wd}  (C : CX cX9_isNext RX9 G SM 1 6 (some FieldType.boolean) (some (.int res.1)) res.2 V) {w : Wd} (h : f_X9_isNext w = some res) : V w 0 [(0, .ref (G.2 100))] [] := by
  unfold f_X9_isNext at h
  refine r_aload_n (pc := 0) C dX9_isNext_0 rfl 0 rfl ?_
  refine gr_X9_7 (pc := 1) 101 C dX9_isNext_1 kx_100 rfl ?_
  refine r_iconst (v := (3:Int32)) (pc := 4) C dX9_isNext_4 (by decide) ?_
  refine r_ald (pc := 5) C dX9_isNext_5 h kx_101 (fun v1 h => ?_)
  refine r_if_le (pc := 6) C 28 dX9_isNext_6 (by decide) h (fun h => ?_) (fun h => ?_)
  · refine r_iconst (v := (0:Int32)) (pc := 28) C dX9_isNext_28 (by decide) ?_
    exact r_zretE (pc := 29) C rfl dX9_isNext_29 h
  · refine r_aload_n (pc := 9) C dX9_isNext_9 rfl 0 rfl ?_
    refine r_aload_n (pc := 10) C dX9_isNext_10 rfl 0 rfl ?_
    refine gr_X9_7 (pc := 11) 101 C dX9_isNext_11 kx_100 rfl ?_
    refine r_iconst (v := (3:Int32)) (pc := 14) C dX9_isNext_14 (by decide) ?_
    refine r_ald (pc := 15) C dX9_isNext_15 h kx_101 (fun v2 h => ?_)
    refine r_iconst (v := (1:Int32)) (pc := 16) C dX9_isNext_16 (by decide) ?_
    refine r_isub (pc := 17) C dX9_isNext_17 ?_
    refine cv_X9_196 (pc := 18) C dX9_isNext_18  h (by decide) (Nat.le_of_ble_eq_true rfl) (fun q3 h => ?_)
    refine r_if_eq (pc := 21) C 28 dX9_isNext_21 (by decide) h (fun h => ?_) (fun h => ?_)
    · refine r_iconst (v := (0:Int32)) (pc := 28) C dX9_isNext_28 (by decide) ?_
      exact r_zretE (pc := 29) C rfl dX9_isNext_29 h
    · refine r_iconst (v := (1:Int32)) (pc := 24) C dX9_isNext_24 (by decide) ?_
      refine r_goto (pc := 25) C 29 dX9_isNext_25 (by decide) ?_
      exact r_zretE (pc := 29) C rfl dX9_isNext_29 h
theorem c_X9_isNext {G : Gv} {w : Wd} {res : Int32 × Wd} (h : f_X9_isNext w = some res) (l : Launch) : MC l yX9_isNext cX9_isNext 1 (some FieldType.boolean) 6 G SM w [.ref (G.2 100)] (some (.int res.1)) res.2 := mc_of (by decide +kernel) rfl (Nat.le_of_ble_eq_true rfl) rfl (fun V C => b_X9_isNext_E C h) l
theorem cv_X9_199 {cc : ByteArray} {G : Gv} {n hc : Nat} {rt : Option FieldType} {rv : Option Value} {w0 : Wd} {V : Vt} {w : Wd} {pc : Nat} {L : List (Nat × Value)} {rest : List Value} {α : Type} {res : α} {p0 : Int32} {K : Int32 → Option α} (C : CX cc RX9 G SM n hc rt rv w0 V) (hd : decode cc pc = .ok (.invokestatic 199, 3)) (h : bd (f_X9_bits p0) K = some res) (hR : 1 + 1 ≤ hc) (hr : (rest.map fun v => v.category).sum ≤ 8) (kk : ∀ q, K q = some res → V w (pc + 3) L (.int q :: rest)) : V w pc L (.int p0 :: rest) := r_callS (As := [.int p0]) (rest := rest) (rvf := fun q => (some (.int q))) (wf := fun q => w) C hd h ql_X9_199 qt_X9_bits qn_X9 qc_X9_bits ⟨by decide +kernel, by decide +kernel, (by decide +kernel : (parseMethodDescriptor yX9_bits.desc).map (fun d => d.parameters.length) = some 1)⟩ ⟨hR, by decide⟩ (fun q hq l => c_X9_bits hq l) rfl hr kk
def f_X9_nightGoes_261 (w : Wd) : Option (Wd) := ast w 101 229 (1:Int32) (0:Int32) (fun w1 => ald w1 101 229 (0:Int32) (fun v2 => ast w1 101 229 (0:Int32) (v2 + (1:Int32)) (fun w3 => some w3)))
set_option maxRecDepth 20000 in
theorem b_X9_nightGoes_261 {G : Gv} {V : Vt} {res : Wd}  (C : CX cX9_nightGoes RX9 G SM 4 107 none none res V) {w : Wd} (h : f_X9_nightGoes_261 w = some res) : V w 261 [(0, .ref (G.2 100))] [] := by
  unfold f_X9_nightGoes_261 at h
  refine r_aload_n (pc := 261) C dX9_nightGoes_261 rfl 0 rfl ?_
  refine gr_X9_7 (pc := 262) 101 C dX9_nightGoes_262 kx_100 rfl ?_
  refine r_iconst (v := (1:Int32)) (pc := 265) C dX9_nightGoes_265 (by decide) ?_
  refine r_iconst (v := (0:Int32)) (pc := 266) C dX9_nightGoes_266 (by decide) ?_
  refine r_ast (pc := 267) C dX9_nightGoes_267 h kx_101 (fun w1 h => ?_)
  refine r_aload_n (pc := 268) C dX9_nightGoes_268 rfl 0 rfl ?_
  refine gr_X9_7 (pc := 269) 101 C dX9_nightGoes_269 kx_100 rfl ?_
  refine r_iconst (v := (0:Int32)) (pc := 272) C dX9_nightGoes_272 (by decide) ?_
  refine r_dup2 (pc := 273) C dX9_nightGoes_273 rfl rfl ?_
  refine r_ald (pc := 274) C dX9_nightGoes_274 h kx_101 (fun v2 h => ?_)
  refine r_iconst (v := (1:Int32)) (pc := 275) C dX9_nightGoes_275 (by decide) ?_
  refine r_iadd (pc := 276) C dX9_nightGoes_276 ?_
  refine r_ast (pc := 277) C dX9_nightGoes_277 h kx_101 (fun w3 h => ?_)
  exact r_vretE (pc := 278) C dX9_nightGoes_278 h
def f_X9_nightGoes_255 (rec68 : Int32 → Wd → Option (Wd)) (x1 : Int32) (w : Wd) : Option (Wd) := rec68 (x1 + (1:Int32)) w
set_option maxRecDepth 20000 in
theorem b_X9_nightGoes_255 {G : Gv} {V : Vt} {rec68 : Int32 → Wd → Option (Wd)} {res : Wd}  (C : CX cX9_nightGoes RX9 G SM 4 107 none none res V) (hrec68 : ∀ (x1 : Int32) (w : Wd), rec68 x1 w = some res → V w 68 [(0, .ref (G.2 100)), (1, .int x1)] []) {x1 : Int32} {w : Wd} (h : f_X9_nightGoes_255 rec68 x1 w = some res) : V w 255 [(0, .ref (G.2 100)), (1, .int x1)] [] := by
  unfold f_X9_nightGoes_255 at h
  refine r_iinc (v := (x1 + (1:Int32))) (L' := [(1, .int (x1 + (1:Int32))), (0, .ref (G.2 100))]) (pc := 255) C dX9_nightGoes_255 1 rfl rfl (by decide) rfl ?_
  refine r_goto (pc := 258) C 68 dX9_nightGoes_258 (by decide) ?_
  exact r_sub C [1, 0] rfl (hrec68 _ _ h)
def f_X9_nightGoes_251 (rec68 : Int32 → Wd → Option (Wd)) (x1 : Int32) (t0 : Int32) (t1 : Int32) (t2 : Int32) (t3 : Int32) (w : Wd) : Option (Wd) := bd (f_X9_gets t3 t2 (t1 ||| t0) w) (fun q1 => f_X9_nightGoes_255 rec68 x1 q1)
set_option maxRecDepth 20000 in
theorem b_X9_nightGoes_251 {G : Gv} {V : Vt} {rec68 : Int32 → Wd → Option (Wd)} {res : Wd}  (C : CX cX9_nightGoes RX9 G SM 4 107 none none res V) (hrec68 : ∀ (x1 : Int32) (w : Wd), rec68 x1 w = some res → V w 68 [(0, .ref (G.2 100)), (1, .int x1)] []) {x1 : Int32} {t0 : Int32} {t1 : Int32} {t2 : Int32} {t3 : Int32} {w : Wd} (h : f_X9_nightGoes_251 rec68 x1 t0 t1 t2 t3 w = some res) : V w 251 [(0, .ref (G.2 100)), (1, .int x1)] [.int t0, .int t1, .int t2, .int t3, .ref (G.2 100)] := by
  unfold f_X9_nightGoes_251 at h
  refine r_ior (pc := 251) C dX9_nightGoes_251 ?_
  refine cv_X9_97 (pc := 252) C dX9_nightGoes_252  h (by decide) (Nat.le_of_ble_eq_true rfl) (fun q1 h => ?_)
  exact r_sub C [0, 1] rfl (b_X9_nightGoes_255 C hrec68 h)
def f_X9_nightGoes_229 (rec68 : Int32 → Wd → Option (Wd)) (x1 : Int32) (t0 : Int32) (t1 : Int32) (t2 : Int32) (t3 : Int32) (w : Wd) : Option (Wd) := ald w 101 229 (3:Int32) (fun v1 => (if v1 ≤ (x1 + (1:Int32)) then f_X9_nightGoes_251 rec68 x1 (0:Int32) (t1 ||| t0) t2 t3 w else f_X9_nightGoes_251 rec68 x1 ((1:Int32) <<< ((x1 + (1:Int32)) &&& 31)) (t1 ||| t0) t2 t3 w))
set_option maxRecDepth 20000 in
theorem b_X9_nightGoes_229 {G : Gv} {V : Vt} {rec68 : Int32 → Wd → Option (Wd)} {res : Wd}  (C : CX cX9_nightGoes RX9 G SM 4 107 none none res V) (hrec68 : ∀ (x1 : Int32) (w : Wd), rec68 x1 w = some res → V w 68 [(0, .ref (G.2 100)), (1, .int x1)] []) {x1 : Int32} {t0 : Int32} {t1 : Int32} {t2 : Int32} {t3 : Int32} {w : Wd} (h : f_X9_nightGoes_229 rec68 x1 t0 t1 t2 t3 w = some res) : V w 229 [(0, .ref (G.2 100)), (1, .int x1)] [.int t0, .int t1, .int t2, .int t3, .ref (G.2 100)] := by
  unfold f_X9_nightGoes_229 at h
  refine r_ior (pc := 229) C dX9_nightGoes_229 ?_
  refine r_iload_n (pc := 230) C dX9_nightGoes_230 rfl 1 rfl ?_
  refine r_iconst (v := (1:Int32)) (pc := 231) C dX9_nightGoes_231 (by decide) ?_
  refine r_iadd (pc := 232) C dX9_nightGoes_232 ?_
  refine r_aload_n (pc := 233) C dX9_nightGoes_233 rfl 0 rfl ?_
  refine gr_X9_7 (pc := 234) 101 C dX9_nightGoes_234 kx_100 rfl ?_
  refine r_iconst (v := (3:Int32)) (pc := 237) C dX9_nightGoes_237 (by decide) ?_
  refine r_ald (pc := 238) C dX9_nightGoes_238 h kx_101 (fun v1 h => ?_)
  refine r_icmp_ge (pc := 239) C 250 dX9_nightGoes_239 (by decide) h (fun h => ?_) (fun h => ?_)
  · refine r_iconst (v := (0:Int32)) (pc := 250) C dX9_nightGoes_250 (by decide) ?_
    exact r_sub C [0, 1] rfl (b_X9_nightGoes_251 C hrec68 h)
  · refine r_iconst (v := (1:Int32)) (pc := 242) C dX9_nightGoes_242 (by decide) ?_
    refine r_iload_n (pc := 243) C dX9_nightGoes_243 rfl 1 rfl ?_
    refine r_iconst (v := (1:Int32)) (pc := 244) C dX9_nightGoes_244 (by decide) ?_
    refine r_iadd (pc := 245) C dX9_nightGoes_245 ?_
    refine r_ishl (pc := 246) C dX9_nightGoes_246 ?_
    refine r_goto (pc := 247) C 251 dX9_nightGoes_247 (by decide) ?_
    exact r_sub C [0, 1] rfl (b_X9_nightGoes_251 C hrec68 h)
def fb_X9_nightGoes_68 (rec68 : Int32 → Wd → Option (Wd)) (x1 : Int32) (w : Wd) : Option (Wd) := ald w 101 229 (3:Int32) (fun v1 => (if v1 ≤ x1 then f_X9_nightGoes_261 w else ald w 106 5 x1 (fun v2 => (if v2 < 0 then f_X9_nightGoes_255 rec68 x1 w else lv ((9:Int32) + ((4:Int32) * x1)) (fun v3 => ald w 101 229 (v3 + (3:Int32)) (fun v4 => ald w 101 229 (v3 + (2:Int32)) (fun v5 => ald w 101 229 (v3 + (1:Int32)) (fun v6 => ald w 109 5 x1 (fun v7 => bd (f_X9_lawOf (0:Int32) v5 v6 v7 w) (fun q8 => bd (f_X9_held (v4 + q8.1) (0:Int32) (99999:Int32)) (fun q9 => ast q8.2 101 229 (v3 + (3:Int32)) q9 (fun w10 => bd (f_X9_of w10 v2 (3:Int32)) (fun q11 => ald w10 101 229 (v3 + (2:Int32)) (fun v12 => ald w10 108 6 v2 (fun v13 => ald w10 101 229 (0:Int32) (fun v14 => bd (f_X9_lawOf (1:Int32) v12 v13 v14 w10) (fun q15 => bd (f_X9_held (q11 + q15.1) (0:Int32) (9999:Int32)) (fun q16 => bd (f_X9_gets v2 (3:Int32) q16 q15.2) (fun q17 => bd (f_X9_of q17 v2 (1:Int32)) (fun q18 => bd (f_X9_gets v2 (1:Int32) (q18 ||| ((1:Int32) <<< (x1 &&& 31))) q17) (fun q19 => bd (f_X9_of q19 v2 (0:Int32)) (fun q20 => (if x1 ≤ 0 then f_X9_nightGoes_229 rec68 x1 (0:Int32) q20 (0:Int32) v2 q19 else f_X9_nightGoes_229 rec68 x1 ((1:Int32) <<< ((x1 - (1:Int32)) &&& 31)) q20 (0:Int32) v2 q19)))))))))))))))))))))))
set_option maxRecDepth 20000 in
theorem bb_X9_nightGoes_68 {G : Gv} {V : Vt} {rec68 : Int32 → Wd → Option (Wd)} {res : Wd}  (C : CX cX9_nightGoes RX9 G SM 4 107 none none res V) (hrec68 : ∀ (x1 : Int32) (w : Wd), rec68 x1 w = some res → V w 68 [(0, .ref (G.2 100)), (1, .int x1)] []) {x1 : Int32} {w : Wd} (h : fb_X9_nightGoes_68 rec68 x1 w = some res) : V w 68 [(0, .ref (G.2 100)), (1, .int x1)] [] := by
  unfold fb_X9_nightGoes_68 at h
  refine r_iload_n (pc := 68) C dX9_nightGoes_68 rfl 1 rfl ?_
  refine r_aload_n (pc := 69) C dX9_nightGoes_69 rfl 0 rfl ?_
  refine gr_X9_7 (pc := 70) 101 C dX9_nightGoes_70 kx_100 rfl ?_
  refine r_iconst (v := (3:Int32)) (pc := 73) C dX9_nightGoes_73 (by decide) ?_
  refine r_ald (pc := 74) C dX9_nightGoes_74 h kx_101 (fun v1 h => ?_)
  refine r_icmp_ge (pc := 75) C 261 dX9_nightGoes_75 (by decide) h (fun h => ?_) (fun h => ?_)
  · exact r_sub C [0] rfl (b_X9_nightGoes_261 C h)
  · refine r_aload_n (pc := 78) C dX9_nightGoes_78 rfl 0 rfl ?_
    refine gr_X9_25 (pc := 79) 106 C dX9_nightGoes_79 kx_100 rfl ?_
    refine r_iload_n (pc := 82) C dX9_nightGoes_82 rfl 1 rfl ?_
    refine r_ald (pc := 83) C dX9_nightGoes_83 h kx_106 (fun v2 h => ?_)
    refine r_istore_n (L' := [(2, .int v2), (0, .ref (G.2 100)), (1, .int x1)]) (pc := 84) C dX9_nightGoes_84 rfl (by decide) rfl ?_
    refine r_iload_n (pc := 85) C dX9_nightGoes_85 rfl 0 rfl ?_
    refine r_if_lt (pc := 86) C 255 dX9_nightGoes_86 (by decide) h (fun h => ?_) (fun h => ?_)
    · exact r_sub C [1, 2] rfl (b_X9_nightGoes_255 C hrec68 h)
    · refine r_bipush (v := (9:Int32)) (pc := 89) C dX9_nightGoes_89 (by decide) ?_
      refine r_iconst (v := (4:Int32)) (pc := 91) C dX9_nightGoes_91 (by decide) ?_
      refine r_iload_n (pc := 92) C dX9_nightGoes_92 rfl 2 rfl ?_
      refine r_imul (pc := 93) C dX9_nightGoes_93 ?_
      refine r_iadd (pc := 94) C dX9_nightGoes_94 ?_
      refine r_lv h (fun v3 h => ?_)
      refine r_istore_n (L' := [(3, .int v3), (2, .int v2), (0, .ref (G.2 100)), (1, .int x1)]) (pc := 95) C dX9_nightGoes_95 rfl (by decide) rfl ?_
      refine r_aload_n (pc := 96) C dX9_nightGoes_96 rfl 2 rfl ?_
      refine gr_X9_7 (pc := 97) 101 C dX9_nightGoes_97 kx_100 rfl ?_
      refine r_iload_n (pc := 100) C dX9_nightGoes_100 rfl 0 rfl ?_
      refine r_iconst (v := (3:Int32)) (pc := 101) C dX9_nightGoes_101 (by decide) ?_
      refine r_iadd (pc := 102) C dX9_nightGoes_102 ?_
      refine r_aload_n (pc := 103) C dX9_nightGoes_103 rfl 2 rfl ?_
      refine gr_X9_7 (pc := 104) 101 C dX9_nightGoes_104 kx_100 rfl ?_
      refine r_iload_n (pc := 107) C dX9_nightGoes_107 rfl 0 rfl ?_
      refine r_iconst (v := (3:Int32)) (pc := 108) C dX9_nightGoes_108 (by decide) ?_
      refine r_iadd (pc := 109) C dX9_nightGoes_109 ?_
      refine r_ald (pc := 110) C dX9_nightGoes_110 h kx_101 (fun v4 h => ?_)
      refine r_aload_n (pc := 111) C dX9_nightGoes_111 rfl 2 rfl ?_
      refine r_iconst (v := (0:Int32)) (pc := 112) C dX9_nightGoes_112 (by decide) ?_
      refine r_aload_n (pc := 113) C dX9_nightGoes_113 rfl 2 rfl ?_
      refine gr_X9_7 (pc := 114) 101 C dX9_nightGoes_114 kx_100 rfl ?_
      refine r_iload_n (pc := 117) C dX9_nightGoes_117 rfl 0 rfl ?_
      refine r_iconst (v := (2:Int32)) (pc := 118) C dX9_nightGoes_118 (by decide) ?_
      refine r_iadd (pc := 119) C dX9_nightGoes_119 ?_
      refine r_ald (pc := 120) C dX9_nightGoes_120 h kx_101 (fun v5 h => ?_)
      refine r_aload_n (pc := 121) C dX9_nightGoes_121 rfl 2 rfl ?_
      refine gr_X9_7 (pc := 122) 101 C dX9_nightGoes_122 kx_100 rfl ?_
      refine r_iload_n (pc := 125) C dX9_nightGoes_125 rfl 0 rfl ?_
      refine r_iconst (v := (1:Int32)) (pc := 126) C dX9_nightGoes_126 (by decide) ?_
      refine r_iadd (pc := 127) C dX9_nightGoes_127 ?_
      refine r_ald (pc := 128) C dX9_nightGoes_128 h kx_101 (fun v6 h => ?_)
      refine r_aload_n (pc := 129) C dX9_nightGoes_129 rfl 2 rfl ?_
      refine gr_X9_34 (pc := 130) 109 C dX9_nightGoes_130 kx_100 rfl ?_
      refine r_iload_n (pc := 133) C dX9_nightGoes_133 rfl 3 rfl ?_
      refine r_ald (pc := 134) C dX9_nightGoes_134 h kx_109 (fun v7 h => ?_)
      refine cv_X9_181 (pc := 135) C dX9_nightGoes_135  h (by decide) (Nat.le_of_ble_eq_true rfl) (fun q8 h => ?_)
      refine r_iadd (pc := 138) C dX9_nightGoes_138 ?_
      refine r_iconst (v := (0:Int32)) (pc := 139) C dX9_nightGoes_139 (by decide) ?_
      refine r_ldc (pc := 140) C dX9_nightGoes_140 qk_X9_202 ?_
      refine cv_X9_177 (pc := 142) C dX9_nightGoes_142  h (by decide) (Nat.le_of_ble_eq_true rfl) (fun q9 h => ?_)
      refine r_ast (pc := 145) C dX9_nightGoes_145 h kx_101 (fun w10 h => ?_)
      refine r_aload_n (pc := 146) C dX9_nightGoes_146 rfl 2 rfl ?_
      refine r_iload_n (pc := 147) C dX9_nightGoes_147 rfl 1 rfl ?_
      refine r_iconst (v := (3:Int32)) (pc := 148) C dX9_nightGoes_148 (by decide) ?_
      refine r_aload_n (pc := 149) C dX9_nightGoes_149 rfl 2 rfl ?_
      refine r_iload_n (pc := 150) C dX9_nightGoes_150 rfl 1 rfl ?_
      refine r_iconst (v := (3:Int32)) (pc := 151) C dX9_nightGoes_151 (by decide) ?_
      refine cv_X9_71 (pc := 152) C dX9_nightGoes_152  h (by decide) (Nat.le_of_ble_eq_true rfl) (fun q11 h => ?_)
      refine r_aload_n (pc := 155) C dX9_nightGoes_155 rfl 2 rfl ?_
      refine r_iconst (v := (1:Int32)) (pc := 156) C dX9_nightGoes_156 (by decide) ?_
      refine r_aload_n (pc := 157) C dX9_nightGoes_157 rfl 2 rfl ?_
      refine gr_X9_7 (pc := 158) 101 C dX9_nightGoes_158 kx_100 rfl ?_
      refine r_iload_n (pc := 161) C dX9_nightGoes_161 rfl 0 rfl ?_
      refine r_iconst (v := (2:Int32)) (pc := 162) C dX9_nightGoes_162 (by decide) ?_
      refine r_iadd (pc := 163) C dX9_nightGoes_163 ?_
      refine r_ald (pc := 164) C dX9_nightGoes_164 h kx_101 (fun v12 h => ?_)
      refine r_aload_n (pc := 165) C dX9_nightGoes_165 rfl 2 rfl ?_
      refine gr_X9_31 (pc := 166) 108 C dX9_nightGoes_166 kx_100 rfl ?_
      refine r_iload_n (pc := 169) C dX9_nightGoes_169 rfl 1 rfl ?_
      refine r_ald (pc := 170) C dX9_nightGoes_170 h kx_108 (fun v13 h => ?_)
      refine r_aload_n (pc := 171) C dX9_nightGoes_171 rfl 2 rfl ?_
      refine gr_X9_7 (pc := 172) 101 C dX9_nightGoes_172 kx_100 rfl ?_
      refine r_iconst (v := (0:Int32)) (pc := 175) C dX9_nightGoes_175 (by decide) ?_
      refine r_ald (pc := 176) C dX9_nightGoes_176 h kx_101 (fun v14 h => ?_)
      refine cv_X9_181 (pc := 177) C dX9_nightGoes_177  h (by decide) (Nat.le_of_ble_eq_true rfl) (fun q15 h => ?_)
      refine r_iadd (pc := 180) C dX9_nightGoes_180 ?_
      refine r_iconst (v := (0:Int32)) (pc := 181) C dX9_nightGoes_181 (by decide) ?_
      refine r_sipush (v := (9999:Int32)) (pc := 182) C dX9_nightGoes_182 (by decide) ?_
      refine cv_X9_177 (pc := 185) C dX9_nightGoes_185  h (by decide) (Nat.le_of_ble_eq_true rfl) (fun q16 h => ?_)
      refine cv_X9_97 (pc := 188) C dX9_nightGoes_188  h (by decide) (Nat.le_of_ble_eq_true rfl) (fun q17 h => ?_)
      refine r_aload_n (pc := 191) C dX9_nightGoes_191 rfl 2 rfl ?_
      refine r_iload_n (pc := 192) C dX9_nightGoes_192 rfl 1 rfl ?_
      refine r_iconst (v := (1:Int32)) (pc := 193) C dX9_nightGoes_193 (by decide) ?_
      refine r_aload_n (pc := 194) C dX9_nightGoes_194 rfl 2 rfl ?_
      refine r_iload_n (pc := 195) C dX9_nightGoes_195 rfl 1 rfl ?_
      refine r_iconst (v := (1:Int32)) (pc := 196) C dX9_nightGoes_196 (by decide) ?_
      refine cv_X9_71 (pc := 197) C dX9_nightGoes_197  h (by decide) (Nat.le_of_ble_eq_true rfl) (fun q18 h => ?_)
      refine r_iconst (v := (1:Int32)) (pc := 200) C dX9_nightGoes_200 (by decide) ?_
      refine r_iload_n (pc := 201) C dX9_nightGoes_201 rfl 3 rfl ?_
      refine r_ishl (pc := 202) C dX9_nightGoes_202 ?_
      refine r_ior (pc := 203) C dX9_nightGoes_203 ?_
      refine cv_X9_97 (pc := 204) C dX9_nightGoes_204  h (by decide) (Nat.le_of_ble_eq_true rfl) (fun q19 h => ?_)
      refine r_aload_n (pc := 207) C dX9_nightGoes_207 rfl 2 rfl ?_
      refine r_iload_n (pc := 208) C dX9_nightGoes_208 rfl 1 rfl ?_
      refine r_iconst (v := (0:Int32)) (pc := 209) C dX9_nightGoes_209 (by decide) ?_
      refine r_aload_n (pc := 210) C dX9_nightGoes_210 rfl 2 rfl ?_
      refine r_iload_n (pc := 211) C dX9_nightGoes_211 rfl 1 rfl ?_
      refine r_iconst (v := (0:Int32)) (pc := 212) C dX9_nightGoes_212 (by decide) ?_
      refine cv_X9_71 (pc := 213) C dX9_nightGoes_213  h (by decide) (Nat.le_of_ble_eq_true rfl) (fun q20 h => ?_)
      refine r_iload_n (pc := 216) C dX9_nightGoes_216 rfl 3 rfl ?_
      refine r_if_le (pc := 217) C 228 dX9_nightGoes_217 (by decide) h (fun h => ?_) (fun h => ?_)
      · refine r_iconst (v := (0:Int32)) (pc := 228) C dX9_nightGoes_228 (by decide) ?_
        exact r_sub C [2, 3] rfl (b_X9_nightGoes_229 C hrec68 h)
      · refine r_iconst (v := (1:Int32)) (pc := 220) C dX9_nightGoes_220 (by decide) ?_
        refine r_iload_n (pc := 221) C dX9_nightGoes_221 rfl 3 rfl ?_
        refine r_iconst (v := (1:Int32)) (pc := 222) C dX9_nightGoes_222 (by decide) ?_
        refine r_isub (pc := 223) C dX9_nightGoes_223 ?_
        refine r_ishl (pc := 224) C dX9_nightGoes_224 ?_
        refine r_goto (pc := 225) C 229 dX9_nightGoes_225 (by decide) ?_
        exact r_sub C [2, 3] rfl (b_X9_nightGoes_229 C hrec68 h)
def f_X9_nightGoes_68 : Int32 → Wd → Option (Wd) := lp (fun _ _ => none) (fun rec => fb_X9_nightGoes_68 rec) FU
theorem b_X9_nightGoes_68 {G : Gv} {V : Vt} {res : Wd}  (C : CX cX9_nightGoes RX9 G SM 4 107 none none res V) : ∀ (x1 : Int32) (w : Wd), (f_X9_nightGoes_68) x1 w = some res → V w 68 [(0, .ref (G.2 100)), (1, .int x1)] [] :=
  lp_ind (P := fun (g : Int32 → Wd → Option (Wd)) => ∀ (x1 : Int32) (w : Wd), g x1 w = some res → V w 68 [(0, .ref (G.2 100)), (1, .int x1)] []) (fun _ _ h => by cases h) (fun g hg _ _ h => bb_X9_nightGoes_68 C hg h) FU
def f_X9_nightGoes_66 (w : Wd) : Option (Wd) := f_X9_nightGoes_68 (0:Int32) w
set_option maxRecDepth 20000 in
theorem b_X9_nightGoes_66 {G : Gv} {V : Vt} {res : Wd}  (C : CX cX9_nightGoes RX9 G SM 4 107 none none res V) {w : Wd} (h : f_X9_nightGoes_66 w = some res) : V w 66 [(0, .ref (G.2 100))] [] := by
  unfold f_X9_nightGoes_66 at h
  refine r_iconst (v := (0:Int32)) (pc := 66) C dX9_nightGoes_66 (by decide) ?_
  refine r_istore_n (L' := [(1, .int (0:Int32)), (0, .ref (G.2 100))]) (pc := 67) C dX9_nightGoes_67 rfl (by decide) rfl ?_
  exact r_sub C [1, 0] rfl (b_X9_nightGoes_68 C _ _ h)
def fb_X9_nightGoes_36 (rec36 : Int32 → Wd → Option (Wd)) (x1 : Int32) (w : Wd) : Option (Wd) := ald w 101 229 (3:Int32) (fun v1 => (if v1 ≤ x1 then f_X9_nightGoes_66 w else bd (f_X9_knowers w x1) (fun q2 => bd (f_X9_bits q2) (fun q3 => ast w 109 5 x1 q3 (fun w4 => rec36 (x1 + (1:Int32)) w4)))))
set_option maxRecDepth 20000 in
theorem bb_X9_nightGoes_36 {G : Gv} {V : Vt} {rec36 : Int32 → Wd → Option (Wd)} {res : Wd}  (C : CX cX9_nightGoes RX9 G SM 4 107 none none res V) (hrec36 : ∀ (x1 : Int32) (w : Wd), rec36 x1 w = some res → V w 36 [(0, .ref (G.2 100)), (1, .int x1)] []) {x1 : Int32} {w : Wd} (h : fb_X9_nightGoes_36 rec36 x1 w = some res) : V w 36 [(0, .ref (G.2 100)), (1, .int x1)] [] := by
  unfold fb_X9_nightGoes_36 at h
  refine r_iload_n (pc := 36) C dX9_nightGoes_36 rfl 1 rfl ?_
  refine r_aload_n (pc := 37) C dX9_nightGoes_37 rfl 0 rfl ?_
  refine gr_X9_7 (pc := 38) 101 C dX9_nightGoes_38 kx_100 rfl ?_
  refine r_iconst (v := (3:Int32)) (pc := 41) C dX9_nightGoes_41 (by decide) ?_
  refine r_ald (pc := 42) C dX9_nightGoes_42 h kx_101 (fun v1 h => ?_)
  refine r_icmp_ge (pc := 43) C 66 dX9_nightGoes_43 (by decide) h (fun h => ?_) (fun h => ?_)
  · exact r_sub C [0] rfl (b_X9_nightGoes_66 C h)
  · refine r_aload_n (pc := 46) C dX9_nightGoes_46 rfl 0 rfl ?_
    refine gr_X9_34 (pc := 47) 109 C dX9_nightGoes_47 kx_100 rfl ?_
    refine r_iload_n (pc := 50) C dX9_nightGoes_50 rfl 1 rfl ?_
    refine r_aload_n (pc := 51) C dX9_nightGoes_51 rfl 0 rfl ?_
    refine r_iload_n (pc := 52) C dX9_nightGoes_52 rfl 1 rfl ?_
    refine cv_X9_87 (pc := 53) C dX9_nightGoes_53  h (by decide) (Nat.le_of_ble_eq_true rfl) (fun q2 h => ?_)
    refine cv_X9_199 (pc := 56) C dX9_nightGoes_56  h (by decide) (Nat.le_of_ble_eq_true rfl) (fun q3 h => ?_)
    refine r_ast (pc := 59) C dX9_nightGoes_59 h kx_109 (fun w4 h => ?_)
    refine r_iinc (v := (x1 + (1:Int32))) (L' := [(1, .int (x1 + (1:Int32))), (0, .ref (G.2 100))]) (pc := 60) C dX9_nightGoes_60 1 rfl rfl (by decide) rfl ?_
    refine r_goto (pc := 63) C 36 dX9_nightGoes_63 (by decide) ?_
    exact r_sub C [1, 0] rfl (hrec36 _ _ h)
def f_X9_nightGoes_36 : Int32 → Wd → Option (Wd) := lp (fun _ _ => none) (fun rec => fb_X9_nightGoes_36 rec) FU
theorem b_X9_nightGoes_36 {G : Gv} {V : Vt} {res : Wd}  (C : CX cX9_nightGoes RX9 G SM 4 107 none none res V) : ∀ (x1 : Int32) (w : Wd), (f_X9_nightGoes_36) x1 w = some res → V w 36 [(0, .ref (G.2 100)), (1, .int x1)] [] :=
  lp_ind (P := fun (g : Int32 → Wd → Option (Wd)) => ∀ (x1 : Int32) (w : Wd), g x1 w = some res → V w 36 [(0, .ref (G.2 100)), (1, .int x1)] []) (fun _ _ h => by cases h) (fun g hg _ _ h => bb_X9_nightGoes_36 C hg h) FU
def f_X9_nightGoes_34 (w : Wd) : Option (Wd) := f_X9_nightGoes_36 (0:Int32) w
set_option maxRecDepth 20000 in
theorem b_X9_nightGoes_34 {G : Gv} {V : Vt} {res : Wd}  (C : CX cX9_nightGoes RX9 G SM 4 107 none none res V) {w : Wd} (h : f_X9_nightGoes_34 w = some res) : V w 34 [(0, .ref (G.2 100))] [] := by
  unfold f_X9_nightGoes_34 at h
  refine r_iconst (v := (0:Int32)) (pc := 34) C dX9_nightGoes_34 (by decide) ?_
  refine r_istore_n (L' := [(1, .int (0:Int32)), (0, .ref (G.2 100))]) (pc := 35) C dX9_nightGoes_35 rfl (by decide) rfl ?_
  exact r_sub C [1, 0] rfl (b_X9_nightGoes_36 C _ _ h)
def fb_X9_nightGoes_2 (rec2 : Int32 → Wd → Option (Wd)) (x1 : Int32) (w : Wd) : Option (Wd) := ald w 101 229 (8:Int32) (fun v1 => (if v1 ≤ x1 then f_X9_nightGoes_34 w else bd (f_X9_of w x1 (1:Int32)) (fun q2 => bd (f_X9_bits q2) (fun q3 => ast w 108 6 x1 q3 (fun w4 => rec2 (x1 + (1:Int32)) w4)))))
set_option maxRecDepth 20000 in
theorem bb_X9_nightGoes_2 {G : Gv} {V : Vt} {rec2 : Int32 → Wd → Option (Wd)} {res : Wd}  (C : CX cX9_nightGoes RX9 G SM 4 107 none none res V) (hrec2 : ∀ (x1 : Int32) (w : Wd), rec2 x1 w = some res → V w 2 [(0, .ref (G.2 100)), (1, .int x1)] []) {x1 : Int32} {w : Wd} (h : fb_X9_nightGoes_2 rec2 x1 w = some res) : V w 2 [(0, .ref (G.2 100)), (1, .int x1)] [] := by
  unfold fb_X9_nightGoes_2 at h
  refine r_iload_n (pc := 2) C dX9_nightGoes_2 rfl 1 rfl ?_
  refine r_aload_n (pc := 3) C dX9_nightGoes_3 rfl 0 rfl ?_
  refine gr_X9_7 (pc := 4) 101 C dX9_nightGoes_4 kx_100 rfl ?_
  refine r_bipush (v := (8:Int32)) (pc := 7) C dX9_nightGoes_7 (by decide) ?_
  refine r_ald (pc := 9) C dX9_nightGoes_9 h kx_101 (fun v1 h => ?_)
  refine r_icmp_ge (pc := 10) C 34 dX9_nightGoes_10 (by decide) h (fun h => ?_) (fun h => ?_)
  · exact r_sub C [0] rfl (b_X9_nightGoes_34 C h)
  · refine r_aload_n (pc := 13) C dX9_nightGoes_13 rfl 0 rfl ?_
    refine gr_X9_31 (pc := 14) 108 C dX9_nightGoes_14 kx_100 rfl ?_
    refine r_iload_n (pc := 17) C dX9_nightGoes_17 rfl 1 rfl ?_
    refine r_aload_n (pc := 18) C dX9_nightGoes_18 rfl 0 rfl ?_
    refine r_iload_n (pc := 19) C dX9_nightGoes_19 rfl 1 rfl ?_
    refine r_iconst (v := (1:Int32)) (pc := 20) C dX9_nightGoes_20 (by decide) ?_
    refine cv_X9_71 (pc := 21) C dX9_nightGoes_21  h (by decide) (Nat.le_of_ble_eq_true rfl) (fun q2 h => ?_)
    refine cv_X9_199 (pc := 24) C dX9_nightGoes_24  h (by decide) (Nat.le_of_ble_eq_true rfl) (fun q3 h => ?_)
    refine r_ast (pc := 27) C dX9_nightGoes_27 h kx_108 (fun w4 h => ?_)
    refine r_iinc (v := (x1 + (1:Int32))) (L' := [(1, .int (x1 + (1:Int32))), (0, .ref (G.2 100))]) (pc := 28) C dX9_nightGoes_28 1 rfl rfl (by decide) rfl ?_
    refine r_goto (pc := 31) C 2 dX9_nightGoes_31 (by decide) ?_
    exact r_sub C [1, 0] rfl (hrec2 _ _ h)
def f_X9_nightGoes_2 : Int32 → Wd → Option (Wd) := lp (fun _ _ => none) (fun rec => fb_X9_nightGoes_2 rec) FU
theorem b_X9_nightGoes_2 {G : Gv} {V : Vt} {res : Wd}  (C : CX cX9_nightGoes RX9 G SM 4 107 none none res V) : ∀ (x1 : Int32) (w : Wd), (f_X9_nightGoes_2) x1 w = some res → V w 2 [(0, .ref (G.2 100)), (1, .int x1)] [] :=
  lp_ind (P := fun (g : Int32 → Wd → Option (Wd)) => ∀ (x1 : Int32) (w : Wd), g x1 w = some res → V w 2 [(0, .ref (G.2 100)), (1, .int x1)] []) (fun _ _ h => by cases h) (fun g hg _ _ h => bb_X9_nightGoes_2 C hg h) FU
def f_X9_nightGoes (w : Wd) : Option (Wd) := f_X9_nightGoes_2 (0:Int32) w
set_option maxRecDepth 20000 in
theorem b_X9_nightGoes_E {G : Gv} {V : Vt} {res : Wd}  (C : CX cX9_nightGoes RX9 G SM 4 107 none none res V) {w : Wd} (h : f_X9_nightGoes w = some res) : V w 0 [(0, .ref (G.2 100))] [] := by
  unfold f_X9_nightGoes at h
  refine r_iconst (v := (0:Int32)) (pc := 0) C dX9_nightGoes_0 (by decide) ?_
  refine r_istore_n (L' := [(1, .int (0:Int32)), (0, .ref (G.2 100))]) (pc := 1) C dX9_nightGoes_1 rfl (by decide) rfl ?_
  exact r_sub C [1, 0] rfl (b_X9_nightGoes_2 C _ _ h)
theorem c_X9_nightGoes {G : Gv} {w : Wd} {res : Wd} (h : f_X9_nightGoes w = some res) (l : Launch) : MC l yX9_nightGoes cX9_nightGoes 4 none 107 G SM w [.ref (G.2 100)] none res := mc_of (by decide +kernel) rfl (Nat.le_of_ble_eq_true rfl) rfl (fun V C => b_X9_nightGoes_E C h) l
def fb_X9_purses_4 (w : Wd) (rec4 : Int32 → Int32 → Option (Int32)) (x1 : Int32) (x2 : Int32) : Option (Int32) := ald w 101 229 (8:Int32) (fun v1 => (if v1 ≤ x2 then some x1 else bd (f_X9_of w x2 (3:Int32)) (fun q2 => lv (x1 + q2) (fun v3 => rec4 v3 (x2 + (1:Int32))))))
set_option maxRecDepth 20000 in
theorem bb_X9_purses_4 {G : Gv} {V : Vt} {w : Wd} {rec4 : Int32 → Int32 → Option (Int32)} {res : Int32}  (C : CX cX9_purses RX9 G SM 3 2 (some FieldType.int) (some (.int res)) w V) (hrec4 : ∀ (x1 : Int32) (x2 : Int32), rec4 x1 x2 = some res → V w 4 [(0, .ref (G.2 100)), (1, .int x1), (2, .int x2)] []) {x1 : Int32} {x2 : Int32} (h : fb_X9_purses_4 w rec4 x1 x2 = some res) : V w 4 [(0, .ref (G.2 100)), (1, .int x1), (2, .int x2)] [] := by
  unfold fb_X9_purses_4 at h
  refine r_iload_n (pc := 4) C dX9_purses_4 rfl 2 rfl ?_
  refine r_aload_n (pc := 5) C dX9_purses_5 rfl 0 rfl ?_
  refine gr_X9_7 (pc := 6) 101 C dX9_purses_6 kx_100 rfl ?_
  refine r_bipush (v := (8:Int32)) (pc := 9) C dX9_purses_9 (by decide) ?_
  refine r_ald (pc := 11) C dX9_purses_11 h kx_101 (fun v1 h => ?_)
  refine r_icmp_ge (pc := 12) C 30 dX9_purses_12 (by decide) h (fun h => ?_) (fun h => ?_)
  · refine r_iload_n (pc := 30) C dX9_purses_30 rfl 1 rfl ?_
    exact r_iretP (pc := 31) C dX9_purses_31 h
  · refine r_iload_n (pc := 15) C dX9_purses_15 rfl 1 rfl ?_
    refine r_aload_n (pc := 16) C dX9_purses_16 rfl 0 rfl ?_
    refine r_iload_n (pc := 17) C dX9_purses_17 rfl 2 rfl ?_
    refine r_iconst (v := (3:Int32)) (pc := 18) C dX9_purses_18 (by decide) ?_
    refine cv_X9_71 (pc := 19) C dX9_purses_19  h (by decide) (Nat.le_of_ble_eq_true rfl) (fun q2 h => ?_)
    refine r_iadd (pc := 22) C dX9_purses_22 ?_
    refine r_lv h (fun v3 h => ?_)
    refine r_istore_n (L' := [(1, .int v3), (0, .ref (G.2 100)), (2, .int x2)]) (pc := 23) C dX9_purses_23 rfl (by decide) rfl ?_
    refine r_iinc (v := (x2 + (1:Int32))) (L' := [(2, .int (x2 + (1:Int32))), (1, .int v3), (0, .ref (G.2 100))]) (pc := 24) C dX9_purses_24 2 rfl rfl (by decide) rfl ?_
    refine r_goto (pc := 27) C 4 dX9_purses_27 (by decide) ?_
    exact r_sub C [2, 1, 0] rfl (hrec4 _ _ h)
def f_X9_purses_4 (w : Wd) : Int32 → Int32 → Option (Int32) := lp (fun _ _ => none) (fun rec => fb_X9_purses_4 w rec) FU
theorem b_X9_purses_4 {G : Gv} {V : Vt} {w : Wd} {res : Int32}  (C : CX cX9_purses RX9 G SM 3 2 (some FieldType.int) (some (.int res)) w V) : ∀ (x1 : Int32) (x2 : Int32), (f_X9_purses_4 w) x1 x2 = some res → V w 4 [(0, .ref (G.2 100)), (1, .int x1), (2, .int x2)] [] :=
  lp_ind (P := fun (g : Int32 → Int32 → Option (Int32)) => ∀ (x1 : Int32) (x2 : Int32), g x1 x2 = some res → V w 4 [(0, .ref (G.2 100)), (1, .int x1), (2, .int x2)] []) (fun _ _ h => by cases h) (fun g hg _ _ h => bb_X9_purses_4 C hg h) FU
def f_X9_purses (w : Wd) : Option (Int32) := f_X9_purses_4 w (0:Int32) (0:Int32)
set_option maxRecDepth 20000 in
theorem b_X9_purses_E {G : Gv} {V : Vt} {w : Wd} {res : Int32}  (C : CX cX9_purses RX9 G SM 3 2 (some FieldType.int) (some (.int res)) w V) (h : f_X9_purses w = some res) : V w 0 [(0, .ref (G.2 100))] [] := by
  unfold f_X9_purses at h
  refine r_iconst (v := (0:Int32)) (pc := 0) C dX9_purses_0 (by decide) ?_
  refine r_istore_n (L' := [(1, .int (0:Int32)), (0, .ref (G.2 100))]) (pc := 1) C dX9_purses_1 rfl (by decide) rfl ?_
  refine r_iconst (v := (0:Int32)) (pc := 2) C dX9_purses_2 (by decide) ?_
  refine r_istore_n (L' := [(2, .int (0:Int32)), (1, .int (0:Int32)), (0, .ref (G.2 100))]) (pc := 3) C dX9_purses_3 rfl (by decide) rfl ?_
  exact r_sub C [2, 1, 0] rfl (b_X9_purses_4 C _ _ h)
theorem c_X9_purses {G : Gv} {w : Wd} {res : Int32} (h : f_X9_purses w = some res) (l : Launch) : MC l yX9_purses cX9_purses 3 (some FieldType.int) 2 G SM w [.ref (G.2 100)] (some (.int res)) w := mc_of (by decide +kernel) rfl (Nat.le_of_ble_eq_true rfl) rfl (fun V C => b_X9_purses_E C h) l
theorem cv_X9_203 {cc : ByteArray} {G : Gv} {n hc : Nat} {rt : Option FieldType} {rv : Option Value} {w0 : Wd} {V : Vt} {w : Wd} {pc : Nat} {L : List (Nat × Value)} {rest : List Value} {α : Type} {res : α} {K : Int32 × Wd → Option α} (C : CX cc RX9 G SM n hc rt rv w0 V) (hd : decode cc pc = .ok (.invokevirtual 203, 3)) (h : bd (f_X9_isFirst w) K = some res) (hR : 6 + 1 ≤ hc) (hr : (rest.map fun v => v.category).sum ≤ 8) (kk : ∀ q, K q = some res → V q.2 (pc + 3) L (.int q.1 :: rest)) : V w pc L (.ref (G.2 100) :: rest) := r_callV (As := []) (rest := rest) (rvf := fun q => (some (.int q.1))) (wf := fun q => q.2) C hd h ql_X9_203 qi_X9_isFirst qs_X9_isFirst qn_X9 qc_X9_isFirst ⟨rfl, by decide +kernel, by decide +kernel, (by decide +kernel : (parseMethodDescriptor yX9_isFirst.desc).map (fun d => d.parameters.length) = some 0)⟩ ⟨hR, by decide⟩ kx_100 rfl (fun q hq l => c_X9_isFirst hq l) rfl hr kk
theorem cv_X9_207 {cc : ByteArray} {G : Gv} {n hc : Nat} {rt : Option FieldType} {rv : Option Value} {w0 : Wd} {V : Vt} {w : Wd} {pc : Nat} {L : List (Nat × Value)} {rest : List Value} {α : Type} {res : α} {K : Wd → Option α} (C : CX cc RX9 G SM n hc rt rv w0 V) (hd : decode cc pc = .ok (.invokevirtual 207, 3)) (h : bd (f_X9_nightGoes w) K = some res) (hR : 107 + 1 ≤ hc) (hr : (rest.map fun v => v.category).sum ≤ 8) (kk : ∀ q, K q = some res → V q (pc + 3) L (rest)) : V w pc L (.ref (G.2 100) :: rest) := r_callV (As := []) (rest := rest) (rvf := fun q => none) (wf := fun q => q) C hd h ql_X9_207 qi_X9_nightGoes qs_X9_nightGoes qn_X9 qc_X9_nightGoes ⟨rfl, by decide +kernel, by decide +kernel, (by decide +kernel : (parseMethodDescriptor yX9_nightGoes.desc).map (fun d => d.parameters.length) = some 0)⟩ ⟨hR, by decide⟩ kx_100 rfl (fun q hq l => c_X9_nightGoes hq l) rfl hr kk
def fb_X9_nights_19 (rec19 : Int32 → Int32 → Wd → Option (Int32 × Wd)) (x1 : Int32) (x2 : Int32) (w : Wd) : Option (Int32 × Wd) := (if x1 ≤ x2 then some (x2, w) else ald w 101 229 (0:Int32) (fun v1 => (if (9999:Int32) ≤ v1 then some (x2, w) else bd (f_X9_isFirst w) (fun q2 => (if q2.1 = 0 then some (x2, q2.2) else bd (f_X9_nightGoes q2.2) (fun q3 => rec19 x1 (x2 + (1:Int32)) q3))))))
set_option maxRecDepth 20000 in
theorem bb_X9_nights_19 {G : Gv} {V : Vt} {rec19 : Int32 → Int32 → Wd → Option (Int32 × Wd)} {res : Int32 × Wd}  (C : CX cX9_nights RX9 G SM 3 108 (some FieldType.int) (some (.int res.1)) res.2 V) (hrec19 : ∀ (x1 : Int32) (x2 : Int32) (w : Wd), rec19 x1 x2 w = some res → V w 19 [(0, .ref (G.2 100)), (1, .int x1), (2, .int x2)] []) {x1 : Int32} {x2 : Int32} {w : Wd} (h : fb_X9_nights_19 rec19 x1 x2 w = some res) : V w 19 [(0, .ref (G.2 100)), (1, .int x1), (2, .int x2)] [] := by
  unfold fb_X9_nights_19 at h
  refine r_iload_n (pc := 19) C dX9_nights_19 rfl 2 rfl ?_
  refine r_iload_n (pc := 20) C dX9_nights_20 rfl 1 rfl ?_
  refine r_icmp_ge (pc := 21) C 53 dX9_nights_21 (by decide) h (fun h => ?_) (fun h => ?_)
  · refine r_iload_n (pc := 53) C dX9_nights_53 rfl 2 rfl ?_
    exact r_iretE (pc := 54) C dX9_nights_54 h
  · refine r_aload_n (pc := 24) C dX9_nights_24 rfl 0 rfl ?_
    refine gr_X9_7 (pc := 25) 101 C dX9_nights_25 kx_100 rfl ?_
    refine r_iconst (v := (0:Int32)) (pc := 28) C dX9_nights_28 (by decide) ?_
    refine r_ald (pc := 29) C dX9_nights_29 h kx_101 (fun v1 h => ?_)
    refine r_sipush (v := (9999:Int32)) (pc := 30) C dX9_nights_30 (by decide) ?_
    refine r_icmp_ge (pc := 33) C 53 dX9_nights_33 (by decide) h (fun h => ?_) (fun h => ?_)
    · refine r_iload_n (pc := 53) C dX9_nights_53 rfl 2 rfl ?_
      exact r_iretE (pc := 54) C dX9_nights_54 h
    · refine r_aload_n (pc := 36) C dX9_nights_36 rfl 0 rfl ?_
      refine cv_X9_203 (pc := 37) C dX9_nights_37  h (by decide) (Nat.le_of_ble_eq_true rfl) (fun q2 h => ?_)
      refine r_if_eq (pc := 40) C 53 dX9_nights_40 (by decide) h (fun h => ?_) (fun h => ?_)
      · refine r_iload_n (pc := 53) C dX9_nights_53 rfl 2 rfl ?_
        exact r_iretE (pc := 54) C dX9_nights_54 h
      · refine r_aload_n (pc := 43) C dX9_nights_43 rfl 0 rfl ?_
        refine cv_X9_207 (pc := 44) C dX9_nights_44  h (by decide) (Nat.le_of_ble_eq_true rfl) (fun q3 h => ?_)
        refine r_iinc (v := (x2 + (1:Int32))) (L' := [(2, .int (x2 + (1:Int32))), (0, .ref (G.2 100)), (1, .int x1)]) (pc := 47) C dX9_nights_47 2 rfl rfl (by decide) rfl ?_
        refine r_goto (pc := 50) C 19 dX9_nights_50 (by decide) ?_
        exact r_sub C [1, 2, 0] rfl (hrec19 _ _ _ h)
def f_X9_nights_19 : Int32 → Int32 → Wd → Option (Int32 × Wd) := lp (fun _ _ _ => none) (fun rec => fb_X9_nights_19 rec) FU
theorem b_X9_nights_19 {G : Gv} {V : Vt} {res : Int32 × Wd}  (C : CX cX9_nights RX9 G SM 3 108 (some FieldType.int) (some (.int res.1)) res.2 V) : ∀ (x1 : Int32) (x2 : Int32) (w : Wd), (f_X9_nights_19) x1 x2 w = some res → V w 19 [(0, .ref (G.2 100)), (1, .int x1), (2, .int x2)] [] :=
  lp_ind (P := fun (g : Int32 → Int32 → Wd → Option (Int32 × Wd)) => ∀ (x1 : Int32) (x2 : Int32) (w : Wd), g x1 x2 w = some res → V w 19 [(0, .ref (G.2 100)), (1, .int x1), (2, .int x2)] []) (fun _ _ _ h => by cases h) (fun g hg _ _ _ h => bb_X9_nights_19 C hg h) FU
def f_X9_nights (p1 : Int32) (w : Wd) : Option (Int32 × Wd) := bd (f_X9_in p1 (1:Int32) (60:Int32)) (fun q1 => (if ¬ q1 = 0 then f_X9_nights_19 p1 (0:Int32) w else bd (f_X9_errs (-1000000001:Int32) w) (fun q2 => some (q2.1, q2.2))))
set_option maxRecDepth 20000 in
theorem b_X9_nights_E {G : Gv} {V : Vt} {res : Int32 × Wd}  (C : CX cX9_nights RX9 G SM 3 108 (some FieldType.int) (some (.int res.1)) res.2 V) {p1 : Int32} {w : Wd} (h : f_X9_nights p1 w = some res) : V w 0 [(0, .ref (G.2 100)), (1, .int p1)] [] := by
  unfold f_X9_nights at h
  refine r_iload_n (pc := 0) C dX9_nights_0 rfl 1 rfl ?_
  refine r_iconst (v := (1:Int32)) (pc := 1) C dX9_nights_1 (by decide) ?_
  refine r_bipush (v := (60:Int32)) (pc := 2) C dX9_nights_2 (by decide) ?_
  refine cv_X9_53 (pc := 4) C dX9_nights_4  h (by decide) (Nat.le_of_ble_eq_true rfl) (fun q1 h => ?_)
  refine r_if_ne (pc := 7) C 17 dX9_nights_7 (by decide) h (fun h => ?_) (fun h => ?_)
  · refine r_iconst (v := (0:Int32)) (pc := 17) C dX9_nights_17 (by decide) ?_
    refine r_istore_n (L' := [(2, .int (0:Int32)), (0, .ref (G.2 100)), (1, .int p1)]) (pc := 18) C dX9_nights_18 rfl (by decide) rfl ?_
    exact r_sub C [1, 2, 0] rfl (b_X9_nights_19 C _ _ _ h)
  · refine r_aload_n (pc := 10) C dX9_nights_10 rfl 0 rfl ?_
    refine r_ldc (pc := 11) C dX9_nights_11 qk_X9_61 ?_
    refine cv_X9_62 (pc := 13) C dX9_nights_13  h (by decide) (Nat.le_of_ble_eq_true rfl) (fun q2 h => ?_)
    exact r_iretE (pc := 16) C dX9_nights_16 h
theorem c_X9_nights {G : Gv} {p1 : Int32} {w : Wd} {res : Int32 × Wd} (h : f_X9_nights p1 w = some res) (l : Launch) : MC l yX9_nights cX9_nights 3 (some FieldType.int) 108 G SM w [.ref (G.2 100), .int p1] (some (.int res.1)) res.2 := mc_of (by decide +kernel) rfl (Nat.le_of_ble_eq_true rfl) rfl (fun V C => b_X9_nights_E C h) l
def f_X9_drawn (p1 : Int32) (w : Wd) : Option (Int32 × Wd) := ald w 101 229 (2:Int32) (fun v1 => ast w 101 229 (2:Int32) ((v1 * (1103515245:Int32)) + (12345:Int32)) (fun w2 => ald w2 101 229 (2:Int32) (fun v3 => nz p1 (some (((ushr v3 (8:Int32)) - (ushr v3 (8:Int32)) / p1 * p1), w2)))))
set_option maxRecDepth 20000 in
theorem b_X9_drawn_E {G : Gv} {V : Vt} {res : Int32 × Wd}  (C : CX cX9_drawn RX9 G SM 2 1 (some FieldType.int) (some (.int res.1)) res.2 V) {p1 : Int32} {w : Wd} (h : f_X9_drawn p1 w = some res) : V w 0 [(0, .ref (G.2 100)), (1, .int p1)] [] := by
  unfold f_X9_drawn at h
  refine r_aload_n (pc := 0) C dX9_drawn_0 rfl 0 rfl ?_
  refine gr_X9_7 (pc := 1) 101 C dX9_drawn_1 kx_100 rfl ?_
  refine r_iconst (v := (2:Int32)) (pc := 4) C dX9_drawn_4 (by decide) ?_
  refine r_aload_n (pc := 5) C dX9_drawn_5 rfl 0 rfl ?_
  refine gr_X9_7 (pc := 6) 101 C dX9_drawn_6 kx_100 rfl ?_
  refine r_iconst (v := (2:Int32)) (pc := 9) C dX9_drawn_9 (by decide) ?_
  refine r_ald (pc := 10) C dX9_drawn_10 h kx_101 (fun v1 h => ?_)
  refine r_ldc (pc := 11) C dX9_drawn_11 qk_X9_210 ?_
  refine r_imul (pc := 13) C dX9_drawn_13 ?_
  refine r_sipush (v := (12345:Int32)) (pc := 14) C dX9_drawn_14 (by decide) ?_
  refine r_iadd (pc := 17) C dX9_drawn_17 ?_
  refine r_ast (pc := 18) C dX9_drawn_18 h kx_101 (fun w2 h => ?_)
  refine r_aload_n (pc := 19) C dX9_drawn_19 rfl 0 rfl ?_
  refine gr_X9_7 (pc := 20) 101 C dX9_drawn_20 kx_100 rfl ?_
  refine r_iconst (v := (2:Int32)) (pc := 23) C dX9_drawn_23 (by decide) ?_
  refine r_ald (pc := 24) C dX9_drawn_24 h kx_101 (fun v3 h => ?_)
  refine r_bipush (v := (8:Int32)) (pc := 25) C dX9_drawn_25 (by decide) ?_
  refine r_iushr (pc := 27) C dX9_drawn_27 ?_
  refine r_iload_n (pc := 28) C dX9_drawn_28 rfl 1 rfl ?_
  refine r_nz_rem (pc := 29) C dX9_drawn_29 h (fun h => ?_)
  exact r_iretE (pc := 30) C dX9_drawn_30 h
theorem c_X9_drawn {G : Gv} {p1 : Int32} {w : Wd} {res : Int32 × Wd} (h : f_X9_drawn p1 w = some res) (l : Launch) : MC l yX9_drawn cX9_drawn 2 (some FieldType.int) 1 G SM w [.ref (G.2 100), .int p1] (some (.int res.1)) res.2 := mc_of (by decide +kernel) rfl (Nat.le_of_ble_eq_true rfl) rfl (fun V C => b_X9_drawn_E C h) l
theorem cv_X9_212 {cc : ByteArray} {G : Gv} {n hc : Nat} {rt : Option FieldType} {rv : Option Value} {w0 : Wd} {V : Vt} {w : Wd} {pc : Nat} {L : List (Nat × Value)} {rest : List Value} {α : Type} {res : α} {p1 : Int32} {K : Int32 × Wd → Option α} (C : CX cc RX9 G SM n hc rt rv w0 V) (hd : decode cc pc = .ok (.invokevirtual 212, 3)) (h : bd (f_X9_drawn p1 w) K = some res) (hR : 1 + 1 ≤ hc) (hr : (rest.map fun v => v.category).sum ≤ 8) (kk : ∀ q, K q = some res → V q.2 (pc + 3) L (.int q.1 :: rest)) : V w pc L (.int p1 :: .ref (G.2 100) :: rest) := r_callV (As := [.int p1]) (rest := rest) (rvf := fun q => (some (.int q.1))) (wf := fun q => q.2) C hd h ql_X9_212 qi_X9_drawn qs_X9_drawn qn_X9 qc_X9_drawn ⟨rfl, by decide +kernel, by decide +kernel, (by decide +kernel : (parseMethodDescriptor yX9_drawn.desc).map (fun d => d.parameters.length) = some 1)⟩ ⟨hR, by decide⟩ kx_100 rfl (fun q hq l => c_X9_drawn hq l) rfl hr kk
theorem cv_X9_215 {cc : ByteArray} {G : Gv} {n hc : Nat} {rt : Option FieldType} {rv : Option Value} {w0 : Wd} {V : Vt} {w : Wd} {pc : Nat} {L : List (Nat × Value)} {rest : List Value} {α : Type} {res : α} {K : Int32 → Option α} (C : CX cc RX9 G SM n hc rt rv w0 V) (hd : decode cc pc = .ok (.invokevirtual 215, 3)) (h : bd (f_X9_purses w) K = some res) (hR : 2 + 1 ≤ hc) (hr : (rest.map fun v => v.category).sum ≤ 8) (kk : ∀ q, K q = some res → V w (pc + 3) L (.int q :: rest)) : V w pc L (.ref (G.2 100) :: rest) := r_callV (As := []) (rest := rest) (rvf := fun q => (some (.int q))) (wf := fun q => w) C hd h ql_X9_215 qi_X9_purses qs_X9_purses qn_X9 qc_X9_purses ⟨rfl, by decide +kernel, by decide +kernel, (by decide +kernel : (parseMethodDescriptor yX9_purses.desc).map (fun d => d.parameters.length) = some 0)⟩ ⟨hR, by decide⟩ kx_100 rfl (fun q hq l => c_X9_purses hq l) rfl hr kk
def f_X9_loose_111 (w : Wd) : Option (Int32 × Wd) := bd (f_X9_purses w) (fun q1 => some (q1, w))
set_option maxRecDepth 20000 in
theorem b_X9_loose_111 {G : Gv} {V : Vt} {res : Int32 × Wd}  (C : CX cX9_loose RX9 G SM 4 108 (some FieldType.int) (some (.int res.1)) res.2 V) {w : Wd} (h : f_X9_loose_111 w = some res) : V w 111 [(0, .ref (G.2 100))] [] := by
  unfold f_X9_loose_111 at h
  refine r_aload_n (pc := 111) C dX9_loose_111 rfl 0 rfl ?_
  refine cv_X9_215 (pc := 112) C dX9_loose_112  h (by decide) (Nat.le_of_ble_eq_true rfl) (fun q1 h => ?_)
  exact r_iretE (pc := 115) C dX9_loose_115 h
def f_X9_loose_105 (rec40 : Int32 → Int32 → Wd → Option (Int32 × Wd)) (x1 : Int32) (x2 : Int32) (w : Wd) : Option (Int32 × Wd) := rec40 x1 (x2 + (1:Int32)) w
set_option maxRecDepth 20000 in
theorem b_X9_loose_105 {G : Gv} {V : Vt} {rec40 : Int32 → Int32 → Wd → Option (Int32 × Wd)} {res : Int32 × Wd}  (C : CX cX9_loose RX9 G SM 4 108 (some FieldType.int) (some (.int res.1)) res.2 V) (hrec40 : ∀ (x1 : Int32) (x2 : Int32) (w : Wd), rec40 x1 x2 w = some res → V w 40 [(0, .ref (G.2 100)), (1, .int x1), (2, .int x2)] []) {x1 : Int32} {x2 : Int32} {w : Wd} (h : f_X9_loose_105 rec40 x1 x2 w = some res) : V w 105 [(0, .ref (G.2 100)), (1, .int x1), (2, .int x2)] [] := by
  unfold f_X9_loose_105 at h
  refine r_iinc (v := (x2 + (1:Int32))) (L' := [(2, .int (x2 + (1:Int32))), (0, .ref (G.2 100)), (1, .int x1)]) (pc := 105) C dX9_loose_105 2 rfl rfl (by decide) rfl ?_
  refine r_goto (pc := 108) C 40 dX9_loose_108 (by decide) ?_
  exact r_sub C [1, 2, 0] rfl (hrec40 _ _ _ h)
def f_X9_loose_81 (rec40 : Int32 → Int32 → Wd → Option (Int32 × Wd)) (x1 : Int32) (x2 : Int32) (w : Wd) : Option (Int32 × Wd) := bd (f_X9_isFirst w) (fun q1 => (if q1.1 = 0 then ald q1.2 101 229 (0:Int32) (fun v2 => ast q1.2 101 229 (0:Int32) (v2 + (1:Int32)) (fun w3 => f_X9_loose_105 rec40 x1 x2 w3)) else bd (f_X9_nightGoes q1.2) (fun q4 => f_X9_loose_105 rec40 x1 x2 q4)))
set_option maxRecDepth 20000 in
theorem b_X9_loose_81 {G : Gv} {V : Vt} {rec40 : Int32 → Int32 → Wd → Option (Int32 × Wd)} {res : Int32 × Wd}  (C : CX cX9_loose RX9 G SM 4 108 (some FieldType.int) (some (.int res.1)) res.2 V) (hrec40 : ∀ (x1 : Int32) (x2 : Int32) (w : Wd), rec40 x1 x2 w = some res → V w 40 [(0, .ref (G.2 100)), (1, .int x1), (2, .int x2)] []) {x1 : Int32} {x2 : Int32} {w : Wd} (h : f_X9_loose_81 rec40 x1 x2 w = some res) : V w 81 [(0, .ref (G.2 100)), (1, .int x1), (2, .int x2)] [] := by
  unfold f_X9_loose_81 at h
  refine r_aload_n (pc := 81) C dX9_loose_81 rfl 0 rfl ?_
  refine cv_X9_203 (pc := 82) C dX9_loose_82  h (by decide) (Nat.le_of_ble_eq_true rfl) (fun q1 h => ?_)
  refine r_if_eq (pc := 85) C 95 dX9_loose_85 (by decide) h (fun h => ?_) (fun h => ?_)
  · refine r_aload_n (pc := 95) C dX9_loose_95 rfl 0 rfl ?_
    refine gr_X9_7 (pc := 96) 101 C dX9_loose_96 kx_100 rfl ?_
    refine r_iconst (v := (0:Int32)) (pc := 99) C dX9_loose_99 (by decide) ?_
    refine r_dup2 (pc := 100) C dX9_loose_100 rfl rfl ?_
    refine r_ald (pc := 101) C dX9_loose_101 h kx_101 (fun v2 h => ?_)
    refine r_iconst (v := (1:Int32)) (pc := 102) C dX9_loose_102 (by decide) ?_
    refine r_iadd (pc := 103) C dX9_loose_103 ?_
    refine r_ast (pc := 104) C dX9_loose_104 h kx_101 (fun w3 h => ?_)
    exact r_sub C [0, 1, 2] rfl (b_X9_loose_105 C hrec40 h)
  · refine r_aload_n (pc := 88) C dX9_loose_88 rfl 0 rfl ?_
    refine cv_X9_207 (pc := 89) C dX9_loose_89  h (by decide) (Nat.le_of_ble_eq_true rfl) (fun q4 h => ?_)
    refine r_goto (pc := 92) C 105 dX9_loose_92 (by decide) ?_
    exact r_sub C [0, 1, 2] rfl (b_X9_loose_105 C hrec40 h)
def fb_X9_loose_40 (rec40 : Int32 → Int32 → Wd → Option (Int32 × Wd)) (x1 : Int32) (x2 : Int32) (w : Wd) : Option (Int32 × Wd) := (if x1 ≤ x2 then f_X9_loose_111 w else ald w 101 229 (8:Int32) (fun v1 => (if v1 ≤ 0 then f_X9_loose_81 rec40 x1 x2 w else ald w 101 229 (8:Int32) (fun v2 => bd (f_X9_drawn v2 w) (fun q3 => bd (f_X9_of q3.2 q3.1 (4:Int32)) (fun q4 => bd (f_X9_gets q3.1 (4:Int32) ((1:Int32) - q4) q3.2) (fun q5 => f_X9_loose_81 rec40 x1 x2 q5)))))))
set_option maxRecDepth 20000 in
theorem bb_X9_loose_40 {G : Gv} {V : Vt} {rec40 : Int32 → Int32 → Wd → Option (Int32 × Wd)} {res : Int32 × Wd}  (C : CX cX9_loose RX9 G SM 4 108 (some FieldType.int) (some (.int res.1)) res.2 V) (hrec40 : ∀ (x1 : Int32) (x2 : Int32) (w : Wd), rec40 x1 x2 w = some res → V w 40 [(0, .ref (G.2 100)), (1, .int x1), (2, .int x2)] []) {x1 : Int32} {x2 : Int32} {w : Wd} (h : fb_X9_loose_40 rec40 x1 x2 w = some res) : V w 40 [(0, .ref (G.2 100)), (1, .int x1), (2, .int x2)] [] := by
  unfold fb_X9_loose_40 at h
  refine r_iload_n (pc := 40) C dX9_loose_40 rfl 2 rfl ?_
  refine r_iload_n (pc := 41) C dX9_loose_41 rfl 1 rfl ?_
  refine r_icmp_ge (pc := 42) C 111 dX9_loose_42 (by decide) h (fun h => ?_) (fun h => ?_)
  · exact r_sub C [0] rfl (b_X9_loose_111 C h)
  · refine r_aload_n (pc := 45) C dX9_loose_45 rfl 0 rfl ?_
    refine gr_X9_7 (pc := 46) 101 C dX9_loose_46 kx_100 rfl ?_
    refine r_bipush (v := (8:Int32)) (pc := 49) C dX9_loose_49 (by decide) ?_
    refine r_ald (pc := 51) C dX9_loose_51 h kx_101 (fun v1 h => ?_)
    refine r_if_le (pc := 52) C 81 dX9_loose_52 (by decide) h (fun h => ?_) (fun h => ?_)
    · exact r_sub C [0, 1, 2] rfl (b_X9_loose_81 C hrec40 h)
    · refine r_aload_n (pc := 55) C dX9_loose_55 rfl 0 rfl ?_
      refine r_aload_n (pc := 56) C dX9_loose_56 rfl 0 rfl ?_
      refine gr_X9_7 (pc := 57) 101 C dX9_loose_57 kx_100 rfl ?_
      refine r_bipush (v := (8:Int32)) (pc := 60) C dX9_loose_60 (by decide) ?_
      refine r_ald (pc := 62) C dX9_loose_62 h kx_101 (fun v2 h => ?_)
      refine cv_X9_212 (pc := 63) C dX9_loose_63  h (by decide) (Nat.le_of_ble_eq_true rfl) (fun q3 h => ?_)
      refine r_istore_n (L' := [(3, .int q3.1), (0, .ref (G.2 100)), (1, .int x1), (2, .int x2)]) (pc := 66) C dX9_loose_66 rfl (by decide) rfl ?_
      refine r_aload_n (pc := 67) C dX9_loose_67 rfl 1 rfl ?_
      refine r_iload_n (pc := 68) C dX9_loose_68 rfl 0 rfl ?_
      refine r_iconst (v := (4:Int32)) (pc := 69) C dX9_loose_69 (by decide) ?_
      refine r_iconst (v := (1:Int32)) (pc := 70) C dX9_loose_70 (by decide) ?_
      refine r_aload_n (pc := 71) C dX9_loose_71 rfl 1 rfl ?_
      refine r_iload_n (pc := 72) C dX9_loose_72 rfl 0 rfl ?_
      refine r_iconst (v := (4:Int32)) (pc := 73) C dX9_loose_73 (by decide) ?_
      refine cv_X9_71 (pc := 74) C dX9_loose_74  h (by decide) (Nat.le_of_ble_eq_true rfl) (fun q4 h => ?_)
      refine r_isub (pc := 77) C dX9_loose_77 ?_
      refine cv_X9_97 (pc := 78) C dX9_loose_78  h (by decide) (Nat.le_of_ble_eq_true rfl) (fun q5 h => ?_)
      exact r_sub C [1, 2, 3] rfl (b_X9_loose_81 C hrec40 h)
def f_X9_loose_40 : Int32 → Int32 → Wd → Option (Int32 × Wd) := lp (fun _ _ _ => none) (fun rec => fb_X9_loose_40 rec) FU
theorem b_X9_loose_40 {G : Gv} {V : Vt} {res : Int32 × Wd}  (C : CX cX9_loose RX9 G SM 4 108 (some FieldType.int) (some (.int res.1)) res.2 V) : ∀ (x1 : Int32) (x2 : Int32) (w : Wd), (f_X9_loose_40) x1 x2 w = some res → V w 40 [(0, .ref (G.2 100)), (1, .int x1), (2, .int x2)] [] :=
  lp_ind (P := fun (g : Int32 → Int32 → Wd → Option (Int32 × Wd)) => ∀ (x1 : Int32) (x2 : Int32) (w : Wd), g x1 x2 w = some res → V w 40 [(0, .ref (G.2 100)), (1, .int x1), (2, .int x2)] []) (fun _ _ _ h => by cases h) (fun g hg _ _ _ h => bb_X9_loose_40 C hg h) FU
def f_X9_loose (p1 : Int32) (w : Wd) : Option (Int32 × Wd) := bd (f_X9_in p1 (1:Int32) (40:Int32)) (fun q1 => (if ¬ q1 = 0 then ald w 101 229 (0:Int32) (fun v2 => (if (v2 + p1) ≤ (9999:Int32) then f_X9_loose_40 p1 (0:Int32) w else bd (f_X9_errs (-1000000003:Int32) w) (fun q3 => some (q3.1, q3.2)))) else bd (f_X9_errs (-1000000001:Int32) w) (fun q4 => some (q4.1, q4.2))))
set_option maxRecDepth 20000 in
theorem b_X9_loose_E {G : Gv} {V : Vt} {res : Int32 × Wd}  (C : CX cX9_loose RX9 G SM 4 108 (some FieldType.int) (some (.int res.1)) res.2 V) {p1 : Int32} {w : Wd} (h : f_X9_loose p1 w = some res) : V w 0 [(0, .ref (G.2 100)), (1, .int p1)] [] := by
  unfold f_X9_loose at h
  refine r_iload_n (pc := 0) C dX9_loose_0 rfl 1 rfl ?_
  refine r_iconst (v := (1:Int32)) (pc := 1) C dX9_loose_1 (by decide) ?_
  refine r_bipush (v := (40:Int32)) (pc := 2) C dX9_loose_2 (by decide) ?_
  refine cv_X9_53 (pc := 4) C dX9_loose_4  h (by decide) (Nat.le_of_ble_eq_true rfl) (fun q1 h => ?_)
  refine r_if_ne (pc := 7) C 17 dX9_loose_7 (by decide) h (fun h => ?_) (fun h => ?_)
  · refine r_aload_n (pc := 17) C dX9_loose_17 rfl 0 rfl ?_
    refine gr_X9_7 (pc := 18) 101 C dX9_loose_18 kx_100 rfl ?_
    refine r_iconst (v := (0:Int32)) (pc := 21) C dX9_loose_21 (by decide) ?_
    refine r_ald (pc := 22) C dX9_loose_22 h kx_101 (fun v2 h => ?_)
    refine r_iload_n (pc := 23) C dX9_loose_23 rfl 1 rfl ?_
    refine r_iadd (pc := 24) C dX9_loose_24 ?_
    refine r_sipush (v := (9999:Int32)) (pc := 25) C dX9_loose_25 (by decide) ?_
    refine r_icmp_le (pc := 28) C 38 dX9_loose_28 (by decide) h (fun h => ?_) (fun h => ?_)
    · refine r_iconst (v := (0:Int32)) (pc := 38) C dX9_loose_38 (by decide) ?_
      refine r_istore_n (L' := [(2, .int (0:Int32)), (0, .ref (G.2 100)), (1, .int p1)]) (pc := 39) C dX9_loose_39 rfl (by decide) rfl ?_
      exact r_sub C [1, 2, 0] rfl (b_X9_loose_40 C _ _ _ h)
    · refine r_aload_n (pc := 31) C dX9_loose_31 rfl 0 rfl ?_
      refine r_ldc (pc := 32) C dX9_loose_32 qk_X9_211 ?_
      refine cv_X9_62 (pc := 34) C dX9_loose_34  h (by decide) (Nat.le_of_ble_eq_true rfl) (fun q3 h => ?_)
      exact r_iretE (pc := 37) C dX9_loose_37 h
  · refine r_aload_n (pc := 10) C dX9_loose_10 rfl 0 rfl ?_
    refine r_ldc (pc := 11) C dX9_loose_11 qk_X9_61 ?_
    refine cv_X9_62 (pc := 13) C dX9_loose_13  h (by decide) (Nat.le_of_ble_eq_true rfl) (fun q4 h => ?_)
    exact r_iretE (pc := 16) C dX9_loose_16 h
theorem c_X9_loose {G : Gv} {p1 : Int32} {w : Wd} {res : Int32 × Wd} (h : f_X9_loose p1 w = some res) (l : Launch) : MC l yX9_loose cX9_loose 4 (some FieldType.int) 108 G SM w [.ref (G.2 100), .int p1] (some (.int res.1)) res.2 := mc_of (by decide +kernel) rfl (Nat.le_of_ble_eq_true rfl) rfl (fun V C => b_X9_loose_E C h) l
def f_X9_first (p1 : Int32) (w : Wd) : Option (Int32 × Wd) := bd (f_X9_isPart w p1) (fun q1 => (if ¬ q1 = 0 then bd (f_X9_isFirst w) (fun q2 => (if q2.1 = 0 then bd (f_X9_errs (-1000000002:Int32) q2.2) (fun q3 => some (q3.1, q3.2)) else ald q2.2 106 5 p1 (fun v4 => some (v4, q2.2)))) else bd (f_X9_errs (-1000000001:Int32) w) (fun q5 => some (q5.1, q5.2))))
set_option maxRecDepth 20000 in
theorem b_X9_first_E {G : Gv} {V : Vt} {res : Int32 × Wd}  (C : CX cX9_first RX9 G SM 2 7 (some FieldType.int) (some (.int res.1)) res.2 V) {p1 : Int32} {w : Wd} (h : f_X9_first p1 w = some res) : V w 0 [(0, .ref (G.2 100)), (1, .int p1)] [] := by
  unfold f_X9_first at h
  refine r_aload_n (pc := 0) C dX9_first_0 rfl 0 rfl ?_
  refine r_iload_n (pc := 1) C dX9_first_1 rfl 1 rfl ?_
  refine cv_X9_57 (pc := 2) C dX9_first_2  h (by decide) (Nat.le_of_ble_eq_true rfl) (fun q1 h => ?_)
  refine r_if_ne (pc := 5) C 15 dX9_first_5 (by decide) h (fun h => ?_) (fun h => ?_)
  · refine r_aload_n (pc := 15) C dX9_first_15 rfl 0 rfl ?_
    refine cv_X9_203 (pc := 16) C dX9_first_16  h (by decide) (Nat.le_of_ble_eq_true rfl) (fun q2 h => ?_)
    refine r_if_eq (pc := 19) C 31 dX9_first_19 (by decide) h (fun h => ?_) (fun h => ?_)
    · refine r_aload_n (pc := 31) C dX9_first_31 rfl 0 rfl ?_
      refine r_ldc (pc := 32) C dX9_first_32 qk_X9_218 ?_
      refine cv_X9_62 (pc := 34) C dX9_first_34  h (by decide) (Nat.le_of_ble_eq_true rfl) (fun q3 h => ?_)
      exact r_iretE (pc := 37) C dX9_first_37 h
    · refine r_aload_n (pc := 22) C dX9_first_22 rfl 0 rfl ?_
      refine gr_X9_25 (pc := 23) 106 C dX9_first_23 kx_100 rfl ?_
      refine r_iload_n (pc := 26) C dX9_first_26 rfl 1 rfl ?_
      refine r_ald (pc := 27) C dX9_first_27 h kx_106 (fun v4 h => ?_)
      refine r_goto (pc := 28) C 37 dX9_first_28 (by decide) ?_
      exact r_iretE (pc := 37) C dX9_first_37 h
  · refine r_aload_n (pc := 8) C dX9_first_8 rfl 0 rfl ?_
    refine r_ldc (pc := 9) C dX9_first_9 qk_X9_61 ?_
    refine cv_X9_62 (pc := 11) C dX9_first_11  h (by decide) (Nat.le_of_ble_eq_true rfl) (fun q5 h => ?_)
    exact r_iretE (pc := 14) C dX9_first_14 h
theorem c_X9_first {G : Gv} {p1 : Int32} {w : Wd} {res : Int32 × Wd} (h : f_X9_first p1 w = some res) (l : Launch) : MC l yX9_first cX9_first 2 (some FieldType.int) 7 G SM w [.ref (G.2 100), .int p1] (some (.int res.1)) res.2 := mc_of (by decide +kernel) rfl (Nat.le_of_ble_eq_true rfl) rfl (fun V C => b_X9_first_E C h) l
theorem cv_X9_219 {cc : ByteArray} {G : Gv} {n hc : Nat} {rt : Option FieldType} {rv : Option Value} {w0 : Wd} {V : Vt} {w : Wd} {pc : Nat} {L : List (Nat × Value)} {rest : List Value} {α : Type} {res : α} {K : Int32 × Wd → Option α} (C : CX cc RX9 G SM n hc rt rv w0 V) (hd : decode cc pc = .ok (.invokevirtual 219, 3)) (h : bd (f_X9_isNext w) K = some res) (hR : 6 + 1 ≤ hc) (hr : (rest.map fun v => v.category).sum ≤ 8) (kk : ∀ q, K q = some res → V q.2 (pc + 3) L (.int q.1 :: rest)) : V w pc L (.ref (G.2 100) :: rest) := r_callV (As := []) (rest := rest) (rvf := fun q => (some (.int q.1))) (wf := fun q => q.2) C hd h ql_X9_219 qi_X9_isNext qs_X9_isNext qn_X9 qc_X9_isNext ⟨rfl, by decide +kernel, by decide +kernel, (by decide +kernel : (parseMethodDescriptor yX9_isNext.desc).map (fun d => d.parameters.length) = some 0)⟩ ⟨hR, by decide⟩ kx_100 rfl (fun q hq l => c_X9_isNext hq l) rfl hr kk
def fb_X9_castings_7 (rec7 : Int32 → Int32 → Wd → Option (Int32 × Wd)) (x1 : Int32) (x2 : Int32) (w : Wd) : Option (Int32 × Wd) := (if x2 = 0 then some (x1, w) else bd (f_X9_isNext w) (fun q1 => rec7 (x1 + (1:Int32)) q1.1 q1.2))
set_option maxRecDepth 20000 in
theorem bb_X9_castings_7 {G : Gv} {V : Vt} {rec7 : Int32 → Int32 → Wd → Option (Int32 × Wd)} {res : Int32 × Wd}  (C : CX cX9_castings RX9 G SM 3 7 (some FieldType.int) (some (.int res.1)) res.2 V) (hrec7 : ∀ (x1 : Int32) (x2 : Int32) (w : Wd), rec7 x1 x2 w = some res → V w 7 [(0, .ref (G.2 100)), (1, .int x1), (2, .int x2)] []) {x1 : Int32} {x2 : Int32} {w : Wd} (h : fb_X9_castings_7 rec7 x1 x2 w = some res) : V w 7 [(0, .ref (G.2 100)), (1, .int x1), (2, .int x2)] [] := by
  unfold fb_X9_castings_7 at h
  refine r_iload_n (pc := 7) C dX9_castings_7 rfl 2 rfl ?_
  refine r_if_eq (pc := 8) C 22 dX9_castings_8 (by decide) h (fun h => ?_) (fun h => ?_)
  · refine r_iload_n (pc := 22) C dX9_castings_22 rfl 1 rfl ?_
    exact r_iretE (pc := 23) C dX9_castings_23 h
  · refine r_iinc (v := (x1 + (1:Int32))) (L' := [(1, .int (x1 + (1:Int32))), (0, .ref (G.2 100)), (2, .int x2)]) (pc := 11) C dX9_castings_11 1 rfl rfl (by decide) rfl ?_
    refine r_aload_n (pc := 14) C dX9_castings_14 rfl 1 rfl ?_
    refine cv_X9_219 (pc := 15) C dX9_castings_15  h (by decide) (Nat.le_of_ble_eq_true rfl) (fun q1 h => ?_)
    refine r_istore_n (L' := [(2, .int q1.1), (1, .int (x1 + (1:Int32))), (0, .ref (G.2 100))]) (pc := 18) C dX9_castings_18 rfl (by decide) rfl ?_
    refine r_goto (pc := 19) C 7 dX9_castings_19 (by decide) ?_
    exact r_sub C [2, 1, 0] rfl (hrec7 _ _ _ h)
def f_X9_castings_7 : Int32 → Int32 → Wd → Option (Int32 × Wd) := lp (fun _ _ _ => none) (fun rec => fb_X9_castings_7 rec) FU
theorem b_X9_castings_7 {G : Gv} {V : Vt} {res : Int32 × Wd}  (C : CX cX9_castings RX9 G SM 3 7 (some FieldType.int) (some (.int res.1)) res.2 V) : ∀ (x1 : Int32) (x2 : Int32) (w : Wd), (f_X9_castings_7) x1 x2 w = some res → V w 7 [(0, .ref (G.2 100)), (1, .int x1), (2, .int x2)] [] :=
  lp_ind (P := fun (g : Int32 → Int32 → Wd → Option (Int32 × Wd)) => ∀ (x1 : Int32) (x2 : Int32) (w : Wd), g x1 x2 w = some res → V w 7 [(0, .ref (G.2 100)), (1, .int x1), (2, .int x2)] []) (fun _ _ _ h => by cases h) (fun g hg _ _ _ h => bb_X9_castings_7 C hg h) FU
def f_X9_castings (w : Wd) : Option (Int32 × Wd) := bd (f_X9_isFirst w) (fun q1 => f_X9_castings_7 (0:Int32) q1.1 q1.2)
set_option maxRecDepth 20000 in
theorem b_X9_castings_E {G : Gv} {V : Vt} {res : Int32 × Wd}  (C : CX cX9_castings RX9 G SM 3 7 (some FieldType.int) (some (.int res.1)) res.2 V) {w : Wd} (h : f_X9_castings w = some res) : V w 0 [(0, .ref (G.2 100))] [] := by
  unfold f_X9_castings at h
  refine r_iconst (v := (0:Int32)) (pc := 0) C dX9_castings_0 (by decide) ?_
  refine r_istore_n (L' := [(1, .int (0:Int32)), (0, .ref (G.2 100))]) (pc := 1) C dX9_castings_1 rfl (by decide) rfl ?_
  refine r_aload_n (pc := 2) C dX9_castings_2 rfl 1 rfl ?_
  refine cv_X9_203 (pc := 3) C dX9_castings_3  h (by decide) (Nat.le_of_ble_eq_true rfl) (fun q1 h => ?_)
  refine r_istore_n (L' := [(2, .int q1.1), (1, .int (0:Int32)), (0, .ref (G.2 100))]) (pc := 6) C dX9_castings_6 rfl (by decide) rfl ?_
  exact r_sub C [2, 1, 0] rfl (b_X9_castings_7 C _ _ _ h)
theorem c_X9_castings {G : Gv} {w : Wd} {res : Int32 × Wd} (h : f_X9_castings w = some res) (l : Launch) : MC l yX9_castings cX9_castings 3 (some FieldType.int) 7 G SM w [.ref (G.2 100)] (some (.int res.1)) res.2 := mc_of (by decide +kernel) rfl (Nat.le_of_ble_eq_true rfl) rfl (fun V C => b_X9_castings_E C h) l
def fb_X9_seasonGoes_2 (rec2 : Int32 → Int32 → Wd → Option (Int32 × Wd)) (x1 : Int32) (x2 : Int32) (w : Wd) : Option (Int32 × Wd) := (if x1 ≤ x2 then some (x2, w) else bd (f_X9_isFirst w) (fun q1 => (if q1.1 = 0 then some (x2, q1.2) else bd (f_X9_nightGoes q1.2) (fun q2 => rec2 x1 (x2 + (1:Int32)) q2))))
set_option maxRecDepth 20000 in
theorem bb_X9_seasonGoes_2 {G : Gv} {V : Vt} {rec2 : Int32 → Int32 → Wd → Option (Int32 × Wd)} {res : Int32 × Wd}  (C : CX cX9_seasonGoes RX9 G SM 3 108 (some FieldType.int) (some (.int res.1)) res.2 V) (hrec2 : ∀ (x1 : Int32) (x2 : Int32) (w : Wd), rec2 x1 x2 w = some res → V w 2 [(0, .ref (G.2 100)), (1, .int x1), (2, .int x2)] []) {x1 : Int32} {x2 : Int32} {w : Wd} (h : fb_X9_seasonGoes_2 rec2 x1 x2 w = some res) : V w 2 [(0, .ref (G.2 100)), (1, .int x1), (2, .int x2)] [] := by
  unfold fb_X9_seasonGoes_2 at h
  refine r_iload_n (pc := 2) C dX9_seasonGoes_2 rfl 2 rfl ?_
  refine r_iload_n (pc := 3) C dX9_seasonGoes_3 rfl 1 rfl ?_
  refine r_icmp_ge (pc := 4) C 24 dX9_seasonGoes_4 (by decide) h (fun h => ?_) (fun h => ?_)
  · refine r_iload_n (pc := 24) C dX9_seasonGoes_24 rfl 2 rfl ?_
    exact r_iretE (pc := 25) C dX9_seasonGoes_25 h
  · refine r_aload_n (pc := 7) C dX9_seasonGoes_7 rfl 0 rfl ?_
    refine cv_X9_203 (pc := 8) C dX9_seasonGoes_8  h (by decide) (Nat.le_of_ble_eq_true rfl) (fun q1 h => ?_)
    refine r_if_eq (pc := 11) C 24 dX9_seasonGoes_11 (by decide) h (fun h => ?_) (fun h => ?_)
    · refine r_iload_n (pc := 24) C dX9_seasonGoes_24 rfl 2 rfl ?_
      exact r_iretE (pc := 25) C dX9_seasonGoes_25 h
    · refine r_aload_n (pc := 14) C dX9_seasonGoes_14 rfl 0 rfl ?_
      refine cv_X9_207 (pc := 15) C dX9_seasonGoes_15  h (by decide) (Nat.le_of_ble_eq_true rfl) (fun q2 h => ?_)
      refine r_iinc (v := (x2 + (1:Int32))) (L' := [(2, .int (x2 + (1:Int32))), (0, .ref (G.2 100)), (1, .int x1)]) (pc := 18) C dX9_seasonGoes_18 2 rfl rfl (by decide) rfl ?_
      refine r_goto (pc := 21) C 2 dX9_seasonGoes_21 (by decide) ?_
      exact r_sub C [1, 2, 0] rfl (hrec2 _ _ _ h)
def f_X9_seasonGoes_2 : Int32 → Int32 → Wd → Option (Int32 × Wd) := lp (fun _ _ _ => none) (fun rec => fb_X9_seasonGoes_2 rec) FU
theorem b_X9_seasonGoes_2 {G : Gv} {V : Vt} {res : Int32 × Wd}  (C : CX cX9_seasonGoes RX9 G SM 3 108 (some FieldType.int) (some (.int res.1)) res.2 V) : ∀ (x1 : Int32) (x2 : Int32) (w : Wd), (f_X9_seasonGoes_2) x1 x2 w = some res → V w 2 [(0, .ref (G.2 100)), (1, .int x1), (2, .int x2)] [] :=
  lp_ind (P := fun (g : Int32 → Int32 → Wd → Option (Int32 × Wd)) => ∀ (x1 : Int32) (x2 : Int32) (w : Wd), g x1 x2 w = some res → V w 2 [(0, .ref (G.2 100)), (1, .int x1), (2, .int x2)] []) (fun _ _ _ h => by cases h) (fun g hg _ _ _ h => bb_X9_seasonGoes_2 C hg h) FU
def f_X9_seasonGoes (p1 : Int32) (w : Wd) : Option (Int32 × Wd) := f_X9_seasonGoes_2 p1 (0:Int32) w
set_option maxRecDepth 20000 in
theorem b_X9_seasonGoes_E {G : Gv} {V : Vt} {res : Int32 × Wd}  (C : CX cX9_seasonGoes RX9 G SM 3 108 (some FieldType.int) (some (.int res.1)) res.2 V) {p1 : Int32} {w : Wd} (h : f_X9_seasonGoes p1 w = some res) : V w 0 [(0, .ref (G.2 100)), (1, .int p1)] [] := by
  unfold f_X9_seasonGoes at h
  refine r_iconst (v := (0:Int32)) (pc := 0) C dX9_seasonGoes_0 (by decide) ?_
  refine r_istore_n (L' := [(2, .int (0:Int32)), (0, .ref (G.2 100)), (1, .int p1)]) (pc := 1) C dX9_seasonGoes_1 rfl (by decide) rfl ?_
  exact r_sub C [1, 2, 0] rfl (b_X9_seasonGoes_2 C _ _ _ h)
theorem c_X9_seasonGoes {G : Gv} {p1 : Int32} {w : Wd} {res : Int32 × Wd} (h : f_X9_seasonGoes p1 w = some res) (l : Launch) : MC l yX9_seasonGoes cX9_seasonGoes 3 (some FieldType.int) 108 G SM w [.ref (G.2 100), .int p1] (some (.int res.1)) res.2 := mc_of (by decide +kernel) rfl (Nat.le_of_ble_eq_true rfl) rfl (fun V C => b_X9_seasonGoes_E C h) l
theorem cv_X9_222 {cc : ByteArray} {G : Gv} {n hc : Nat} {rt : Option FieldType} {rv : Option Value} {w0 : Wd} {V : Vt} {w : Wd} {pc : Nat} {L : List (Nat × Value)} {rest : List Value} {α : Type} {res : α} {p1 : Int32} {K : Int32 × Wd → Option α} (C : CX cc RX9 G SM n hc rt rv w0 V) (hd : decode cc pc = .ok (.invokevirtual 222, 3)) (h : bd (f_X9_seasonGoes p1 w) K = some res) (hR : 108 + 1 ≤ hc) (hr : (rest.map fun v => v.category).sum ≤ 8) (kk : ∀ q, K q = some res → V q.2 (pc + 3) L (.int q.1 :: rest)) : V w pc L (.int p1 :: .ref (G.2 100) :: rest) := r_callV (As := [.int p1]) (rest := rest) (rvf := fun q => (some (.int q.1))) (wf := fun q => q.2) C hd h ql_X9_222 qi_X9_seasonGoes qs_X9_seasonGoes qn_X9 qc_X9_seasonGoes ⟨rfl, by decide +kernel, by decide +kernel, (by decide +kernel : (parseMethodDescriptor yX9_seasonGoes.desc).map (fun d => d.parameters.length) = some 1)⟩ ⟨hR, by decide⟩ kx_100 rfl (fun q hq l => c_X9_seasonGoes hq l) rfl hr kk
def f_X9_seasonOf (w : Wd) : Option (Int32 × Wd) := bd (f_X9_moveAll 101 103 w) (fun q1 => bd (f_X9_seasonGoes (60:Int32) q1) (fun q2 => bd (f_X9_moveAll 103 101 q2.2) (fun q3 => some (q2.1, q3))))
set_option maxRecDepth 20000 in
theorem b_X9_seasonOf_E {G : Gv} {V : Vt} {res : Int32 × Wd}  (C : CX cX9_seasonOf RX9 G SM 2 109 (some FieldType.int) (some (.int res.1)) res.2 V) {w : Wd} (h : f_X9_seasonOf w = some res) : V w 0 [(0, .ref (G.2 100))] [] := by
  unfold f_X9_seasonOf at h
  refine r_aload_n (pc := 0) C dX9_seasonOf_0 rfl 0 rfl ?_
  refine r_aload_n (pc := 1) C dX9_seasonOf_1 rfl 0 rfl ?_
  refine gr_X9_7 (pc := 2) 101 C dX9_seasonOf_2 kx_100 rfl ?_
  refine r_aload_n (pc := 5) C dX9_seasonOf_5 rfl 0 rfl ?_
  refine gr_X9_16 (pc := 6) 103 C dX9_seasonOf_6 kx_100 rfl ?_
  refine cv_X9_186 (pc := 9) C dX9_seasonOf_9 isAm_101 isAm_103 h (by decide) (Nat.le_of_ble_eq_true rfl) (fun q1 h => ?_)
  refine r_aload_n (pc := 12) C dX9_seasonOf_12 rfl 0 rfl ?_
  refine r_bipush (v := (60:Int32)) (pc := 13) C dX9_seasonOf_13 (by decide) ?_
  refine cv_X9_222 (pc := 15) C dX9_seasonOf_15  h (by decide) (Nat.le_of_ble_eq_true rfl) (fun q2 h => ?_)
  refine r_istore_n (L' := [(1, .int q2.1), (0, .ref (G.2 100))]) (pc := 18) C dX9_seasonOf_18 rfl (by decide) rfl ?_
  refine r_aload_n (pc := 19) C dX9_seasonOf_19 rfl 1 rfl ?_
  refine r_aload_n (pc := 20) C dX9_seasonOf_20 rfl 1 rfl ?_
  refine gr_X9_16 (pc := 21) 103 C dX9_seasonOf_21 kx_100 rfl ?_
  refine r_aload_n (pc := 24) C dX9_seasonOf_24 rfl 1 rfl ?_
  refine gr_X9_7 (pc := 25) 101 C dX9_seasonOf_25 kx_100 rfl ?_
  refine cv_X9_186 (pc := 28) C dX9_seasonOf_28 isAm_103 isAm_101 h (by decide) (Nat.le_of_ble_eq_true rfl) (fun q3 h => ?_)
  refine r_iload_n (pc := 31) C dX9_seasonOf_31 rfl 0 rfl ?_
  exact r_iretE (pc := 32) C dX9_seasonOf_32 h
theorem c_X9_seasonOf {G : Gv} {w : Wd} {res : Int32 × Wd} (h : f_X9_seasonOf w = some res) (l : Launch) : MC l yX9_seasonOf cX9_seasonOf 2 (some FieldType.int) 109 G SM w [.ref (G.2 100)] (some (.int res.1)) res.2 := mc_of (by decide +kernel) rfl (Nat.le_of_ble_eq_true rfl) rfl (fun V C => b_X9_seasonOf_E C h) l
theorem cv_X9_225 {cc : ByteArray} {G : Gv} {n hc : Nat} {rt : Option FieldType} {rv : Option Value} {w0 : Wd} {V : Vt} {w : Wd} {pc : Nat} {L : List (Nat × Value)} {rest : List Value} {α : Type} {res : α} {K : Int32 × Wd → Option α} (C : CX cc RX9 G SM n hc rt rv w0 V) (hd : decode cc pc = .ok (.invokevirtual 225, 3)) (h : bd (f_X9_seasonOf w) K = some res) (hR : 109 + 1 ≤ hc) (hr : (rest.map fun v => v.category).sum ≤ 8) (kk : ∀ q, K q = some res → V q.2 (pc + 3) L (.int q.1 :: rest)) : V w pc L (.ref (G.2 100) :: rest) := r_callV (As := []) (rest := rest) (rvf := fun q => (some (.int q.1))) (wf := fun q => q.2) C hd h ql_X9_225 qi_X9_seasonOf qs_X9_seasonOf qn_X9 qc_X9_seasonOf ⟨rfl, by decide +kernel, by decide +kernel, (by decide +kernel : (parseMethodDescriptor yX9_seasonOf.desc).map (fun d => d.parameters.length) = some 0)⟩ ⟨hR, by decide⟩ kx_100 rfl (fun q hq l => c_X9_seasonOf hq l) rfl hr kk
def f_X9_season (w : Wd) : Option (Int32 × Wd) := bd (f_X9_seasonOf w) (fun q1 => some (q1.1, q1.2))
set_option maxRecDepth 20000 in
theorem b_X9_season_E {G : Gv} {V : Vt} {res : Int32 × Wd}  (C : CX cX9_season RX9 G SM 1 110 (some FieldType.int) (some (.int res.1)) res.2 V) {w : Wd} (h : f_X9_season w = some res) : V w 0 [(0, .ref (G.2 100))] [] := by
  unfold f_X9_season at h
  refine r_aload_n (pc := 0) C dX9_season_0 rfl 0 rfl ?_
  refine cv_X9_225 (pc := 1) C dX9_season_1  h (by decide) (Nat.le_of_ble_eq_true rfl) (fun q1 h => ?_)
  exact r_iretE (pc := 4) C dX9_season_4 h
theorem c_X9_season {G : Gv} {w : Wd} {res : Int32 × Wd} (h : f_X9_season w = some res) (l : Launch) : MC l yX9_season cX9_season 1 (some FieldType.int) 110 G SM w [.ref (G.2 100)] (some (.int res.1)) res.2 := mc_of (by decide +kernel) rfl (Nat.le_of_ble_eq_true rfl) rfl (fun V C => b_X9_season_E C h) l
def f_X9_then_74 (t0 : Int32) (t1 : Int32) (w : Wd) : Option (Int32 × Wd) := bd (f_X9_of w t1 t0) (fun q1 => bd (f_X9_moveAll 103 101 w) (fun q2 => some (q1, q2)))
set_option maxRecDepth 20000 in
theorem b_X9_then_74 {G : Gv} {V : Vt} {res : Int32 × Wd}  (C : CX cX9_then RX9 G SM 6 109 (some FieldType.int) (some (.int res.1)) res.2 V) {t0 : Int32} {t1 : Int32} {w : Wd} (h : f_X9_then_74 t0 t1 w = some res) : V w 74 [(0, .ref (G.2 100))] [.int t0, .int t1, .ref (G.2 100)] := by
  unfold f_X9_then_74 at h
  refine cv_X9_71 (pc := 74) C dX9_then_74  h (by decide) (Nat.le_of_ble_eq_true rfl) (fun q1 h => ?_)
  refine r_istore (L' := [(5, .int q1), (0, .ref (G.2 100))]) (pc := 77) C dX9_then_77 (by decide) rfl ?_
  refine r_aload_n (pc := 79) C dX9_then_79 rfl 1 rfl ?_
  refine r_aload_n (pc := 80) C dX9_then_80 rfl 1 rfl ?_
  refine gr_X9_16 (pc := 81) 103 C dX9_then_81 kx_100 rfl ?_
  refine r_aload_n (pc := 84) C dX9_then_84 rfl 1 rfl ?_
  refine gr_X9_7 (pc := 85) 101 C dX9_then_85 kx_100 rfl ?_
  refine cv_X9_186 (pc := 88) C dX9_then_88 isAm_103 isAm_101 h (by decide) (Nat.le_of_ble_eq_true rfl) (fun q2 h => ?_)
  refine r_iload (pc := 91) C dX9_then_91 0 rfl ?_
  exact r_iretE (pc := 93) C dX9_then_93 h
def f_X9_then_27 (w : Wd) : Option (Int32 × Wd) := bd (f_X9_errs (-1000000001:Int32) w) (fun q1 => some (q1.1, q1.2))
set_option maxRecDepth 20000 in
theorem b_X9_then_27 {G : Gv} {V : Vt} {res : Int32 × Wd}  (C : CX cX9_then RX9 G SM 6 109 (some FieldType.int) (some (.int res.1)) res.2 V) {w : Wd} (h : f_X9_then_27 w = some res) : V w 27 [(0, .ref (G.2 100))] [] := by
  unfold f_X9_then_27 at h
  refine r_aload_n (pc := 27) C dX9_then_27 rfl 0 rfl ?_
  refine r_ldc (pc := 28) C dX9_then_28 qk_X9_61 ?_
  refine cv_X9_62 (pc := 30) C dX9_then_30  h (by decide) (Nat.le_of_ble_eq_true rfl) (fun q1 h => ?_)
  exact r_iretE (pc := 33) C dX9_then_33 h
def f_X9_then (p1 : Int32) (p2 : Int32) (p3 : Int32) (w : Wd) : Option (Int32 × Wd) := bd (f_X9_in p1 (0:Int32) (60:Int32)) (fun q1 => (if q1 = 0 then f_X9_then_27 w else bd (f_X9_isPlayer w p2) (fun q2 => (if q2 = 0 then f_X9_then_27 w else bd (f_X9_in p3 (0:Int32) (2:Int32)) (fun q3 => (if ¬ q3 = 0 then bd (f_X9_moveAll 101 103 w) (fun q4 => bd (f_X9_seasonGoes p1 q4) (fun q5 => (if (2:Int32) ≤ p3 then (if 0 ≤ q5.1 then f_X9_then_74 (3:Int32) p2 q5.2 else f_X9_then_74 (0:Int32) p2 q5.2) else f_X9_then_74 p3 p2 q5.2))) else f_X9_then_27 w))))))
set_option maxRecDepth 20000 in
theorem b_X9_then_E {G : Gv} {V : Vt} {res : Int32 × Wd}  (C : CX cX9_then RX9 G SM 6 109 (some FieldType.int) (some (.int res.1)) res.2 V) {p1 : Int32} {p2 : Int32} {p3 : Int32} {w : Wd} (h : f_X9_then p1 p2 p3 w = some res) : V w 0 [(0, .ref (G.2 100)), (1, .int p1), (2, .int p2), (3, .int p3)] [] := by
  unfold f_X9_then at h
  refine r_iload_n (pc := 0) C dX9_then_0 rfl 1 rfl ?_
  refine r_iconst (v := (0:Int32)) (pc := 1) C dX9_then_1 (by decide) ?_
  refine r_bipush (v := (60:Int32)) (pc := 2) C dX9_then_2 (by decide) ?_
  refine cv_X9_53 (pc := 4) C dX9_then_4  h (by decide) (Nat.le_of_ble_eq_true rfl) (fun q1 h => ?_)
  refine r_if_eq (pc := 7) C 27 dX9_then_7 (by decide) h (fun h => ?_) (fun h => ?_)
  · exact r_sub C [0] rfl (b_X9_then_27 C h)
  · refine r_aload_n (pc := 10) C dX9_then_10 rfl 0 rfl ?_
    refine r_iload_n (pc := 11) C dX9_then_11 rfl 2 rfl ?_
    refine cv_X9_107 (pc := 12) C dX9_then_12  h (by decide) (Nat.le_of_ble_eq_true rfl) (fun q2 h => ?_)
    refine r_if_eq (pc := 15) C 27 dX9_then_15 (by decide) h (fun h => ?_) (fun h => ?_)
    · exact r_sub C [0] rfl (b_X9_then_27 C h)
    · refine r_iload_n (pc := 18) C dX9_then_18 rfl 3 rfl ?_
      refine r_iconst (v := (0:Int32)) (pc := 19) C dX9_then_19 (by decide) ?_
      refine r_iconst (v := (2:Int32)) (pc := 20) C dX9_then_20 (by decide) ?_
      refine cv_X9_53 (pc := 21) C dX9_then_21  h (by decide) (Nat.le_of_ble_eq_true rfl) (fun q3 h => ?_)
      refine r_if_ne (pc := 24) C 34 dX9_then_24 (by decide) h (fun h => ?_) (fun h => ?_)
      · refine r_aload_n (pc := 34) C dX9_then_34 rfl 0 rfl ?_
        refine r_aload_n (pc := 35) C dX9_then_35 rfl 0 rfl ?_
        refine gr_X9_7 (pc := 36) 101 C dX9_then_36 kx_100 rfl ?_
        refine r_aload_n (pc := 39) C dX9_then_39 rfl 0 rfl ?_
        refine gr_X9_16 (pc := 40) 103 C dX9_then_40 kx_100 rfl ?_
        refine cv_X9_186 (pc := 43) C dX9_then_43 isAm_101 isAm_103 h (by decide) (Nat.le_of_ble_eq_true rfl) (fun q4 h => ?_)
        refine r_aload_n (pc := 46) C dX9_then_46 rfl 0 rfl ?_
        refine r_iload_n (pc := 47) C dX9_then_47 rfl 1 rfl ?_
        refine cv_X9_222 (pc := 48) C dX9_then_48  h (by decide) (Nat.le_of_ble_eq_true rfl) (fun q5 h => ?_)
        refine r_istore (L' := [(4, .int q5.1), (0, .ref (G.2 100)), (1, .int p1), (2, .int p2), (3, .int p3)]) (pc := 51) C dX9_then_51 (by decide) rfl ?_
        refine r_aload_n (pc := 53) C dX9_then_53 rfl 1 rfl ?_
        refine r_iload_n (pc := 54) C dX9_then_54 rfl 3 rfl ?_
        refine r_iload_n (pc := 55) C dX9_then_55 rfl 4 rfl ?_
        refine r_iconst (v := (2:Int32)) (pc := 56) C dX9_then_56 (by decide) ?_
        refine r_icmp_ge (pc := 57) C 64 dX9_then_57 (by decide) h (fun h => ?_) (fun h => ?_)
        · refine r_iload (pc := 64) C dX9_then_64 0 rfl ?_
          refine r_if_ge (pc := 66) C 73 dX9_then_66 (by decide) h (fun h => ?_) (fun h => ?_)
          · refine r_iconst (v := (3:Int32)) (pc := 73) C dX9_then_73 (by decide) ?_
            exact r_sub C [1] rfl (b_X9_then_74 C h)
          · refine r_iconst (v := (0:Int32)) (pc := 69) C dX9_then_69 (by decide) ?_
            refine r_goto (pc := 70) C 74 dX9_then_70 (by decide) ?_
            exact r_sub C [1] rfl (b_X9_then_74 C h)
        · refine r_iload_n (pc := 60) C dX9_then_60 rfl 4 rfl ?_
          refine r_goto (pc := 61) C 74 dX9_then_61 (by decide) ?_
          exact r_sub C [1] rfl (b_X9_then_74 C h)
      · exact r_sub C [0] rfl (b_X9_then_27 C h)
theorem c_X9_then {G : Gv} {p1 : Int32} {p2 : Int32} {p3 : Int32} {w : Wd} {res : Int32 × Wd} (h : f_X9_then p1 p2 p3 w = some res) (l : Launch) : MC l yX9_then cX9_then 6 (some FieldType.int) 109 G SM w [.ref (G.2 100), .int p1, .int p2, .int p3] (some (.int res.1)) res.2 := mc_of (by decide +kernel) rfl (Nat.le_of_ble_eq_true rfl) rfl (fun V C => b_X9_then_E C h) l
def f_X9_learns_71 (x1 : Int32) (x2 : Int32) (x3 : Int32) (w : Wd) : Option (Int32 × Wd) := bd (f_X9_of w x1 (0:Int32)) (fun q1 => bd (f_X9_has q1 x2) (fun q2 => bd (f_X9_moveAll 103 101 w) (fun q3 => (if q2 = 0 then bd (f_X9_errs (-1000000002:Int32) q3) (fun q4 => some (q4.1, q4.2)) else some (x3, q3)))))
set_option maxRecDepth 20000 in
theorem b_X9_learns_71 {G : Gv} {V : Vt} {res : Int32 × Wd}  (C : CX cX9_learns RX9 G SM 5 109 (some FieldType.int) (some (.int res.1)) res.2 V) {x1 : Int32} {x2 : Int32} {x3 : Int32} {w : Wd} (h : f_X9_learns_71 x1 x2 x3 w = some res) : V w 71 [(0, .ref (G.2 100)), (1, .int x1), (2, .int x2), (3, .int x3)] [] := by
  unfold f_X9_learns_71 at h
  refine r_aload_n (pc := 71) C dX9_learns_71 rfl 0 rfl ?_
  refine r_iload_n (pc := 72) C dX9_learns_72 rfl 1 rfl ?_
  refine r_iconst (v := (0:Int32)) (pc := 73) C dX9_learns_73 (by decide) ?_
  refine cv_X9_71 (pc := 74) C dX9_learns_74  h (by decide) (Nat.le_of_ble_eq_true rfl) (fun q1 h => ?_)
  refine r_iload_n (pc := 77) C dX9_learns_77 rfl 2 rfl ?_
  refine cv_X9_74 (pc := 78) C dX9_learns_78  h (by decide) (Nat.le_of_ble_eq_true rfl) (fun q2 h => ?_)
  refine r_istore (L' := [(4, .int q2), (0, .ref (G.2 100)), (1, .int x1), (2, .int x2), (3, .int x3)]) (pc := 81) C dX9_learns_81 (by decide) rfl ?_
  refine r_aload_n (pc := 83) C dX9_learns_83 rfl 1 rfl ?_
  refine r_aload_n (pc := 84) C dX9_learns_84 rfl 1 rfl ?_
  refine gr_X9_16 (pc := 85) 103 C dX9_learns_85 kx_100 rfl ?_
  refine r_aload_n (pc := 88) C dX9_learns_88 rfl 1 rfl ?_
  refine gr_X9_7 (pc := 89) 101 C dX9_learns_89 kx_100 rfl ?_
  refine cv_X9_186 (pc := 92) C dX9_learns_92 isAm_103 isAm_101 h (by decide) (Nat.le_of_ble_eq_true rfl) (fun q3 h => ?_)
  refine r_iload (pc := 95) C dX9_learns_95 0 rfl ?_
  refine r_if_eq (pc := 97) C 104 dX9_learns_97 (by decide) h (fun h => ?_) (fun h => ?_)
  · refine r_aload_n (pc := 104) C dX9_learns_104 rfl 1 rfl ?_
    refine r_ldc (pc := 105) C dX9_learns_105 qk_X9_218 ?_
    refine cv_X9_62 (pc := 107) C dX9_learns_107  h (by decide) (Nat.le_of_ble_eq_true rfl) (fun q4 h => ?_)
    exact r_iretE (pc := 110) C dX9_learns_110 h
  · refine r_iload_n (pc := 100) C dX9_learns_100 rfl 4 rfl ?_
    refine r_goto (pc := 101) C 110 dX9_learns_101 (by decide) ?_
    exact r_iretE (pc := 110) C dX9_learns_110 h
def fb_X9_learns_37 (rec37 : Int32 → Int32 → Int32 → Wd → Option (Int32 × Wd)) (x1 : Int32) (x2 : Int32) (x3 : Int32) (w : Wd) : Option (Int32 × Wd) := (if (60:Int32) ≤ x3 then f_X9_learns_71 x1 x2 x3 w else bd (f_X9_of w x1 (0:Int32)) (fun q1 => bd (f_X9_has q1 x2) (fun q2 => (if ¬ q2 = 0 then f_X9_learns_71 x1 x2 x3 w else bd (f_X9_seasonGoes (1:Int32) w) (fun q3 => (if ¬ q3.1 = (1:Int32) then f_X9_learns_71 x1 x2 x3 q3.2 else rec37 x1 x2 (x3 + (1:Int32)) q3.2))))))
set_option maxRecDepth 20000 in
theorem bb_X9_learns_37 {G : Gv} {V : Vt} {rec37 : Int32 → Int32 → Int32 → Wd → Option (Int32 × Wd)} {res : Int32 × Wd}  (C : CX cX9_learns RX9 G SM 5 109 (some FieldType.int) (some (.int res.1)) res.2 V) (hrec37 : ∀ (x1 : Int32) (x2 : Int32) (x3 : Int32) (w : Wd), rec37 x1 x2 x3 w = some res → V w 37 [(0, .ref (G.2 100)), (1, .int x1), (2, .int x2), (3, .int x3)] []) {x1 : Int32} {x2 : Int32} {x3 : Int32} {w : Wd} (h : fb_X9_learns_37 rec37 x1 x2 x3 w = some res) : V w 37 [(0, .ref (G.2 100)), (1, .int x1), (2, .int x2), (3, .int x3)] [] := by
  unfold fb_X9_learns_37 at h
  refine r_iload_n (pc := 37) C dX9_learns_37 rfl 3 rfl ?_
  refine r_bipush (v := (60:Int32)) (pc := 38) C dX9_learns_38 (by decide) ?_
  refine r_icmp_ge (pc := 40) C 71 dX9_learns_40 (by decide) h (fun h => ?_) (fun h => ?_)
  · exact r_sub C [0, 1, 2, 3] rfl (b_X9_learns_71 C h)
  · refine r_aload_n (pc := 43) C dX9_learns_43 rfl 0 rfl ?_
    refine r_iload_n (pc := 44) C dX9_learns_44 rfl 1 rfl ?_
    refine r_iconst (v := (0:Int32)) (pc := 45) C dX9_learns_45 (by decide) ?_
    refine cv_X9_71 (pc := 46) C dX9_learns_46  h (by decide) (Nat.le_of_ble_eq_true rfl) (fun q1 h => ?_)
    refine r_iload_n (pc := 49) C dX9_learns_49 rfl 2 rfl ?_
    refine cv_X9_74 (pc := 50) C dX9_learns_50  h (by decide) (Nat.le_of_ble_eq_true rfl) (fun q2 h => ?_)
    refine r_if_ne (pc := 53) C 71 dX9_learns_53 (by decide) h (fun h => ?_) (fun h => ?_)
    · exact r_sub C [0, 1, 2, 3] rfl (b_X9_learns_71 C h)
    · refine r_aload_n (pc := 56) C dX9_learns_56 rfl 0 rfl ?_
      refine r_iconst (v := (1:Int32)) (pc := 57) C dX9_learns_57 (by decide) ?_
      refine cv_X9_222 (pc := 58) C dX9_learns_58  h (by decide) (Nat.le_of_ble_eq_true rfl) (fun q3 h => ?_)
      refine r_iconst (v := (1:Int32)) (pc := 61) C dX9_learns_61 (by decide) ?_
      refine r_icmp_ne (pc := 62) C 71 dX9_learns_62 (by decide) h (fun h => ?_) (fun h => ?_)
      · exact r_sub C [0, 1, 2, 3] rfl (b_X9_learns_71 C h)
      · refine r_iinc (v := (x3 + (1:Int32))) (L' := [(3, .int (x3 + (1:Int32))), (0, .ref (G.2 100)), (1, .int x1), (2, .int x2)]) (pc := 65) C dX9_learns_65 3 rfl rfl (by decide) rfl ?_
        refine r_goto (pc := 68) C 37 dX9_learns_68 (by decide) ?_
        exact r_sub C [1, 2, 3, 0] rfl (hrec37 _ _ _ _ h)
def f_X9_learns_37 : Int32 → Int32 → Int32 → Wd → Option (Int32 × Wd) := lp (fun _ _ _ _ => none) (fun rec => fb_X9_learns_37 rec) FU
theorem b_X9_learns_37 {G : Gv} {V : Vt} {res : Int32 × Wd}  (C : CX cX9_learns RX9 G SM 5 109 (some FieldType.int) (some (.int res.1)) res.2 V) : ∀ (x1 : Int32) (x2 : Int32) (x3 : Int32) (w : Wd), (f_X9_learns_37) x1 x2 x3 w = some res → V w 37 [(0, .ref (G.2 100)), (1, .int x1), (2, .int x2), (3, .int x3)] [] :=
  lp_ind (P := fun (g : Int32 → Int32 → Int32 → Wd → Option (Int32 × Wd)) => ∀ (x1 : Int32) (x2 : Int32) (x3 : Int32) (w : Wd), g x1 x2 x3 w = some res → V w 37 [(0, .ref (G.2 100)), (1, .int x1), (2, .int x2), (3, .int x3)] []) (fun _ _ _ _ h => by cases h) (fun g hg _ _ _ _ h => bb_X9_learns_37 C hg h) FU
def f_X9_learns_16 (w : Wd) : Option (Int32 × Wd) := bd (f_X9_errs (-1000000001:Int32) w) (fun q1 => some (q1.1, q1.2))
set_option maxRecDepth 20000 in
theorem b_X9_learns_16 {G : Gv} {V : Vt} {res : Int32 × Wd}  (C : CX cX9_learns RX9 G SM 5 109 (some FieldType.int) (some (.int res.1)) res.2 V) {w : Wd} (h : f_X9_learns_16 w = some res) : V w 16 [(0, .ref (G.2 100))] [] := by
  unfold f_X9_learns_16 at h
  refine r_aload_n (pc := 16) C dX9_learns_16 rfl 0 rfl ?_
  refine r_ldc (pc := 17) C dX9_learns_17 qk_X9_61 ?_
  refine cv_X9_62 (pc := 19) C dX9_learns_19  h (by decide) (Nat.le_of_ble_eq_true rfl) (fun q1 h => ?_)
  exact r_iretE (pc := 22) C dX9_learns_22 h
def f_X9_learns (p1 : Int32) (p2 : Int32) (w : Wd) : Option (Int32 × Wd) := bd (f_X9_isPlayer w p1) (fun q1 => (if q1 = 0 then f_X9_learns_16 w else bd (f_X9_isPart w p2) (fun q2 => (if ¬ q2 = 0 then bd (f_X9_moveAll 101 103 w) (fun q3 => f_X9_learns_37 p1 p2 (0:Int32) q3) else f_X9_learns_16 w))))
set_option maxRecDepth 20000 in
theorem b_X9_learns_E {G : Gv} {V : Vt} {res : Int32 × Wd}  (C : CX cX9_learns RX9 G SM 5 109 (some FieldType.int) (some (.int res.1)) res.2 V) {p1 : Int32} {p2 : Int32} {w : Wd} (h : f_X9_learns p1 p2 w = some res) : V w 0 [(0, .ref (G.2 100)), (1, .int p1), (2, .int p2)] [] := by
  unfold f_X9_learns at h
  refine r_aload_n (pc := 0) C dX9_learns_0 rfl 0 rfl ?_
  refine r_iload_n (pc := 1) C dX9_learns_1 rfl 1 rfl ?_
  refine cv_X9_107 (pc := 2) C dX9_learns_2  h (by decide) (Nat.le_of_ble_eq_true rfl) (fun q1 h => ?_)
  refine r_if_eq (pc := 5) C 16 dX9_learns_5 (by decide) h (fun h => ?_) (fun h => ?_)
  · exact r_sub C [0] rfl (b_X9_learns_16 C h)
  · refine r_aload_n (pc := 8) C dX9_learns_8 rfl 0 rfl ?_
    refine r_iload_n (pc := 9) C dX9_learns_9 rfl 2 rfl ?_
    refine cv_X9_57 (pc := 10) C dX9_learns_10  h (by decide) (Nat.le_of_ble_eq_true rfl) (fun q2 h => ?_)
    refine r_if_ne (pc := 13) C 23 dX9_learns_13 (by decide) h (fun h => ?_) (fun h => ?_)
    · refine r_aload_n (pc := 23) C dX9_learns_23 rfl 0 rfl ?_
      refine r_aload_n (pc := 24) C dX9_learns_24 rfl 0 rfl ?_
      refine gr_X9_7 (pc := 25) 101 C dX9_learns_25 kx_100 rfl ?_
      refine r_aload_n (pc := 28) C dX9_learns_28 rfl 0 rfl ?_
      refine gr_X9_16 (pc := 29) 103 C dX9_learns_29 kx_100 rfl ?_
      refine cv_X9_186 (pc := 32) C dX9_learns_32 isAm_101 isAm_103 h (by decide) (Nat.le_of_ble_eq_true rfl) (fun q3 h => ?_)
      refine r_iconst (v := (0:Int32)) (pc := 35) C dX9_learns_35 (by decide) ?_
      refine r_istore_n (L' := [(3, .int (0:Int32)), (0, .ref (G.2 100)), (1, .int p1), (2, .int p2)]) (pc := 36) C dX9_learns_36 rfl (by decide) rfl ?_
      exact r_sub C [1, 2, 3, 0] rfl (b_X9_learns_37 C _ _ _ _ h)
    · exact r_sub C [0] rfl (b_X9_learns_16 C h)
theorem c_X9_learns {G : Gv} {p1 : Int32} {p2 : Int32} {w : Wd} {res : Int32 × Wd} (h : f_X9_learns p1 p2 w = some res) (l : Launch) : MC l yX9_learns cX9_learns 5 (some FieldType.int) 109 G SM w [.ref (G.2 100), .int p1, .int p2] (some (.int res.1)) res.2 := mc_of (by decide +kernel) rfl (Nat.le_of_ble_eq_true rfl) rfl (fun V C => b_X9_learns_E C h) l
def f_X9_blocked_38 (w : Wd) (rec4 : Int32 → Int32 → Option (Int32)) (x2 : Int32) (t0 : Int32) (t1 : Int32) : Option (Int32) := lv (t1 ||| t0) (fun v1 => rec4 v1 (x2 + (1:Int32)))
set_option maxRecDepth 20000 in
theorem b_X9_blocked_38 {G : Gv} {V : Vt} {w : Wd} {rec4 : Int32 → Int32 → Option (Int32)} {res : Int32}  (C : CX cX9_blocked RX9 G SM 3 5 (some FieldType.int) (some (.int res)) w V) (hrec4 : ∀ (x1 : Int32) (x2 : Int32), rec4 x1 x2 = some res → V w 4 [(0, .ref (G.2 100)), (1, .int x1), (2, .int x2)] []) {x2 : Int32} {t0 : Int32} {t1 : Int32} (h : f_X9_blocked_38 w rec4 x2 t0 t1 = some res) : V w 38 [(0, .ref (G.2 100)), (2, .int x2)] [.int t0, .int t1] := by
  unfold f_X9_blocked_38 at h
  refine r_ior (pc := 38) C dX9_blocked_38 ?_
  refine r_lv h (fun v1 h => ?_)
  refine r_istore_n (L' := [(1, .int v1), (0, .ref (G.2 100)), (2, .int x2)]) (pc := 39) C dX9_blocked_39 rfl (by decide) rfl ?_
  refine r_iinc (v := (x2 + (1:Int32))) (L' := [(2, .int (x2 + (1:Int32))), (1, .int v1), (0, .ref (G.2 100))]) (pc := 40) C dX9_blocked_40 2 rfl rfl (by decide) rfl ?_
  refine r_goto (pc := 43) C 4 dX9_blocked_43 (by decide) ?_
  exact r_sub C [2, 1, 0] rfl (hrec4 _ _ h)
def f_X9_blocked_37 (w : Wd) (rec4 : Int32 → Int32 → Option (Int32)) (x2 : Int32) (t0 : Int32) : Option (Int32) := f_X9_blocked_38 w rec4 x2 (0:Int32) t0
set_option maxRecDepth 20000 in
theorem b_X9_blocked_37 {G : Gv} {V : Vt} {w : Wd} {rec4 : Int32 → Int32 → Option (Int32)} {res : Int32}  (C : CX cX9_blocked RX9 G SM 3 5 (some FieldType.int) (some (.int res)) w V) (hrec4 : ∀ (x1 : Int32) (x2 : Int32), rec4 x1 x2 = some res → V w 4 [(0, .ref (G.2 100)), (1, .int x1), (2, .int x2)] []) {x2 : Int32} {t0 : Int32} (h : f_X9_blocked_37 w rec4 x2 t0 = some res) : V w 37 [(0, .ref (G.2 100)), (2, .int x2)] [.int t0] := by
  unfold f_X9_blocked_37 at h
  refine r_iconst (v := (0:Int32)) (pc := 37) C dX9_blocked_37 (by decide) ?_
  exact r_sub C [0, 1] rfl (b_X9_blocked_38 C hrec4 h)
def fb_X9_blocked_4 (w : Wd) (rec4 : Int32 → Int32 → Option (Int32)) (x1 : Int32) (x2 : Int32) : Option (Int32) := ald w 101 229 (3:Int32) (fun v1 => (if v1 ≤ x2 then some x1 else bd (f_X9_isEmpty w x2) (fun q2 => (if ¬ q2 = 0 then f_X9_blocked_37 w rec4 x2 x1 else bd (f_X9_maySet w x2) (fun q3 => (if ¬ q3 = 0 then f_X9_blocked_37 w rec4 x2 x1 else f_X9_blocked_38 w rec4 x2 ((1:Int32) <<< (x2 &&& 31)) x1))))))
set_option maxRecDepth 20000 in
theorem bb_X9_blocked_4 {G : Gv} {V : Vt} {w : Wd} {rec4 : Int32 → Int32 → Option (Int32)} {res : Int32}  (C : CX cX9_blocked RX9 G SM 3 5 (some FieldType.int) (some (.int res)) w V) (hrec4 : ∀ (x1 : Int32) (x2 : Int32), rec4 x1 x2 = some res → V w 4 [(0, .ref (G.2 100)), (1, .int x1), (2, .int x2)] []) {x1 : Int32} {x2 : Int32} (h : fb_X9_blocked_4 w rec4 x1 x2 = some res) : V w 4 [(0, .ref (G.2 100)), (1, .int x1), (2, .int x2)] [] := by
  unfold fb_X9_blocked_4 at h
  refine r_iload_n (pc := 4) C dX9_blocked_4 rfl 2 rfl ?_
  refine r_aload_n (pc := 5) C dX9_blocked_5 rfl 0 rfl ?_
  refine gr_X9_7 (pc := 6) 101 C dX9_blocked_6 kx_100 rfl ?_
  refine r_iconst (v := (3:Int32)) (pc := 9) C dX9_blocked_9 (by decide) ?_
  refine r_ald (pc := 10) C dX9_blocked_10 h kx_101 (fun v1 h => ?_)
  refine r_icmp_ge (pc := 11) C 46 dX9_blocked_11 (by decide) h (fun h => ?_) (fun h => ?_)
  · refine r_iload_n (pc := 46) C dX9_blocked_46 rfl 1 rfl ?_
    exact r_iretP (pc := 47) C dX9_blocked_47 h
  · refine r_iload_n (pc := 14) C dX9_blocked_14 rfl 1 rfl ?_
    refine r_aload_n (pc := 15) C dX9_blocked_15 rfl 0 rfl ?_
    refine r_iload_n (pc := 16) C dX9_blocked_16 rfl 2 rfl ?_
    refine cv_X9_78 (pc := 17) C dX9_blocked_17  h (by decide) (Nat.le_of_ble_eq_true rfl) (fun q2 h => ?_)
    refine r_if_ne (pc := 20) C 37 dX9_blocked_20 (by decide) h (fun h => ?_) (fun h => ?_)
    · exact r_sub C [0, 2] rfl (b_X9_blocked_37 C hrec4 h)
    · refine r_aload_n (pc := 23) C dX9_blocked_23 rfl 0 rfl ?_
      refine r_iload_n (pc := 24) C dX9_blocked_24 rfl 2 rfl ?_
      refine cv_X9_84 (pc := 25) C dX9_blocked_25  h (by decide) (Nat.le_of_ble_eq_true rfl) (fun q3 h => ?_)
      refine r_if_ne (pc := 28) C 37 dX9_blocked_28 (by decide) h (fun h => ?_) (fun h => ?_)
      · exact r_sub C [0, 2] rfl (b_X9_blocked_37 C hrec4 h)
      · refine r_iconst (v := (1:Int32)) (pc := 31) C dX9_blocked_31 (by decide) ?_
        refine r_iload_n (pc := 32) C dX9_blocked_32 rfl 2 rfl ?_
        refine r_ishl (pc := 33) C dX9_blocked_33 ?_
        refine r_goto (pc := 34) C 38 dX9_blocked_34 (by decide) ?_
        exact r_sub C [0, 2] rfl (b_X9_blocked_38 C hrec4 h)
def f_X9_blocked_4 (w : Wd) : Int32 → Int32 → Option (Int32) := lp (fun _ _ => none) (fun rec => fb_X9_blocked_4 w rec) FU
theorem b_X9_blocked_4 {G : Gv} {V : Vt} {w : Wd} {res : Int32}  (C : CX cX9_blocked RX9 G SM 3 5 (some FieldType.int) (some (.int res)) w V) : ∀ (x1 : Int32) (x2 : Int32), (f_X9_blocked_4 w) x1 x2 = some res → V w 4 [(0, .ref (G.2 100)), (1, .int x1), (2, .int x2)] [] :=
  lp_ind (P := fun (g : Int32 → Int32 → Option (Int32)) => ∀ (x1 : Int32) (x2 : Int32), g x1 x2 = some res → V w 4 [(0, .ref (G.2 100)), (1, .int x1), (2, .int x2)] []) (fun _ _ h => by cases h) (fun g hg _ _ h => bb_X9_blocked_4 C hg h) FU
def f_X9_blocked (w : Wd) : Option (Int32) := f_X9_blocked_4 w (0:Int32) (0:Int32)
set_option maxRecDepth 20000 in
theorem b_X9_blocked_E {G : Gv} {V : Vt} {w : Wd} {res : Int32}  (C : CX cX9_blocked RX9 G SM 3 5 (some FieldType.int) (some (.int res)) w V) (h : f_X9_blocked w = some res) : V w 0 [(0, .ref (G.2 100))] [] := by
  unfold f_X9_blocked at h
  refine r_iconst (v := (0:Int32)) (pc := 0) C dX9_blocked_0 (by decide) ?_
  refine r_istore_n (L' := [(1, .int (0:Int32)), (0, .ref (G.2 100))]) (pc := 1) C dX9_blocked_1 rfl (by decide) rfl ?_
  refine r_iconst (v := (0:Int32)) (pc := 2) C dX9_blocked_2 (by decide) ?_
  refine r_istore_n (L' := [(2, .int (0:Int32)), (1, .int (0:Int32)), (0, .ref (G.2 100))]) (pc := 3) C dX9_blocked_3 rfl (by decide) rfl ?_
  exact r_sub C [2, 1, 0] rfl (b_X9_blocked_4 C _ _ h)
theorem c_X9_blocked {G : Gv} {w : Wd} {res : Int32} (h : f_X9_blocked w = some res) (l : Launch) : MC l yX9_blocked cX9_blocked 3 (some FieldType.int) 5 G SM w [.ref (G.2 100)] (some (.int res)) w := mc_of (by decide +kernel) rfl (Nat.le_of_ble_eq_true rfl) rfl (fun V C => b_X9_blocked_E C h) l
def f_X9_idle_65 (rec17 : Int32 → Int32 → Wd → Option (Int32 × Wd)) (x1 : Int32) (w : Wd) : Option (Int32 × Wd) := bd (f_X9_isNext w) (fun q1 => rec17 x1 q1.1 q1.2)
set_option maxRecDepth 20000 in
theorem b_X9_idle_65 {G : Gv} {V : Vt} {rec17 : Int32 → Int32 → Wd → Option (Int32 × Wd)} {res : Int32 × Wd}  (C : CX cX9_idle RX9 G SM 4 7 (some FieldType.int) (some (.int res.1)) res.2 V) (hrec17 : ∀ (x1 : Int32) (x2 : Int32) (w : Wd), rec17 x1 x2 w = some res → V w 17 [(0, .ref (G.2 100)), (1, .int x1), (2, .int x2)] []) {x1 : Int32} {w : Wd} (h : f_X9_idle_65 rec17 x1 w = some res) : V w 65 [(0, .ref (G.2 100)), (1, .int x1)] [] := by
  unfold f_X9_idle_65 at h
  refine r_aload_n (pc := 65) C dX9_idle_65 rfl 0 rfl ?_
  refine cv_X9_219 (pc := 66) C dX9_idle_66  h (by decide) (Nat.le_of_ble_eq_true rfl) (fun q1 h => ?_)
  refine r_istore_n (L' := [(2, .int q1.1), (0, .ref (G.2 100)), (1, .int x1)]) (pc := 69) C dX9_idle_69 rfl (by decide) rfl ?_
  refine r_goto (pc := 70) C 17 dX9_idle_70 (by decide) ?_
  exact r_sub C [1, 2, 0] rfl (hrec17 _ _ _ h)
def f_X9_idle_57 (rec17 : Int32 → Int32 → Wd → Option (Int32 × Wd)) (rec23 : Int32 → Int32 → Wd → Option (Int32 × Wd)) (x3 : Int32) (t0 : Int32) (t1 : Int32) (w : Wd) : Option (Int32 × Wd) := lv (t1 &&& t0) (fun v1 => rec23 v1 (x3 + (1:Int32)) w)
set_option maxRecDepth 20000 in
theorem b_X9_idle_57 {G : Gv} {V : Vt} {rec17 : Int32 → Int32 → Wd → Option (Int32 × Wd)} {rec23 : Int32 → Int32 → Wd → Option (Int32 × Wd)} {res : Int32 × Wd}  (C : CX cX9_idle RX9 G SM 4 7 (some FieldType.int) (some (.int res.1)) res.2 V) (hrec17 : ∀ (x1 : Int32) (x2 : Int32) (w : Wd), rec17 x1 x2 w = some res → V w 17 [(0, .ref (G.2 100)), (1, .int x1), (2, .int x2)] []) (hrec23 : ∀ (x1 : Int32) (x3 : Int32) (w : Wd), rec23 x1 x3 w = some res → V w 23 [(0, .ref (G.2 100)), (1, .int x1), (3, .int x3)] []) {x3 : Int32} {t0 : Int32} {t1 : Int32} {w : Wd} (h : f_X9_idle_57 rec17 rec23 x3 t0 t1 w = some res) : V w 57 [(0, .ref (G.2 100)), (3, .int x3)] [.int t0, .int t1] := by
  unfold f_X9_idle_57 at h
  refine r_iand (pc := 57) C dX9_idle_57 ?_
  refine r_lv h (fun v1 h => ?_)
  refine r_istore_n (L' := [(1, .int v1), (0, .ref (G.2 100)), (3, .int x3)]) (pc := 58) C dX9_idle_58 rfl (by decide) rfl ?_
  refine r_iinc (v := (x3 + (1:Int32))) (L' := [(3, .int (x3 + (1:Int32))), (1, .int v1), (0, .ref (G.2 100))]) (pc := 59) C dX9_idle_59 2 rfl rfl (by decide) rfl ?_
  refine r_goto (pc := 62) C 23 dX9_idle_62 (by decide) ?_
  exact r_sub C [2, 1, 0] rfl (hrec23 _ _ _ h)
def fb_X9_idle_23 (rec17 : Int32 → Int32 → Wd → Option (Int32 × Wd)) (rec23 : Int32 → Int32 → Wd → Option (Int32 × Wd)) (x1 : Int32) (x3 : Int32) (w : Wd) : Option (Int32 × Wd) := ald w 101 229 (3:Int32) (fun v1 => (if v1 ≤ x3 then f_X9_idle_65 rec17 x1 w else ald w 106 5 x3 (fun v2 => (if v2 < 0 then f_X9_idle_57 rec17 rec23 x3 (-1:Int32) x1 w else ald w 106 5 x3 (fun v3 => f_X9_idle_57 rec17 rec23 x3 (((1:Int32) <<< (v3 &&& 31)) ^^^ (-1:Int32)) x1 w)))))
set_option maxRecDepth 20000 in
theorem bb_X9_idle_23 {G : Gv} {V : Vt} {rec17 : Int32 → Int32 → Wd → Option (Int32 × Wd)} {rec23 : Int32 → Int32 → Wd → Option (Int32 × Wd)} {res : Int32 × Wd}  (C : CX cX9_idle RX9 G SM 4 7 (some FieldType.int) (some (.int res.1)) res.2 V) (hrec17 : ∀ (x1 : Int32) (x2 : Int32) (w : Wd), rec17 x1 x2 w = some res → V w 17 [(0, .ref (G.2 100)), (1, .int x1), (2, .int x2)] []) (hrec23 : ∀ (x1 : Int32) (x3 : Int32) (w : Wd), rec23 x1 x3 w = some res → V w 23 [(0, .ref (G.2 100)), (1, .int x1), (3, .int x3)] []) {x1 : Int32} {x3 : Int32} {w : Wd} (h : fb_X9_idle_23 rec17 rec23 x1 x3 w = some res) : V w 23 [(0, .ref (G.2 100)), (1, .int x1), (3, .int x3)] [] := by
  unfold fb_X9_idle_23 at h
  refine r_iload_n (pc := 23) C dX9_idle_23 rfl 2 rfl ?_
  refine r_aload_n (pc := 24) C dX9_idle_24 rfl 0 rfl ?_
  refine gr_X9_7 (pc := 25) 101 C dX9_idle_25 kx_100 rfl ?_
  refine r_iconst (v := (3:Int32)) (pc := 28) C dX9_idle_28 (by decide) ?_
  refine r_ald (pc := 29) C dX9_idle_29 h kx_101 (fun v1 h => ?_)
  refine r_icmp_ge (pc := 30) C 65 dX9_idle_30 (by decide) h (fun h => ?_) (fun h => ?_)
  · exact r_sub C [0, 1] rfl (b_X9_idle_65 C hrec17 h)
  · refine r_iload_n (pc := 33) C dX9_idle_33 rfl 1 rfl ?_
    refine r_aload_n (pc := 34) C dX9_idle_34 rfl 0 rfl ?_
    refine gr_X9_25 (pc := 35) 106 C dX9_idle_35 kx_100 rfl ?_
    refine r_iload_n (pc := 38) C dX9_idle_38 rfl 2 rfl ?_
    refine r_ald (pc := 39) C dX9_idle_39 h kx_106 (fun v2 h => ?_)
    refine r_if_lt (pc := 40) C 56 dX9_idle_40 (by decide) h (fun h => ?_) (fun h => ?_)
    · refine r_iconst (v := (-1:Int32)) (pc := 56) C dX9_idle_56 (by decide) ?_
      exact r_sub C [0, 2] rfl (b_X9_idle_57 C hrec17 hrec23 h)
    · refine r_iconst (v := (1:Int32)) (pc := 43) C dX9_idle_43 (by decide) ?_
      refine r_aload_n (pc := 44) C dX9_idle_44 rfl 0 rfl ?_
      refine gr_X9_25 (pc := 45) 106 C dX9_idle_45 kx_100 rfl ?_
      refine r_iload_n (pc := 48) C dX9_idle_48 rfl 2 rfl ?_
      refine r_ald (pc := 49) C dX9_idle_49 h kx_106 (fun v3 h => ?_)
      refine r_ishl (pc := 50) C dX9_idle_50 ?_
      refine r_iconst (v := (-1:Int32)) (pc := 51) C dX9_idle_51 (by decide) ?_
      refine r_ixor (pc := 52) C dX9_idle_52 ?_
      refine r_goto (pc := 53) C 57 dX9_idle_53 (by decide) ?_
      exact r_sub C [0, 2] rfl (b_X9_idle_57 C hrec17 hrec23 h)
def f_X9_idle_23 (rec17 : Int32 → Int32 → Wd → Option (Int32 × Wd)) : Int32 → Int32 → Wd → Option (Int32 × Wd) := lp (fun _ _ _ => none) (fun rec => fb_X9_idle_23 rec17 rec) FU
theorem b_X9_idle_23 {G : Gv} {V : Vt} {rec17 : Int32 → Int32 → Wd → Option (Int32 × Wd)} {res : Int32 × Wd}  (C : CX cX9_idle RX9 G SM 4 7 (some FieldType.int) (some (.int res.1)) res.2 V) (hrec17 : ∀ (x1 : Int32) (x2 : Int32) (w : Wd), rec17 x1 x2 w = some res → V w 17 [(0, .ref (G.2 100)), (1, .int x1), (2, .int x2)] []) : ∀ (x1 : Int32) (x3 : Int32) (w : Wd), (f_X9_idle_23 rec17) x1 x3 w = some res → V w 23 [(0, .ref (G.2 100)), (1, .int x1), (3, .int x3)] [] :=
  lp_ind (P := fun (g : Int32 → Int32 → Wd → Option (Int32 × Wd)) => ∀ (x1 : Int32) (x3 : Int32) (w : Wd), g x1 x3 w = some res → V w 23 [(0, .ref (G.2 100)), (1, .int x1), (3, .int x3)] []) (fun _ _ _ h => by cases h) (fun g hg _ _ _ h => bb_X9_idle_23 C hrec17 hg h) FU
def fb_X9_idle_17 (rec17 : Int32 → Int32 → Wd → Option (Int32 × Wd)) (x1 : Int32) (x2 : Int32) (w : Wd) : Option (Int32 × Wd) := (if x2 = 0 then some (x1, w) else f_X9_idle_23 rec17 x1 (0:Int32) w)
set_option maxRecDepth 20000 in
theorem bb_X9_idle_17 {G : Gv} {V : Vt} {rec17 : Int32 → Int32 → Wd → Option (Int32 × Wd)} {res : Int32 × Wd}  (C : CX cX9_idle RX9 G SM 4 7 (some FieldType.int) (some (.int res.1)) res.2 V) (hrec17 : ∀ (x1 : Int32) (x2 : Int32) (w : Wd), rec17 x1 x2 w = some res → V w 17 [(0, .ref (G.2 100)), (1, .int x1), (2, .int x2)] []) {x1 : Int32} {x2 : Int32} {w : Wd} (h : fb_X9_idle_17 rec17 x1 x2 w = some res) : V w 17 [(0, .ref (G.2 100)), (1, .int x1), (2, .int x2)] [] := by
  unfold fb_X9_idle_17 at h
  refine r_iload_n (pc := 17) C dX9_idle_17 rfl 2 rfl ?_
  refine r_if_eq (pc := 18) C 73 dX9_idle_18 (by decide) h (fun h => ?_) (fun h => ?_)
  · refine r_iload_n (pc := 73) C dX9_idle_73 rfl 1 rfl ?_
    exact r_iretE (pc := 74) C dX9_idle_74 h
  · refine r_iconst (v := (0:Int32)) (pc := 21) C dX9_idle_21 (by decide) ?_
    refine r_istore_n (L' := [(3, .int (0:Int32)), (0, .ref (G.2 100)), (1, .int x1), (2, .int x2)]) (pc := 22) C dX9_idle_22 rfl (by decide) rfl ?_
    exact r_sub C [1, 2, 0] rfl (b_X9_idle_23 C hrec17 _ _ _ h)
def f_X9_idle_17 : Int32 → Int32 → Wd → Option (Int32 × Wd) := lp (fun _ _ _ => none) (fun rec => fb_X9_idle_17 rec) FU
theorem b_X9_idle_17 {G : Gv} {V : Vt} {res : Int32 × Wd}  (C : CX cX9_idle RX9 G SM 4 7 (some FieldType.int) (some (.int res.1)) res.2 V) : ∀ (x1 : Int32) (x2 : Int32) (w : Wd), (f_X9_idle_17) x1 x2 w = some res → V w 17 [(0, .ref (G.2 100)), (1, .int x1), (2, .int x2)] [] :=
  lp_ind (P := fun (g : Int32 → Int32 → Wd → Option (Int32 × Wd)) => ∀ (x1 : Int32) (x2 : Int32) (w : Wd), g x1 x2 w = some res → V w 17 [(0, .ref (G.2 100)), (1, .int x1), (2, .int x2)] []) (fun _ _ _ h => by cases h) (fun g hg _ _ _ h => bb_X9_idle_17 C hg h) FU
def f_X9_idle (w : Wd) : Option (Int32 × Wd) := ald w 101 229 (8:Int32) (fun v1 => lv (((1:Int32) <<< (v1 &&& 31)) - (1:Int32)) (fun v2 => bd (f_X9_isFirst w) (fun q3 => f_X9_idle_17 v2 q3.1 q3.2)))
set_option maxRecDepth 20000 in
theorem b_X9_idle_E {G : Gv} {V : Vt} {res : Int32 × Wd}  (C : CX cX9_idle RX9 G SM 4 7 (some FieldType.int) (some (.int res.1)) res.2 V) {w : Wd} (h : f_X9_idle w = some res) : V w 0 [(0, .ref (G.2 100))] [] := by
  unfold f_X9_idle at h
  refine r_iconst (v := (1:Int32)) (pc := 0) C dX9_idle_0 (by decide) ?_
  refine r_aload_n (pc := 1) C dX9_idle_1 rfl 0 rfl ?_
  refine gr_X9_7 (pc := 2) 101 C dX9_idle_2 kx_100 rfl ?_
  refine r_bipush (v := (8:Int32)) (pc := 5) C dX9_idle_5 (by decide) ?_
  refine r_ald (pc := 7) C dX9_idle_7 h kx_101 (fun v1 h => ?_)
  refine r_ishl (pc := 8) C dX9_idle_8 ?_
  refine r_iconst (v := (1:Int32)) (pc := 9) C dX9_idle_9 (by decide) ?_
  refine r_isub (pc := 10) C dX9_idle_10 ?_
  refine r_lv h (fun v2 h => ?_)
  refine r_istore_n (L' := [(1, .int v2), (0, .ref (G.2 100))]) (pc := 11) C dX9_idle_11 rfl (by decide) rfl ?_
  refine r_aload_n (pc := 12) C dX9_idle_12 rfl 1 rfl ?_
  refine cv_X9_203 (pc := 13) C dX9_idle_13  h (by decide) (Nat.le_of_ble_eq_true rfl) (fun q3 h => ?_)
  refine r_istore_n (L' := [(2, .int q3.1), (1, .int v2), (0, .ref (G.2 100))]) (pc := 16) C dX9_idle_16 rfl (by decide) rfl ?_
  exact r_sub C [2, 1, 0] rfl (b_X9_idle_17 C _ _ _ h)
theorem c_X9_idle {G : Gv} {w : Wd} {res : Int32 × Wd} (h : f_X9_idle w = some res) (l : Launch) : MC l yX9_idle cX9_idle 4 (some FieldType.int) 7 G SM w [.ref (G.2 100)] (some (.int res.1)) res.2 := mc_of (by decide +kernel) rfl (Nat.le_of_ble_eq_true rfl) rfl (fun V C => b_X9_idle_E C h) l
def f_X9_tells_60 (rec30 : Int32 → Int32 → Int32 → Wd → Option (Int32 × Wd)) (x1 : Int32) (x3 : Int32) (t0 : Int32) (t1 : Int32) (w : Wd) : Option (Int32 × Wd) := lv (t1 ||| t0) (fun v1 => rec30 x1 v1 (x3 + (1:Int32)) w)
set_option maxRecDepth 20000 in
theorem b_X9_tells_60 {G : Gv} {V : Vt} {rec30 : Int32 → Int32 → Int32 → Wd → Option (Int32 × Wd)} {res : Int32 × Wd}  (C : CX cX9_tells RX9 G SM 4 2 (some FieldType.int) (some (.int res.1)) res.2 V) (hrec30 : ∀ (x1 : Int32) (x2 : Int32) (x3 : Int32) (w : Wd), rec30 x1 x2 x3 w = some res → V w 30 [(0, .ref (G.2 100)), (1, .int x1), (2, .int x2), (3, .int x3)] []) {x1 : Int32} {x3 : Int32} {t0 : Int32} {t1 : Int32} {w : Wd} (h : f_X9_tells_60 rec30 x1 x3 t0 t1 w = some res) : V w 60 [(0, .ref (G.2 100)), (1, .int x1), (3, .int x3)] [.int t0, .int t1] := by
  unfold f_X9_tells_60 at h
  refine r_ior (pc := 60) C dX9_tells_60 ?_
  refine r_lv h (fun v1 h => ?_)
  refine r_istore_n (L' := [(2, .int v1), (0, .ref (G.2 100)), (1, .int x1), (3, .int x3)]) (pc := 61) C dX9_tells_61 rfl (by decide) rfl ?_
  refine r_iinc (v := (x3 + (1:Int32))) (L' := [(3, .int (x3 + (1:Int32))), (2, .int v1), (0, .ref (G.2 100)), (1, .int x1)]) (pc := 62) C dX9_tells_62 3 rfl rfl (by decide) rfl ?_
  refine r_goto (pc := 65) C 30 dX9_tells_65 (by decide) ?_
  exact r_sub C [2, 3, 1, 0] rfl (hrec30 _ _ _ _ h)
def fb_X9_tells_30 (rec30 : Int32 → Int32 → Int32 → Wd → Option (Int32 × Wd)) (x1 : Int32) (x2 : Int32) (x3 : Int32) (w : Wd) : Option (Int32 × Wd) := ald w 101 229 (8:Int32) (fun v1 => (if v1 ≤ x3 then some (x2, w) else bd (f_X9_has x1 x3) (fun q2 => (if q2 = 0 then f_X9_tells_60 rec30 x1 x3 (0:Int32) x2 w else bd (f_X9_of w x3 (0:Int32)) (fun q3 => f_X9_tells_60 rec30 x1 x3 q3 x2 w)))))
set_option maxRecDepth 20000 in
theorem bb_X9_tells_30 {G : Gv} {V : Vt} {rec30 : Int32 → Int32 → Int32 → Wd → Option (Int32 × Wd)} {res : Int32 × Wd}  (C : CX cX9_tells RX9 G SM 4 2 (some FieldType.int) (some (.int res.1)) res.2 V) (hrec30 : ∀ (x1 : Int32) (x2 : Int32) (x3 : Int32) (w : Wd), rec30 x1 x2 x3 w = some res → V w 30 [(0, .ref (G.2 100)), (1, .int x1), (2, .int x2), (3, .int x3)] []) {x1 : Int32} {x2 : Int32} {x3 : Int32} {w : Wd} (h : fb_X9_tells_30 rec30 x1 x2 x3 w = some res) : V w 30 [(0, .ref (G.2 100)), (1, .int x1), (2, .int x2), (3, .int x3)] [] := by
  unfold fb_X9_tells_30 at h
  refine r_iload_n (pc := 30) C dX9_tells_30 rfl 3 rfl ?_
  refine r_aload_n (pc := 31) C dX9_tells_31 rfl 0 rfl ?_
  refine gr_X9_7 (pc := 32) 101 C dX9_tells_32 kx_100 rfl ?_
  refine r_bipush (v := (8:Int32)) (pc := 35) C dX9_tells_35 (by decide) ?_
  refine r_ald (pc := 37) C dX9_tells_37 h kx_101 (fun v1 h => ?_)
  refine r_icmp_ge (pc := 38) C 68 dX9_tells_38 (by decide) h (fun h => ?_) (fun h => ?_)
  · refine r_iload_n (pc := 68) C dX9_tells_68 rfl 2 rfl ?_
    exact r_iretE (pc := 69) C dX9_tells_69 h
  · refine r_iload_n (pc := 41) C dX9_tells_41 rfl 2 rfl ?_
    refine r_iload_n (pc := 42) C dX9_tells_42 rfl 1 rfl ?_
    refine r_iload_n (pc := 43) C dX9_tells_43 rfl 3 rfl ?_
    refine cv_X9_74 (pc := 44) C dX9_tells_44  h (by decide) (Nat.le_of_ble_eq_true rfl) (fun q2 h => ?_)
    refine r_if_eq (pc := 47) C 59 dX9_tells_47 (by decide) h (fun h => ?_) (fun h => ?_)
    · refine r_iconst (v := (0:Int32)) (pc := 59) C dX9_tells_59 (by decide) ?_
      exact r_sub C [0, 1, 3] rfl (b_X9_tells_60 C hrec30 h)
    · refine r_aload_n (pc := 50) C dX9_tells_50 rfl 0 rfl ?_
      refine r_iload_n (pc := 51) C dX9_tells_51 rfl 3 rfl ?_
      refine r_iconst (v := (0:Int32)) (pc := 52) C dX9_tells_52 (by decide) ?_
      refine cv_X9_71 (pc := 53) C dX9_tells_53  h (by decide) (Nat.le_of_ble_eq_true rfl) (fun q3 h => ?_)
      refine r_goto (pc := 56) C 60 dX9_tells_56 (by decide) ?_
      exact r_sub C [0, 1, 3] rfl (b_X9_tells_60 C hrec30 h)
def f_X9_tells_30 : Int32 → Int32 → Int32 → Wd → Option (Int32 × Wd) := lp (fun _ _ _ _ => none) (fun rec => fb_X9_tells_30 rec) FU
theorem b_X9_tells_30 {G : Gv} {V : Vt} {res : Int32 × Wd}  (C : CX cX9_tells RX9 G SM 4 2 (some FieldType.int) (some (.int res.1)) res.2 V) : ∀ (x1 : Int32) (x2 : Int32) (x3 : Int32) (w : Wd), (f_X9_tells_30) x1 x2 x3 w = some res → V w 30 [(0, .ref (G.2 100)), (1, .int x1), (2, .int x2), (3, .int x3)] [] :=
  lp_ind (P := fun (g : Int32 → Int32 → Int32 → Wd → Option (Int32 × Wd)) => ∀ (x1 : Int32) (x2 : Int32) (x3 : Int32) (w : Wd), g x1 x2 x3 w = some res → V w 30 [(0, .ref (G.2 100)), (1, .int x1), (2, .int x2), (3, .int x3)] []) (fun _ _ _ _ h => by cases h) (fun g hg _ _ _ _ h => bb_X9_tells_30 C hg h) FU
def f_X9_tells (p1 : Int32) (w : Wd) : Option (Int32 × Wd) := ald w 101 229 (8:Int32) (fun v1 => bd (f_X9_in p1 (0:Int32) (((1:Int32) <<< (v1 &&& 31)) - (1:Int32))) (fun q2 => (if ¬ q2 = 0 then f_X9_tells_30 p1 (0:Int32) (0:Int32) w else bd (f_X9_errs (-1000000001:Int32) w) (fun q3 => some (q3.1, q3.2)))))
set_option maxRecDepth 20000 in
theorem b_X9_tells_E {G : Gv} {V : Vt} {res : Int32 × Wd}  (C : CX cX9_tells RX9 G SM 4 2 (some FieldType.int) (some (.int res.1)) res.2 V) {p1 : Int32} {w : Wd} (h : f_X9_tells p1 w = some res) : V w 0 [(0, .ref (G.2 100)), (1, .int p1)] [] := by
  unfold f_X9_tells at h
  refine r_iload_n (pc := 0) C dX9_tells_0 rfl 1 rfl ?_
  refine r_iconst (v := (0:Int32)) (pc := 1) C dX9_tells_1 (by decide) ?_
  refine r_iconst (v := (1:Int32)) (pc := 2) C dX9_tells_2 (by decide) ?_
  refine r_aload_n (pc := 3) C dX9_tells_3 rfl 0 rfl ?_
  refine gr_X9_7 (pc := 4) 101 C dX9_tells_4 kx_100 rfl ?_
  refine r_bipush (v := (8:Int32)) (pc := 7) C dX9_tells_7 (by decide) ?_
  refine r_ald (pc := 9) C dX9_tells_9 h kx_101 (fun v1 h => ?_)
  refine r_ishl (pc := 10) C dX9_tells_10 ?_
  refine r_iconst (v := (1:Int32)) (pc := 11) C dX9_tells_11 (by decide) ?_
  refine r_isub (pc := 12) C dX9_tells_12 ?_
  refine cv_X9_53 (pc := 13) C dX9_tells_13  h (by decide) (Nat.le_of_ble_eq_true rfl) (fun q2 h => ?_)
  refine r_if_ne (pc := 16) C 26 dX9_tells_16 (by decide) h (fun h => ?_) (fun h => ?_)
  · refine r_iconst (v := (0:Int32)) (pc := 26) C dX9_tells_26 (by decide) ?_
    refine r_istore_n (L' := [(2, .int (0:Int32)), (0, .ref (G.2 100)), (1, .int p1)]) (pc := 27) C dX9_tells_27 rfl (by decide) rfl ?_
    refine r_iconst (v := (0:Int32)) (pc := 28) C dX9_tells_28 (by decide) ?_
    refine r_istore_n (L' := [(3, .int (0:Int32)), (2, .int (0:Int32)), (0, .ref (G.2 100)), (1, .int p1)]) (pc := 29) C dX9_tells_29 rfl (by decide) rfl ?_
    exact r_sub C [2, 3, 1, 0] rfl (b_X9_tells_30 C _ _ _ _ h)
  · refine r_aload_n (pc := 19) C dX9_tells_19 rfl 0 rfl ?_
    refine r_ldc (pc := 20) C dX9_tells_20 qk_X9_61 ?_
    refine cv_X9_62 (pc := 22) C dX9_tells_22  h (by decide) (Nat.le_of_ble_eq_true rfl) (fun q3 h => ?_)
    exact r_iretE (pc := 25) C dX9_tells_25 h
theorem c_X9_tells {G : Gv} {p1 : Int32} {w : Wd} {res : Int32 × Wd} (h : f_X9_tells p1 w = some res) (l : Launch) : MC l yX9_tells cX9_tells 4 (some FieldType.int) 2 G SM w [.ref (G.2 100), .int p1] (some (.int res.1)) res.2 := mc_of (by decide +kernel) rfl (Nat.le_of_ble_eq_true rfl) rfl (fun V C => b_X9_tells_E C h) l
def f_X9_spare_70 (x2 : Int32) (t0 : Int32) (w : Wd) : Option (Int32 × Wd) := bd (f_X9_moveAll 104 101 w) (fun q1 => some ((t0 - x2), q1))
set_option maxRecDepth 20000 in
theorem b_X9_spare_70 {G : Gv} {V : Vt} {res : Int32 × Wd}  (C : CX cX9_spare RX9 G SM 5 110 (some FieldType.int) (some (.int res.1)) res.2 V) {x2 : Int32} {t0 : Int32} {w : Wd} (h : f_X9_spare_70 x2 t0 w = some res) : V w 70 [(0, .ref (G.2 100)), (2, .int x2)] [.int t0] := by
  unfold f_X9_spare_70 at h
  refine r_istore (L' := [(4, .int t0), (0, .ref (G.2 100)), (2, .int x2)]) (pc := 70) C dX9_spare_70 (by decide) rfl ?_
  refine r_aload_n (pc := 72) C dX9_spare_72 rfl 1 rfl ?_
  refine r_aload_n (pc := 73) C dX9_spare_73 rfl 1 rfl ?_
  refine gr_X9_19 (pc := 74) 104 C dX9_spare_74 kx_100 rfl ?_
  refine r_aload_n (pc := 77) C dX9_spare_77 rfl 1 rfl ?_
  refine gr_X9_7 (pc := 78) 101 C dX9_spare_78 kx_100 rfl ?_
  refine cv_X9_186 (pc := 81) C dX9_spare_81 isAm_104 isAm_101 h (by decide) (Nat.le_of_ble_eq_true rfl) (fun q1 h => ?_)
  refine r_iload (pc := 84) C dX9_spare_84 0 rfl ?_
  refine r_iload_n (pc := 86) C dX9_spare_86 rfl 2 rfl ?_
  refine r_isub (pc := 87) C dX9_spare_87 ?_
  exact r_iretE (pc := 88) C dX9_spare_88 h
def f_X9_spare (p1 : Int32) (w : Wd) : Option (Int32 × Wd) := bd (f_X9_isSet w p1) (fun q1 => (if ¬ q1 = 0 then ald w 101 229 (8:Int32) (fun v2 => (if ¬ v2 = (6:Int32) then bd (f_X9_seasonOf w) (fun q3 => bd (f_X9_moveAll 101 104 q3.2) (fun q4 => bd (f_X9_addPlayer (-1:Int32) p1 q4) (fun q5 => (if 0 ≤ q5.1 then bd (f_X9_seasonOf q5.2) (fun q6 => f_X9_spare_70 q3.1 q6.1 q6.2) else f_X9_spare_70 q3.1 (0:Int32) q5.2)))) else bd (f_X9_errs (-1000000004:Int32) w) (fun q7 => some (q7.1, q7.2)))) else bd (f_X9_errs (-1000000001:Int32) w) (fun q8 => some (q8.1, q8.2))))
set_option maxRecDepth 20000 in
theorem b_X9_spare_E {G : Gv} {V : Vt} {res : Int32 × Wd}  (C : CX cX9_spare RX9 G SM 5 110 (some FieldType.int) (some (.int res.1)) res.2 V) {p1 : Int32} {w : Wd} (h : f_X9_spare p1 w = some res) : V w 0 [(0, .ref (G.2 100)), (1, .int p1)] [] := by
  unfold f_X9_spare at h
  refine r_aload_n (pc := 0) C dX9_spare_0 rfl 0 rfl ?_
  refine r_iload_n (pc := 1) C dX9_spare_1 rfl 1 rfl ?_
  refine cv_X9_110 (pc := 2) C dX9_spare_2  h (by decide) (Nat.le_of_ble_eq_true rfl) (fun q1 h => ?_)
  refine r_if_ne (pc := 5) C 15 dX9_spare_5 (by decide) h (fun h => ?_) (fun h => ?_)
  · refine r_aload_n (pc := 15) C dX9_spare_15 rfl 0 rfl ?_
    refine gr_X9_7 (pc := 16) 101 C dX9_spare_16 kx_100 rfl ?_
    refine r_bipush (v := (8:Int32)) (pc := 19) C dX9_spare_19 (by decide) ?_
    refine r_ald (pc := 21) C dX9_spare_21 h kx_101 (fun v2 h => ?_)
    refine r_bipush (v := (6:Int32)) (pc := 22) C dX9_spare_22 (by decide) ?_
    refine r_icmp_ne (pc := 24) C 34 dX9_spare_24 (by decide) h (fun h => ?_) (fun h => ?_)
    · refine r_aload_n (pc := 34) C dX9_spare_34 rfl 0 rfl ?_
      refine cv_X9_225 (pc := 35) C dX9_spare_35  h (by decide) (Nat.le_of_ble_eq_true rfl) (fun q3 h => ?_)
      refine r_istore_n (L' := [(2, .int q3.1), (0, .ref (G.2 100)), (1, .int p1)]) (pc := 38) C dX9_spare_38 rfl (by decide) rfl ?_
      refine r_aload_n (pc := 39) C dX9_spare_39 rfl 1 rfl ?_
      refine r_aload_n (pc := 40) C dX9_spare_40 rfl 1 rfl ?_
      refine gr_X9_7 (pc := 41) 101 C dX9_spare_41 kx_100 rfl ?_
      refine r_aload_n (pc := 44) C dX9_spare_44 rfl 1 rfl ?_
      refine gr_X9_19 (pc := 45) 104 C dX9_spare_45 kx_100 rfl ?_
      refine cv_X9_186 (pc := 48) C dX9_spare_48 isAm_101 isAm_104 h (by decide) (Nat.le_of_ble_eq_true rfl) (fun q4 h => ?_)
      refine r_aload_n (pc := 51) C dX9_spare_51 rfl 1 rfl ?_
      refine r_iconst (v := (-1:Int32)) (pc := 52) C dX9_spare_52 (by decide) ?_
      refine r_iload_n (pc := 53) C dX9_spare_53 rfl 2 rfl ?_
      refine cv_X9_104 (pc := 54) C dX9_spare_54  h (by decide) (Nat.le_of_ble_eq_true rfl) (fun q5 h => ?_)
      refine r_istore_n (L' := [(3, .int q5.1), (2, .int q3.1), (0, .ref (G.2 100)), (1, .int p1)]) (pc := 57) C dX9_spare_57 rfl (by decide) rfl ?_
      refine r_iload_n (pc := 58) C dX9_spare_58 rfl 0 rfl ?_
      refine r_if_ge (pc := 59) C 66 dX9_spare_59 (by decide) h (fun h => ?_) (fun h => ?_)
      · refine r_aload_n (pc := 66) C dX9_spare_66 rfl 2 rfl ?_
        refine cv_X9_225 (pc := 67) C dX9_spare_67  h (by decide) (Nat.le_of_ble_eq_true rfl) (fun q6 h => ?_)
        exact r_sub C [2, 1] rfl (b_X9_spare_70 C h)
      · refine r_iconst (v := (0:Int32)) (pc := 62) C dX9_spare_62 (by decide) ?_
        refine r_goto (pc := 63) C 70 dX9_spare_63 (by decide) ?_
        exact r_sub C [2, 1] rfl (b_X9_spare_70 C h)
    · refine r_aload_n (pc := 27) C dX9_spare_27 rfl 0 rfl ?_
      refine r_ldc (pc := 28) C dX9_spare_28 qk_X9_66 ?_
      refine cv_X9_62 (pc := 30) C dX9_spare_30  h (by decide) (Nat.le_of_ble_eq_true rfl) (fun q7 h => ?_)
      exact r_iretE (pc := 33) C dX9_spare_33 h
  · refine r_aload_n (pc := 8) C dX9_spare_8 rfl 0 rfl ?_
    refine r_ldc (pc := 9) C dX9_spare_9 qk_X9_61 ?_
    refine cv_X9_62 (pc := 11) C dX9_spare_11  h (by decide) (Nat.le_of_ble_eq_true rfl) (fun q8 h => ?_)
    exact r_iretE (pc := 14) C dX9_spare_14 h
theorem c_X9_spare {G : Gv} {p1 : Int32} {w : Wd} {res : Int32 × Wd} (h : f_X9_spare p1 w = some res) (l : Launch) : MC l yX9_spare cX9_spare 5 (some FieldType.int) 110 G SM w [.ref (G.2 100), .int p1] (some (.int res.1)) res.2 := mc_of (by decide +kernel) rfl (Nat.le_of_ble_eq_true rfl) rfl (fun V C => b_X9_spare_E C h) l
def f_X9_isSheet (p0 : Int32) : Option (Int32) := bd (f_X9_in p0 (0:Int32) (3:Int32)) (fun q1 => zk q1 (some q1))
set_option maxRecDepth 20000 in
theorem b_X9_isSheet_E {G : Gv} {V : Vt} {w : Wd} {res : Int32}  (C : CX cX9_isSheet RX9 G SM 1 2 (some FieldType.boolean) (some (.int res)) w V) {p0 : Int32} (h : f_X9_isSheet p0 = some res) : V w 0 [(0, .int p0)] [] := by
  unfold f_X9_isSheet at h
  refine r_iload_n (pc := 0) C dX9_isSheet_0 rfl 0 rfl ?_
  refine r_iconst (v := (0:Int32)) (pc := 1) C dX9_isSheet_1 (by decide) ?_
  refine r_iconst (v := (3:Int32)) (pc := 2) C dX9_isSheet_2 (by decide) ?_
  refine cv_X9_53 (pc := 3) C dX9_isSheet_3  h (by decide) (Nat.le_of_ble_eq_true rfl) (fun q1 h => ?_)
  refine r_zk h (fun hn h => ?_)
  exact r_zretP (pc := 6) C hn dX9_isSheet_6 h
theorem c_X9_isSheet {G : Gv} {p0 : Int32} {w : Wd} {res : Int32} (h : f_X9_isSheet p0 = some res) (l : Launch) : MC l yX9_isSheet cX9_isSheet 1 (some FieldType.boolean) 2 G SM w [.int p0] (some (.int res)) w := mc_of (by decide +kernel) rfl (Nat.le_of_ble_eq_true rfl) rfl (fun V C => b_X9_isSheet_E C h) l
theorem cv_X9_228 {cc : ByteArray} {G : Gv} {n hc : Nat} {rt : Option FieldType} {rv : Option Value} {w0 : Wd} {V : Vt} {w : Wd} {pc : Nat} {L : List (Nat × Value)} {rest : List Value} {α : Type} {res : α} {p0 : Int32} {K : Int32 → Option α} (C : CX cc RX9 G SM n hc rt rv w0 V) (hd : decode cc pc = .ok (.invokestatic 228, 3)) (h : bd (f_X9_isSheet p0) K = some res) (hR : 2 + 1 ≤ hc) (hr : (rest.map fun v => v.category).sum ≤ 8) (kk : ∀ q, K q = some res → V w (pc + 3) L (.int q :: rest)) : V w pc L (.int p0 :: rest) := r_callS (As := [.int p0]) (rest := rest) (rvf := fun q => (some (.int q))) (wf := fun q => w) C hd h ql_X9_228 qt_X9_isSheet qn_X9 qc_X9_isSheet ⟨by decide +kernel, by decide +kernel, (by decide +kernel : (parseMethodDescriptor yX9_isSheet.desc).map (fun d => d.parameters.length) = some 1)⟩ ⟨hR, by decide⟩ (fun q hq l => c_X9_isSheet hq l) rfl hr kk
def f_X9_changes_178 (x3 : Int32) (w : Wd) : Option (Int32 × Wd) := (if 0 ≤ x3 then some (x3, w) else bd (f_X9_errs (-1000000002:Int32) w) (fun q1 => some (q1.1, q1.2)))
set_option maxRecDepth 20000 in
theorem b_X9_changes_178 {G : Gv} {V : Vt} {res : Int32 × Wd}  (C : CX cX9_changes RX9 G SM 8 7 (some FieldType.int) (some (.int res.1)) res.2 V) {x3 : Int32} {w : Wd} (h : f_X9_changes_178 x3 w = some res) : V w 178 [(0, .ref (G.2 100)), (3, .int x3)] [] := by
  unfold f_X9_changes_178 at h
  refine r_iload_n (pc := 178) C dX9_changes_178 rfl 1 rfl ?_
  refine r_if_ge (pc := 179) C 191 dX9_changes_179 (by decide) h (fun h => ?_) (fun h => ?_)
  · refine r_iload_n (pc := 191) C dX9_changes_191 rfl 1 rfl ?_
    exact r_iretE (pc := 192) C dX9_changes_192 h
  · refine r_aload_n (pc := 182) C dX9_changes_182 rfl 0 rfl ?_
    refine r_ldc (pc := 183) C dX9_changes_183 qk_X9_218 ?_
    refine cv_X9_62 (pc := 185) C dX9_changes_185  h (by decide) (Nat.le_of_ble_eq_true rfl) (fun q1 h => ?_)
    refine r_goto (pc := 188) C 192 dX9_changes_188 (by decide) ?_
    exact r_iretE (pc := 192) C dX9_changes_192 h
def f_X9_changes_168 (rec61 : Int32 → Int32 → Int32 → Int32 → Wd → Option (Int32 × Wd)) (x1 : Int32) (x2 : Int32) (t0 : Int32) (w : Wd) : Option (Int32 × Wd) := bd (f_X9_isNext w) (fun q1 => rec61 x1 x2 t0 q1.1 q1.2)
set_option maxRecDepth 20000 in
theorem b_X9_changes_168 {G : Gv} {V : Vt} {rec61 : Int32 → Int32 → Int32 → Int32 → Wd → Option (Int32 × Wd)} {res : Int32 × Wd}  (C : CX cX9_changes RX9 G SM 8 7 (some FieldType.int) (some (.int res.1)) res.2 V) (hrec61 : ∀ (x1 : Int32) (x2 : Int32) (x3 : Int32) (x4 : Int32) (w : Wd), rec61 x1 x2 x3 x4 w = some res → V w 61 [(0, .ref (G.2 100)), (1, .int x1), (2, .int x2), (3, .int x3), (4, .int x4)] []) {x1 : Int32} {x2 : Int32} {t0 : Int32} {w : Wd} (h : f_X9_changes_168 rec61 x1 x2 t0 w = some res) : V w 168 [(0, .ref (G.2 100)), (1, .int x1), (2, .int x2)] [.int t0] := by
  unfold f_X9_changes_168 at h
  refine r_istore_n (L' := [(3, .int t0), (0, .ref (G.2 100)), (1, .int x1), (2, .int x2)]) (pc := 168) C dX9_changes_168 rfl (by decide) rfl ?_
  refine r_aload_n (pc := 169) C dX9_changes_169 rfl 1 rfl ?_
  refine cv_X9_219 (pc := 170) C dX9_changes_170  h (by decide) (Nat.le_of_ble_eq_true rfl) (fun q1 h => ?_)
  refine r_istore (L' := [(4, .int q1.1), (3, .int t0), (0, .ref (G.2 100)), (1, .int x1), (2, .int x2)]) (pc := 173) C dX9_changes_173 (by decide) rfl ?_
  refine r_goto (pc := 175) C 61 dX9_changes_175 (by decide) ?_
  exact r_sub C [2, 3, 4, 1, 0] rfl (hrec61 _ _ _ _ _ h)
def f_X9_changes_167 (rec61 : Int32 → Int32 → Int32 → Int32 → Wd → Option (Int32 × Wd)) (x1 : Int32) (x2 : Int32) (x3 : Int32) (w : Wd) : Option (Int32 × Wd) := f_X9_changes_168 rec61 x1 x2 x3 w
set_option maxRecDepth 20000 in
theorem b_X9_changes_167 {G : Gv} {V : Vt} {rec61 : Int32 → Int32 → Int32 → Int32 → Wd → Option (Int32 × Wd)} {res : Int32 × Wd}  (C : CX cX9_changes RX9 G SM 8 7 (some FieldType.int) (some (.int res.1)) res.2 V) (hrec61 : ∀ (x1 : Int32) (x2 : Int32) (x3 : Int32) (x4 : Int32) (w : Wd), rec61 x1 x2 x3 x4 w = some res → V w 61 [(0, .ref (G.2 100)), (1, .int x1), (2, .int x2), (3, .int x3), (4, .int x4)] []) {x1 : Int32} {x2 : Int32} {x3 : Int32} {w : Wd} (h : f_X9_changes_167 rec61 x1 x2 x3 w = some res) : V w 167 [(0, .ref (G.2 100)), (1, .int x1), (2, .int x2), (3, .int x3)] [] := by
  unfold f_X9_changes_167 at h
  refine r_iload_n (pc := 167) C dX9_changes_167 rfl 3 rfl ?_
  exact r_sub C [0, 1, 2] rfl (b_X9_changes_168 C hrec61 h)
def f_X9_changes_162 (rec61 : Int32 → Int32 → Int32 → Int32 → Wd → Option (Int32 × Wd)) (x1 : Int32) (x2 : Int32) (x5 : Int32) (w : Wd) : Option (Int32 × Wd) := f_X9_changes_168 rec61 x1 x2 x5 w
set_option maxRecDepth 20000 in
theorem b_X9_changes_162 {G : Gv} {V : Vt} {rec61 : Int32 → Int32 → Int32 → Int32 → Wd → Option (Int32 × Wd)} {res : Int32 × Wd}  (C : CX cX9_changes RX9 G SM 8 7 (some FieldType.int) (some (.int res.1)) res.2 V) (hrec61 : ∀ (x1 : Int32) (x2 : Int32) (x3 : Int32) (x4 : Int32) (w : Wd), rec61 x1 x2 x3 x4 w = some res → V w 61 [(0, .ref (G.2 100)), (1, .int x1), (2, .int x2), (3, .int x3), (4, .int x4)] []) {x1 : Int32} {x2 : Int32} {x5 : Int32} {w : Wd} (h : f_X9_changes_162 rec61 x1 x2 x5 w = some res) : V w 162 [(0, .ref (G.2 100)), (1, .int x1), (2, .int x2), (5, .int x5)] [] := by
  unfold f_X9_changes_162 at h
  refine r_iload (pc := 162) C dX9_changes_162 3 rfl ?_
  refine r_goto (pc := 164) C 168 dX9_changes_164 (by decide) ?_
  exact r_sub C [0, 1, 2] rfl (b_X9_changes_168 C hrec61 h)
def f_X9_changes_147 (rec61 : Int32 → Int32 → Int32 → Int32 → Wd → Option (Int32 × Wd)) (x1 : Int32) (x2 : Int32) (x3 : Int32) (x5 : Int32) (x6 : Int32) (w : Wd) : Option (Int32 × Wd) := (if x6 = 0 then f_X9_changes_167 rec61 x1 x2 x3 w else (if x3 < 0 then f_X9_changes_162 rec61 x1 x2 x5 w else (if x3 ≤ x5 then f_X9_changes_167 rec61 x1 x2 x3 w else f_X9_changes_162 rec61 x1 x2 x5 w)))
set_option maxRecDepth 20000 in
theorem b_X9_changes_147 {G : Gv} {V : Vt} {rec61 : Int32 → Int32 → Int32 → Int32 → Wd → Option (Int32 × Wd)} {res : Int32 × Wd}  (C : CX cX9_changes RX9 G SM 8 7 (some FieldType.int) (some (.int res.1)) res.2 V) (hrec61 : ∀ (x1 : Int32) (x2 : Int32) (x3 : Int32) (x4 : Int32) (w : Wd), rec61 x1 x2 x3 x4 w = some res → V w 61 [(0, .ref (G.2 100)), (1, .int x1), (2, .int x2), (3, .int x3), (4, .int x4)] []) {x1 : Int32} {x2 : Int32} {x3 : Int32} {x5 : Int32} {x6 : Int32} {w : Wd} (h : f_X9_changes_147 rec61 x1 x2 x3 x5 x6 w = some res) : V w 147 [(0, .ref (G.2 100)), (1, .int x1), (2, .int x2), (3, .int x3), (5, .int x5), (6, .int x6)] [] := by
  unfold f_X9_changes_147 at h
  refine r_iload (pc := 147) C dX9_changes_147 5 rfl ?_
  refine r_if_eq (pc := 149) C 167 dX9_changes_149 (by decide) h (fun h => ?_) (fun h => ?_)
  · exact r_sub C [0, 1, 2, 3] rfl (b_X9_changes_167 C hrec61 h)
  · refine r_iload_n (pc := 152) C dX9_changes_152 rfl 3 rfl ?_
    refine r_if_lt (pc := 153) C 162 dX9_changes_153 (by decide) h (fun h => ?_) (fun h => ?_)
    · exact r_sub C [0, 1, 2, 4] rfl (b_X9_changes_162 C hrec61 h)
    · refine r_iload (pc := 156) C dX9_changes_156 4 rfl ?_
      refine r_iload_n (pc := 158) C dX9_changes_158 rfl 3 rfl ?_
      refine r_icmp_ge (pc := 159) C 167 dX9_changes_159 (by decide) h (fun h => ?_) (fun h => ?_)
      · exact r_sub C [0, 1, 2, 3] rfl (b_X9_changes_167 C hrec61 h)
      · exact r_sub C [0, 1, 2, 4] rfl (b_X9_changes_162 C hrec61 h)
def f_X9_changes_139 (rec61 : Int32 → Int32 → Int32 → Int32 → Wd → Option (Int32 × Wd)) (rec75 : Int32 → Int32 → Int32 → Int32 → Int32 → Int32 → Wd → Option (Int32 × Wd)) (x1 : Int32) (x2 : Int32) (x3 : Int32) (x5 : Int32) (x7 : Int32) (t0 : Int32) (w : Wd) : Option (Int32 × Wd) := rec75 x1 x2 x3 x5 t0 (x7 + (1:Int32)) w
set_option maxRecDepth 20000 in
theorem b_X9_changes_139 {G : Gv} {V : Vt} {rec61 : Int32 → Int32 → Int32 → Int32 → Wd → Option (Int32 × Wd)} {rec75 : Int32 → Int32 → Int32 → Int32 → Int32 → Int32 → Wd → Option (Int32 × Wd)} {res : Int32 × Wd}  (C : CX cX9_changes RX9 G SM 8 7 (some FieldType.int) (some (.int res.1)) res.2 V) (hrec61 : ∀ (x1 : Int32) (x2 : Int32) (x3 : Int32) (x4 : Int32) (w : Wd), rec61 x1 x2 x3 x4 w = some res → V w 61 [(0, .ref (G.2 100)), (1, .int x1), (2, .int x2), (3, .int x3), (4, .int x4)] []) (hrec75 : ∀ (x1 : Int32) (x2 : Int32) (x3 : Int32) (x5 : Int32) (x6 : Int32) (x7 : Int32) (w : Wd), rec75 x1 x2 x3 x5 x6 x7 w = some res → V w 75 [(0, .ref (G.2 100)), (1, .int x1), (2, .int x2), (3, .int x3), (5, .int x5), (6, .int x6), (7, .int x7)] []) {x1 : Int32} {x2 : Int32} {x3 : Int32} {x5 : Int32} {x7 : Int32} {t0 : Int32} {w : Wd} (h : f_X9_changes_139 rec61 rec75 x1 x2 x3 x5 x7 t0 w = some res) : V w 139 [(0, .ref (G.2 100)), (1, .int x1), (2, .int x2), (3, .int x3), (5, .int x5), (7, .int x7)] [.int t0] := by
  unfold f_X9_changes_139 at h
  refine r_istore (L' := [(6, .int t0), (0, .ref (G.2 100)), (1, .int x1), (2, .int x2), (3, .int x3), (5, .int x5), (7, .int x7)]) (pc := 139) C dX9_changes_139 (by decide) rfl ?_
  refine r_iinc (v := (x7 + (1:Int32))) (L' := [(7, .int (x7 + (1:Int32))), (6, .int t0), (0, .ref (G.2 100)), (1, .int x1), (2, .int x2), (3, .int x3), (5, .int x5)]) (pc := 141) C dX9_changes_141 6 rfl rfl (by decide) rfl ?_
  refine r_goto (pc := 144) C 75 dX9_changes_144 (by decide) ?_
  exact r_sub C [2, 3, 4, 5, 6, 1, 0] rfl (hrec75 _ _ _ _ _ _ _ h)
def f_X9_changes_138 (rec61 : Int32 → Int32 → Int32 → Int32 → Wd → Option (Int32 × Wd)) (rec75 : Int32 → Int32 → Int32 → Int32 → Int32 → Int32 → Wd → Option (Int32 × Wd)) (x1 : Int32) (x2 : Int32) (x3 : Int32) (x5 : Int32) (x7 : Int32) (w : Wd) : Option (Int32 × Wd) := f_X9_changes_139 rec61 rec75 x1 x2 x3 x5 x7 (0:Int32) w
set_option maxRecDepth 20000 in
theorem b_X9_changes_138 {G : Gv} {V : Vt} {rec61 : Int32 → Int32 → Int32 → Int32 → Wd → Option (Int32 × Wd)} {rec75 : Int32 → Int32 → Int32 → Int32 → Int32 → Int32 → Wd → Option (Int32 × Wd)} {res : Int32 × Wd}  (C : CX cX9_changes RX9 G SM 8 7 (some FieldType.int) (some (.int res.1)) res.2 V) (hrec61 : ∀ (x1 : Int32) (x2 : Int32) (x3 : Int32) (x4 : Int32) (w : Wd), rec61 x1 x2 x3 x4 w = some res → V w 61 [(0, .ref (G.2 100)), (1, .int x1), (2, .int x2), (3, .int x3), (4, .int x4)] []) (hrec75 : ∀ (x1 : Int32) (x2 : Int32) (x3 : Int32) (x5 : Int32) (x6 : Int32) (x7 : Int32) (w : Wd), rec75 x1 x2 x3 x5 x6 x7 w = some res → V w 75 [(0, .ref (G.2 100)), (1, .int x1), (2, .int x2), (3, .int x3), (5, .int x5), (6, .int x6), (7, .int x7)] []) {x1 : Int32} {x2 : Int32} {x3 : Int32} {x5 : Int32} {x7 : Int32} {w : Wd} (h : f_X9_changes_138 rec61 rec75 x1 x2 x3 x5 x7 w = some res) : V w 138 [(0, .ref (G.2 100)), (1, .int x1), (2, .int x2), (3, .int x3), (5, .int x5), (7, .int x7)] [] := by
  unfold f_X9_changes_138 at h
  refine r_iconst (v := (0:Int32)) (pc := 138) C dX9_changes_138 (by decide) ?_
  exact r_sub C [0, 1, 2, 3, 4, 5] rfl (b_X9_changes_139 C hrec61 hrec75 h)
def f_X9_changes_115 (rec61 : Int32 → Int32 → Int32 → Int32 → Wd → Option (Int32 × Wd)) (rec75 : Int32 → Int32 → Int32 → Int32 → Int32 → Int32 → Wd → Option (Int32 × Wd)) (x1 : Int32) (x2 : Int32) (x3 : Int32) (x6 : Int32) (x7 : Int32) (t0 : Int32) (t1 : Int32) (w : Wd) : Option (Int32 × Wd) := lv (t1 + t0) (fun v1 => (if x6 = 0 then f_X9_changes_138 rec61 rec75 x1 x2 x3 v1 x7 w else ald w 106 5 x7 (fun v2 => (if v2 = x2 then f_X9_changes_138 rec61 rec75 x1 x2 x3 v1 x7 w else f_X9_changes_139 rec61 rec75 x1 x2 x3 v1 x7 (1:Int32) w))))
set_option maxRecDepth 20000 in
theorem b_X9_changes_115 {G : Gv} {V : Vt} {rec61 : Int32 → Int32 → Int32 → Int32 → Wd → Option (Int32 × Wd)} {rec75 : Int32 → Int32 → Int32 → Int32 → Int32 → Int32 → Wd → Option (Int32 × Wd)} {res : Int32 × Wd}  (C : CX cX9_changes RX9 G SM 8 7 (some FieldType.int) (some (.int res.1)) res.2 V) (hrec61 : ∀ (x1 : Int32) (x2 : Int32) (x3 : Int32) (x4 : Int32) (w : Wd), rec61 x1 x2 x3 x4 w = some res → V w 61 [(0, .ref (G.2 100)), (1, .int x1), (2, .int x2), (3, .int x3), (4, .int x4)] []) (hrec75 : ∀ (x1 : Int32) (x2 : Int32) (x3 : Int32) (x5 : Int32) (x6 : Int32) (x7 : Int32) (w : Wd), rec75 x1 x2 x3 x5 x6 x7 w = some res → V w 75 [(0, .ref (G.2 100)), (1, .int x1), (2, .int x2), (3, .int x3), (5, .int x5), (6, .int x6), (7, .int x7)] []) {x1 : Int32} {x2 : Int32} {x3 : Int32} {x6 : Int32} {x7 : Int32} {t0 : Int32} {t1 : Int32} {w : Wd} (h : f_X9_changes_115 rec61 rec75 x1 x2 x3 x6 x7 t0 t1 w = some res) : V w 115 [(0, .ref (G.2 100)), (1, .int x1), (2, .int x2), (3, .int x3), (6, .int x6), (7, .int x7)] [.int t0, .int t1] := by
  unfold f_X9_changes_115 at h
  refine r_iadd (pc := 115) C dX9_changes_115 ?_
  refine r_lv h (fun v1 h => ?_)
  refine r_istore (L' := [(5, .int v1), (0, .ref (G.2 100)), (1, .int x1), (2, .int x2), (3, .int x3), (6, .int x6), (7, .int x7)]) (pc := 116) C dX9_changes_116 (by decide) rfl ?_
  refine r_iload (pc := 118) C dX9_changes_118 5 rfl ?_
  refine r_if_eq (pc := 120) C 138 dX9_changes_120 (by decide) h (fun h => ?_) (fun h => ?_)
  · exact r_sub C [1, 2, 3, 4, 0, 6] rfl (b_X9_changes_138 C hrec61 hrec75 h)
  · refine r_aload_n (pc := 123) C dX9_changes_123 rfl 1 rfl ?_
    refine gr_X9_25 (pc := 124) 106 C dX9_changes_124 kx_100 rfl ?_
    refine r_iload (pc := 127) C dX9_changes_127 6 rfl ?_
    refine r_ald (pc := 129) C dX9_changes_129 h kx_106 (fun v2 h => ?_)
    refine r_iload_n (pc := 130) C dX9_changes_130 rfl 3 rfl ?_
    refine r_icmp_eq (pc := 131) C 138 dX9_changes_131 (by decide) h (fun h => ?_) (fun h => ?_)
    · exact r_sub C [1, 2, 3, 4, 0, 6] rfl (b_X9_changes_138 C hrec61 hrec75 h)
    · refine r_iconst (v := (1:Int32)) (pc := 134) C dX9_changes_134 (by decide) ?_
      refine r_goto (pc := 135) C 139 dX9_changes_135 (by decide) ?_
      exact r_sub C [1, 2, 3, 4, 0, 6] rfl (b_X9_changes_139 C hrec61 hrec75 h)
def fb_X9_changes_75 (rec61 : Int32 → Int32 → Int32 → Int32 → Wd → Option (Int32 × Wd)) (rec75 : Int32 → Int32 → Int32 → Int32 → Int32 → Int32 → Wd → Option (Int32 × Wd)) (x1 : Int32) (x2 : Int32) (x3 : Int32) (x5 : Int32) (x6 : Int32) (x7 : Int32) (w : Wd) : Option (Int32 × Wd) := ald w 101 229 (3:Int32) (fun v1 => (if v1 ≤ x7 then f_X9_changes_147 rec61 x1 x2 x3 x5 x6 w else ald w 106 5 x7 (fun v2 => ald w 112 160 (((40:Int32) * x1) + x7) (fun v3 => (if ¬ v2 = v3 then f_X9_changes_115 rec61 rec75 x1 x2 x3 x6 x7 (1:Int32) x5 w else f_X9_changes_115 rec61 rec75 x1 x2 x3 x6 x7 (0:Int32) x5 w)))))
set_option maxRecDepth 20000 in
theorem bb_X9_changes_75 {G : Gv} {V : Vt} {rec61 : Int32 → Int32 → Int32 → Int32 → Wd → Option (Int32 × Wd)} {rec75 : Int32 → Int32 → Int32 → Int32 → Int32 → Int32 → Wd → Option (Int32 × Wd)} {res : Int32 × Wd}  (C : CX cX9_changes RX9 G SM 8 7 (some FieldType.int) (some (.int res.1)) res.2 V) (hrec61 : ∀ (x1 : Int32) (x2 : Int32) (x3 : Int32) (x4 : Int32) (w : Wd), rec61 x1 x2 x3 x4 w = some res → V w 61 [(0, .ref (G.2 100)), (1, .int x1), (2, .int x2), (3, .int x3), (4, .int x4)] []) (hrec75 : ∀ (x1 : Int32) (x2 : Int32) (x3 : Int32) (x5 : Int32) (x6 : Int32) (x7 : Int32) (w : Wd), rec75 x1 x2 x3 x5 x6 x7 w = some res → V w 75 [(0, .ref (G.2 100)), (1, .int x1), (2, .int x2), (3, .int x3), (5, .int x5), (6, .int x6), (7, .int x7)] []) {x1 : Int32} {x2 : Int32} {x3 : Int32} {x5 : Int32} {x6 : Int32} {x7 : Int32} {w : Wd} (h : fb_X9_changes_75 rec61 rec75 x1 x2 x3 x5 x6 x7 w = some res) : V w 75 [(0, .ref (G.2 100)), (1, .int x1), (2, .int x2), (3, .int x3), (5, .int x5), (6, .int x6), (7, .int x7)] [] := by
  unfold fb_X9_changes_75 at h
  refine r_iload (pc := 75) C dX9_changes_75 6 rfl ?_
  refine r_aload_n (pc := 77) C dX9_changes_77 rfl 0 rfl ?_
  refine gr_X9_7 (pc := 78) 101 C dX9_changes_78 kx_100 rfl ?_
  refine r_iconst (v := (3:Int32)) (pc := 81) C dX9_changes_81 (by decide) ?_
  refine r_ald (pc := 82) C dX9_changes_82 h kx_101 (fun v1 h => ?_)
  refine r_icmp_ge (pc := 83) C 147 dX9_changes_83 (by decide) h (fun h => ?_) (fun h => ?_)
  · exact r_sub C [0, 1, 2, 3, 4, 5] rfl (b_X9_changes_147 C hrec61 h)
  · refine r_iload (pc := 86) C dX9_changes_86 4 rfl ?_
    refine r_aload_n (pc := 88) C dX9_changes_88 rfl 0 rfl ?_
    refine gr_X9_25 (pc := 89) 106 C dX9_changes_89 kx_100 rfl ?_
    refine r_iload (pc := 92) C dX9_changes_92 6 rfl ?_
    refine r_ald (pc := 94) C dX9_changes_94 h kx_106 (fun v2 h => ?_)
    refine r_aload_n (pc := 95) C dX9_changes_95 rfl 0 rfl ?_
    refine gr_X9_43 (pc := 96) 112 C dX9_changes_96 kx_100 rfl ?_
    refine r_bipush (v := (40:Int32)) (pc := 99) C dX9_changes_99 (by decide) ?_
    refine r_iload_n (pc := 101) C dX9_changes_101 rfl 1 rfl ?_
    refine r_imul (pc := 102) C dX9_changes_102 ?_
    refine r_iload (pc := 103) C dX9_changes_103 6 rfl ?_
    refine r_iadd (pc := 105) C dX9_changes_105 ?_
    refine r_ald (pc := 106) C dX9_changes_106 h kx_112 (fun v3 h => ?_)
    refine r_icmp_ne (pc := 107) C 114 dX9_changes_107 (by decide) h (fun h => ?_) (fun h => ?_)
    · refine r_iconst (v := (1:Int32)) (pc := 114) C dX9_changes_114 (by decide) ?_
      exact r_sub C [0, 1, 2, 3, 5, 6] rfl (b_X9_changes_115 C hrec61 hrec75 h)
    · refine r_iconst (v := (0:Int32)) (pc := 110) C dX9_changes_110 (by decide) ?_
      refine r_goto (pc := 111) C 115 dX9_changes_111 (by decide) ?_
      exact r_sub C [0, 1, 2, 3, 5, 6] rfl (b_X9_changes_115 C hrec61 hrec75 h)
def f_X9_changes_75 (rec61 : Int32 → Int32 → Int32 → Int32 → Wd → Option (Int32 × Wd)) : Int32 → Int32 → Int32 → Int32 → Int32 → Int32 → Wd → Option (Int32 × Wd) := lp (fun _ _ _ _ _ _ _ => none) (fun rec => fb_X9_changes_75 rec61 rec) FU
theorem b_X9_changes_75 {G : Gv} {V : Vt} {rec61 : Int32 → Int32 → Int32 → Int32 → Wd → Option (Int32 × Wd)} {res : Int32 × Wd}  (C : CX cX9_changes RX9 G SM 8 7 (some FieldType.int) (some (.int res.1)) res.2 V) (hrec61 : ∀ (x1 : Int32) (x2 : Int32) (x3 : Int32) (x4 : Int32) (w : Wd), rec61 x1 x2 x3 x4 w = some res → V w 61 [(0, .ref (G.2 100)), (1, .int x1), (2, .int x2), (3, .int x3), (4, .int x4)] []) : ∀ (x1 : Int32) (x2 : Int32) (x3 : Int32) (x5 : Int32) (x6 : Int32) (x7 : Int32) (w : Wd), (f_X9_changes_75 rec61) x1 x2 x3 x5 x6 x7 w = some res → V w 75 [(0, .ref (G.2 100)), (1, .int x1), (2, .int x2), (3, .int x3), (5, .int x5), (6, .int x6), (7, .int x7)] [] :=
  lp_ind (P := fun (g : Int32 → Int32 → Int32 → Int32 → Int32 → Int32 → Wd → Option (Int32 × Wd)) => ∀ (x1 : Int32) (x2 : Int32) (x3 : Int32) (x5 : Int32) (x6 : Int32) (x7 : Int32) (w : Wd), g x1 x2 x3 x5 x6 x7 w = some res → V w 75 [(0, .ref (G.2 100)), (1, .int x1), (2, .int x2), (3, .int x3), (5, .int x5), (6, .int x6), (7, .int x7)] []) (fun _ _ _ _ _ _ _ h => by cases h) (fun g hg _ _ _ _ _ _ _ h => bb_X9_changes_75 C hrec61 hg h) FU
def fb_X9_changes_61 (rec61 : Int32 → Int32 → Int32 → Int32 → Wd → Option (Int32 × Wd)) (x1 : Int32) (x2 : Int32) (x3 : Int32) (x4 : Int32) (w : Wd) : Option (Int32 × Wd) := (if x4 = 0 then f_X9_changes_178 x3 w else f_X9_changes_75 rec61 x1 x2 x3 (0:Int32) (1:Int32) (0:Int32) w)
set_option maxRecDepth 20000 in
theorem bb_X9_changes_61 {G : Gv} {V : Vt} {rec61 : Int32 → Int32 → Int32 → Int32 → Wd → Option (Int32 × Wd)} {res : Int32 × Wd}  (C : CX cX9_changes RX9 G SM 8 7 (some FieldType.int) (some (.int res.1)) res.2 V) (hrec61 : ∀ (x1 : Int32) (x2 : Int32) (x3 : Int32) (x4 : Int32) (w : Wd), rec61 x1 x2 x3 x4 w = some res → V w 61 [(0, .ref (G.2 100)), (1, .int x1), (2, .int x2), (3, .int x3), (4, .int x4)] []) {x1 : Int32} {x2 : Int32} {x3 : Int32} {x4 : Int32} {w : Wd} (h : fb_X9_changes_61 rec61 x1 x2 x3 x4 w = some res) : V w 61 [(0, .ref (G.2 100)), (1, .int x1), (2, .int x2), (3, .int x3), (4, .int x4)] [] := by
  unfold fb_X9_changes_61 at h
  refine r_iload (pc := 61) C dX9_changes_61 4 rfl ?_
  refine r_if_eq (pc := 63) C 178 dX9_changes_63 (by decide) h (fun h => ?_) (fun h => ?_)
  · exact r_sub C [0, 3] rfl (b_X9_changes_178 C h)
  · refine r_iconst (v := (0:Int32)) (pc := 66) C dX9_changes_66 (by decide) ?_
    refine r_istore (L' := [(5, .int (0:Int32)), (0, .ref (G.2 100)), (1, .int x1), (2, .int x2), (3, .int x3), (4, .int x4)]) (pc := 67) C dX9_changes_67 (by decide) rfl ?_
    refine r_iconst (v := (1:Int32)) (pc := 69) C dX9_changes_69 (by decide) ?_
    refine r_istore (L' := [(6, .int (1:Int32)), (5, .int (0:Int32)), (0, .ref (G.2 100)), (1, .int x1), (2, .int x2), (3, .int x3), (4, .int x4)]) (pc := 70) C dX9_changes_70 (by decide) rfl ?_
    refine r_iconst (v := (0:Int32)) (pc := 72) C dX9_changes_72 (by decide) ?_
    refine r_istore (L' := [(7, .int (0:Int32)), (6, .int (1:Int32)), (5, .int (0:Int32)), (0, .ref (G.2 100)), (1, .int x1), (2, .int x2), (3, .int x3), (4, .int x4)]) (pc := 73) C dX9_changes_73 (by decide) rfl ?_
    exact r_sub C [3, 4, 5, 6, 2, 1, 0] rfl (b_X9_changes_75 C hrec61 _ _ _ _ _ _ _ h)
def f_X9_changes_61 : Int32 → Int32 → Int32 → Int32 → Wd → Option (Int32 × Wd) := lp (fun _ _ _ _ _ => none) (fun rec => fb_X9_changes_61 rec) FU
theorem b_X9_changes_61 {G : Gv} {V : Vt} {res : Int32 × Wd}  (C : CX cX9_changes RX9 G SM 8 7 (some FieldType.int) (some (.int res.1)) res.2 V) : ∀ (x1 : Int32) (x2 : Int32) (x3 : Int32) (x4 : Int32) (w : Wd), (f_X9_changes_61) x1 x2 x3 x4 w = some res → V w 61 [(0, .ref (G.2 100)), (1, .int x1), (2, .int x2), (3, .int x3), (4, .int x4)] [] :=
  lp_ind (P := fun (g : Int32 → Int32 → Int32 → Int32 → Wd → Option (Int32 × Wd)) => ∀ (x1 : Int32) (x2 : Int32) (x3 : Int32) (x4 : Int32) (w : Wd), g x1 x2 x3 x4 w = some res → V w 61 [(0, .ref (G.2 100)), (1, .int x1), (2, .int x2), (3, .int x3), (4, .int x4)] []) (fun _ _ _ _ _ h => by cases h) (fun g hg _ _ _ _ _ h => bb_X9_changes_61 C hg h) FU
def f_X9_changes_46 (w : Wd) : Option (Int32 × Wd) := bd (f_X9_errs (-1000000002:Int32) w) (fun q1 => some (q1.1, q1.2))
set_option maxRecDepth 20000 in
theorem b_X9_changes_46 {G : Gv} {V : Vt} {res : Int32 × Wd}  (C : CX cX9_changes RX9 G SM 8 7 (some FieldType.int) (some (.int res.1)) res.2 V) {w : Wd} (h : f_X9_changes_46 w = some res) : V w 46 [(0, .ref (G.2 100))] [] := by
  unfold f_X9_changes_46 at h
  refine r_aload_n (pc := 46) C dX9_changes_46 rfl 0 rfl ?_
  refine r_ldc (pc := 47) C dX9_changes_47 qk_X9_218 ?_
  refine cv_X9_62 (pc := 49) C dX9_changes_49  h (by decide) (Nat.le_of_ble_eq_true rfl) (fun q1 h => ?_)
  exact r_iretE (pc := 52) C dX9_changes_52 h
def f_X9_changes_15 (w : Wd) : Option (Int32 × Wd) := bd (f_X9_errs (-1000000001:Int32) w) (fun q1 => some (q1.1, q1.2))
set_option maxRecDepth 20000 in
theorem b_X9_changes_15 {G : Gv} {V : Vt} {res : Int32 × Wd}  (C : CX cX9_changes RX9 G SM 8 7 (some FieldType.int) (some (.int res.1)) res.2 V) {w : Wd} (h : f_X9_changes_15 w = some res) : V w 15 [(0, .ref (G.2 100))] [] := by
  unfold f_X9_changes_15 at h
  refine r_aload_n (pc := 15) C dX9_changes_15 rfl 0 rfl ?_
  refine r_ldc (pc := 16) C dX9_changes_16 qk_X9_61 ?_
  refine cv_X9_62 (pc := 18) C dX9_changes_18  h (by decide) (Nat.le_of_ble_eq_true rfl) (fun q1 h => ?_)
  exact r_iretE (pc := 21) C dX9_changes_21 h
def f_X9_changes (p1 : Int32) (p2 : Int32) (w : Wd) : Option (Int32 × Wd) := bd (f_X9_isSheet p1) (fun q1 => (if q1 = 0 then f_X9_changes_15 w else bd (f_X9_isPlayer w p2) (fun q2 => (if ¬ q2 = 0 then ald w 110 4 p1 (fun v3 => (if v3 = 0 then f_X9_changes_46 w else ald w 111 4 p1 (fun v4 => ald w 101 229 (3:Int32) (fun v5 => (if v4 = v5 then bd (f_X9_isFirst w) (fun q6 => f_X9_changes_61 p1 p2 (-1:Int32) q6.1 q6.2) else f_X9_changes_46 w))))) else f_X9_changes_15 w))))
set_option maxRecDepth 20000 in
theorem b_X9_changes_E {G : Gv} {V : Vt} {res : Int32 × Wd}  (C : CX cX9_changes RX9 G SM 8 7 (some FieldType.int) (some (.int res.1)) res.2 V) {p1 : Int32} {p2 : Int32} {w : Wd} (h : f_X9_changes p1 p2 w = some res) : V w 0 [(0, .ref (G.2 100)), (1, .int p1), (2, .int p2)] [] := by
  unfold f_X9_changes at h
  refine r_iload_n (pc := 0) C dX9_changes_0 rfl 1 rfl ?_
  refine cv_X9_228 (pc := 1) C dX9_changes_1  h (by decide) (Nat.le_of_ble_eq_true rfl) (fun q1 h => ?_)
  refine r_if_eq (pc := 4) C 15 dX9_changes_4 (by decide) h (fun h => ?_) (fun h => ?_)
  · exact r_sub C [0] rfl (b_X9_changes_15 C h)
  · refine r_aload_n (pc := 7) C dX9_changes_7 rfl 0 rfl ?_
    refine r_iload_n (pc := 8) C dX9_changes_8 rfl 2 rfl ?_
    refine cv_X9_107 (pc := 9) C dX9_changes_9  h (by decide) (Nat.le_of_ble_eq_true rfl) (fun q2 h => ?_)
    refine r_if_ne (pc := 12) C 22 dX9_changes_12 (by decide) h (fun h => ?_) (fun h => ?_)
    · refine r_aload_n (pc := 22) C dX9_changes_22 rfl 0 rfl ?_
      refine gr_X9_37 (pc := 23) 110 C dX9_changes_23 kx_100 rfl ?_
      refine r_iload_n (pc := 26) C dX9_changes_26 rfl 1 rfl ?_
      refine r_ald (pc := 27) C dX9_changes_27 h kx_110 (fun v3 h => ?_)
      refine r_if_eq (pc := 28) C 46 dX9_changes_28 (by decide) h (fun h => ?_) (fun h => ?_)
      · exact r_sub C [0] rfl (b_X9_changes_46 C h)
      · refine r_aload_n (pc := 31) C dX9_changes_31 rfl 0 rfl ?_
        refine gr_X9_40 (pc := 32) 111 C dX9_changes_32 kx_100 rfl ?_
        refine r_iload_n (pc := 35) C dX9_changes_35 rfl 1 rfl ?_
        refine r_ald (pc := 36) C dX9_changes_36 h kx_111 (fun v4 h => ?_)
        refine r_aload_n (pc := 37) C dX9_changes_37 rfl 0 rfl ?_
        refine gr_X9_7 (pc := 38) 101 C dX9_changes_38 kx_100 rfl ?_
        refine r_iconst (v := (3:Int32)) (pc := 41) C dX9_changes_41 (by decide) ?_
        refine r_ald (pc := 42) C dX9_changes_42 h kx_101 (fun v5 h => ?_)
        refine r_icmp_eq (pc := 43) C 53 dX9_changes_43 (by decide) h (fun h => ?_) (fun h => ?_)
        · refine r_iconst (v := (-1:Int32)) (pc := 53) C dX9_changes_53 (by decide) ?_
          refine r_istore_n (L' := [(3, .int (-1:Int32)), (0, .ref (G.2 100)), (1, .int p1), (2, .int p2)]) (pc := 54) C dX9_changes_54 rfl (by decide) rfl ?_
          refine r_aload_n (pc := 55) C dX9_changes_55 rfl 1 rfl ?_
          refine cv_X9_203 (pc := 56) C dX9_changes_56  h (by decide) (Nat.le_of_ble_eq_true rfl) (fun q6 h => ?_)
          refine r_istore (L' := [(4, .int q6.1), (3, .int (-1:Int32)), (0, .ref (G.2 100)), (1, .int p1), (2, .int p2)]) (pc := 59) C dX9_changes_59 (by decide) rfl ?_
          exact r_sub C [2, 3, 4, 1, 0] rfl (b_X9_changes_61 C _ _ _ _ _ h)
        · exact r_sub C [0] rfl (b_X9_changes_46 C h)
    · exact r_sub C [0] rfl (b_X9_changes_15 C h)
theorem c_X9_changes {G : Gv} {p1 : Int32} {p2 : Int32} {w : Wd} {res : Int32 × Wd} (h : f_X9_changes p1 p2 w = some res) (l : Launch) : MC l yX9_changes cX9_changes 8 (some FieldType.int) 7 G SM w [.ref (G.2 100), .int p1, .int p2] (some (.int res.1)) res.2 := mc_of (by decide +kernel) rfl (Nat.le_of_ble_eq_true rfl) rfl (fun V C => b_X9_changes_E C h) l
def f_X9_fits_241 (x2 : Int32) (x3 : Int32) (w : Wd) : Option (Int32 × Wd) := (if 0 ≤ x2 then ald w 107 5 x2 (fun v1 => some (v1, w)) else some (x3, w))
set_option maxRecDepth 20000 in
theorem b_X9_fits_241 {G : Gv} {V : Vt} {res : Int32 × Wd}  (C : CX cX9_fits RX9 G SM 7 108 (some FieldType.int) (some (.int res.1)) res.2 V) {x2 : Int32} {x3 : Int32} {w : Wd} (h : f_X9_fits_241 x2 x3 w = some res) : V w 241 [(0, .ref (G.2 100)), (2, .int x2), (3, .int x3)] [] := by
  unfold f_X9_fits_241 at h
  refine r_iload_n (pc := 241) C dX9_fits_241 rfl 1 rfl ?_
  refine r_if_ge (pc := 242) C 249 dX9_fits_242 (by decide) h (fun h => ?_) (fun h => ?_)
  · refine r_aload_n (pc := 249) C dX9_fits_249 rfl 0 rfl ?_
    refine gr_X9_28 (pc := 250) 107 C dX9_fits_250 kx_100 rfl ?_
    refine r_iload_n (pc := 253) C dX9_fits_253 rfl 1 rfl ?_
    refine r_ald (pc := 254) C dX9_fits_254 h kx_107 (fun v1 h => ?_)
    exact r_iretE (pc := 255) C dX9_fits_255 h
  · refine r_iload_n (pc := 245) C dX9_fits_245 rfl 2 rfl ?_
    refine r_goto (pc := 246) C 255 dX9_fits_246 (by decide) ?_
    exact r_iretE (pc := 255) C dX9_fits_255 h
def f_X9_fits_226 (x2 : Int32) (x3 : Int32) (w : Wd) : Option (Int32 × Wd) := (if x2 < 0 then f_X9_fits_241 x2 x3 w else (if ¬ x3 = 0 then f_X9_fits_241 x2 x3 w else bd (f_X9_errs (-1000000002:Int32) w) (fun q1 => some (q1.1, q1.2))))
set_option maxRecDepth 20000 in
theorem b_X9_fits_226 {G : Gv} {V : Vt} {res : Int32 × Wd}  (C : CX cX9_fits RX9 G SM 7 108 (some FieldType.int) (some (.int res.1)) res.2 V) {x2 : Int32} {x3 : Int32} {w : Wd} (h : f_X9_fits_226 x2 x3 w = some res) : V w 226 [(0, .ref (G.2 100)), (2, .int x2), (3, .int x3)] [] := by
  unfold f_X9_fits_226 at h
  refine r_iload_n (pc := 226) C dX9_fits_226 rfl 1 rfl ?_
  refine r_if_lt (pc := 227) C 241 dX9_fits_227 (by decide) h (fun h => ?_) (fun h => ?_)
  · exact r_sub C [0, 1, 2] rfl (b_X9_fits_241 C h)
  · refine r_iload_n (pc := 230) C dX9_fits_230 rfl 2 rfl ?_
    refine r_if_ne (pc := 231) C 241 dX9_fits_231 (by decide) h (fun h => ?_) (fun h => ?_)
    · exact r_sub C [0, 1, 2] rfl (b_X9_fits_241 C h)
    · refine r_aload_n (pc := 234) C dX9_fits_234 rfl 0 rfl ?_
      refine r_ldc (pc := 235) C dX9_fits_235 qk_X9_218 ?_
      refine cv_X9_62 (pc := 237) C dX9_fits_237  h (by decide) (Nat.le_of_ble_eq_true rfl) (fun q1 h => ?_)
      exact r_iretE (pc := 240) C dX9_fits_240 h
def f_X9_fits_215 (rec82 : Int32 → Int32 → Int32 → Int32 → Wd → Option (Int32 × Wd)) (x1 : Int32) (x2 : Int32) (t0 : Int32) (t1 : Int32) (w : Wd) : Option (Int32 × Wd) := lv (t1 + t0) (fun v1 => bd (f_X9_isNext w) (fun q2 => rec82 x1 x2 v1 q2.1 q2.2))
set_option maxRecDepth 20000 in
theorem b_X9_fits_215 {G : Gv} {V : Vt} {rec82 : Int32 → Int32 → Int32 → Int32 → Wd → Option (Int32 × Wd)} {res : Int32 × Wd}  (C : CX cX9_fits RX9 G SM 7 108 (some FieldType.int) (some (.int res.1)) res.2 V) (hrec82 : ∀ (x1 : Int32) (x2 : Int32) (x3 : Int32) (x4 : Int32) (w : Wd), rec82 x1 x2 x3 x4 w = some res → V w 82 [(0, .ref (G.2 100)), (1, .int x1), (2, .int x2), (3, .int x3), (4, .int x4)] []) {x1 : Int32} {x2 : Int32} {t0 : Int32} {t1 : Int32} {w : Wd} (h : f_X9_fits_215 rec82 x1 x2 t0 t1 w = some res) : V w 215 [(0, .ref (G.2 100)), (1, .int x1), (2, .int x2)] [.int t0, .int t1] := by
  unfold f_X9_fits_215 at h
  refine r_iadd (pc := 215) C dX9_fits_215 ?_
  refine r_lv h (fun v1 h => ?_)
  refine r_istore_n (L' := [(3, .int v1), (0, .ref (G.2 100)), (1, .int x1), (2, .int x2)]) (pc := 216) C dX9_fits_216 rfl (by decide) rfl ?_
  refine r_aload_n (pc := 217) C dX9_fits_217 rfl 1 rfl ?_
  refine cv_X9_219 (pc := 218) C dX9_fits_218  h (by decide) (Nat.le_of_ble_eq_true rfl) (fun q2 h => ?_)
  refine r_istore (L' := [(4, .int q2.1), (3, .int v1), (0, .ref (G.2 100)), (1, .int x1), (2, .int x2)]) (pc := 221) C dX9_fits_221 (by decide) rfl ?_
  refine r_goto (pc := 223) C 82 dX9_fits_223 (by decide) ?_
  exact r_sub C [2, 3, 4, 1, 0] rfl (hrec82 _ _ _ _ _ h)
def f_X9_fits_204 (rec82 : Int32 → Int32 → Int32 → Int32 → Wd → Option (Int32 × Wd)) (x1 : Int32) (x2 : Int32) (x3 : Int32) (x5 : Int32) (w : Wd) : Option (Int32 × Wd) := (if x5 = 0 then f_X9_fits_215 rec82 x1 x2 (0:Int32) x3 w else f_X9_fits_215 rec82 x1 x2 (1:Int32) x3 w)
set_option maxRecDepth 20000 in
theorem b_X9_fits_204 {G : Gv} {V : Vt} {rec82 : Int32 → Int32 → Int32 → Int32 → Wd → Option (Int32 × Wd)} {res : Int32 × Wd}  (C : CX cX9_fits RX9 G SM 7 108 (some FieldType.int) (some (.int res.1)) res.2 V) (hrec82 : ∀ (x1 : Int32) (x2 : Int32) (x3 : Int32) (x4 : Int32) (w : Wd), rec82 x1 x2 x3 x4 w = some res → V w 82 [(0, .ref (G.2 100)), (1, .int x1), (2, .int x2), (3, .int x3), (4, .int x4)] []) {x1 : Int32} {x2 : Int32} {x3 : Int32} {x5 : Int32} {w : Wd} (h : f_X9_fits_204 rec82 x1 x2 x3 x5 w = some res) : V w 204 [(0, .ref (G.2 100)), (1, .int x1), (2, .int x2), (3, .int x3), (5, .int x5)] [] := by
  unfold f_X9_fits_204 at h
  refine r_iload_n (pc := 204) C dX9_fits_204 rfl 3 rfl ?_
  refine r_iload (pc := 205) C dX9_fits_205 4 rfl ?_
  refine r_if_eq (pc := 207) C 214 dX9_fits_207 (by decide) h (fun h => ?_) (fun h => ?_)
  · refine r_iconst (v := (0:Int32)) (pc := 214) C dX9_fits_214 (by decide) ?_
    exact r_sub C [0, 1, 2] rfl (b_X9_fits_215 C hrec82 h)
  · refine r_iconst (v := (1:Int32)) (pc := 210) C dX9_fits_210 (by decide) ?_
    refine r_goto (pc := 211) C 215 dX9_fits_211 (by decide) ?_
    exact r_sub C [0, 1, 2] rfl (b_X9_fits_215 C hrec82 h)
def fb_X9_fits_164 (rec82 : Int32 → Int32 → Int32 → Int32 → Wd → Option (Int32 × Wd)) (rec164 : Int32 → Int32 → Int32 → Int32 → Int32 → Wd → Option (Int32 × Wd)) (x1 : Int32) (x2 : Int32) (x3 : Int32) (x5 : Int32) (x6 : Int32) (w : Wd) : Option (Int32 × Wd) := ald w 101 229 (3:Int32) (fun v1 => (if v1 ≤ x6 then f_X9_fits_204 rec82 x1 x2 x3 x5 w else (if x5 = 0 then f_X9_fits_204 rec82 x1 x2 x3 x5 w else (if ¬ x3 = 0 then f_X9_fits_204 rec82 x1 x2 x3 x5 w else ald w 106 5 x6 (fun v2 => ast w 107 5 x6 v2 (fun w3 => rec164 x1 x2 x3 x5 (x6 + (1:Int32)) w3))))))
set_option maxRecDepth 20000 in
theorem bb_X9_fits_164 {G : Gv} {V : Vt} {rec82 : Int32 → Int32 → Int32 → Int32 → Wd → Option (Int32 × Wd)} {rec164 : Int32 → Int32 → Int32 → Int32 → Int32 → Wd → Option (Int32 × Wd)} {res : Int32 × Wd}  (C : CX cX9_fits RX9 G SM 7 108 (some FieldType.int) (some (.int res.1)) res.2 V) (hrec82 : ∀ (x1 : Int32) (x2 : Int32) (x3 : Int32) (x4 : Int32) (w : Wd), rec82 x1 x2 x3 x4 w = some res → V w 82 [(0, .ref (G.2 100)), (1, .int x1), (2, .int x2), (3, .int x3), (4, .int x4)] []) (hrec164 : ∀ (x1 : Int32) (x2 : Int32) (x3 : Int32) (x5 : Int32) (x6 : Int32) (w : Wd), rec164 x1 x2 x3 x5 x6 w = some res → V w 164 [(0, .ref (G.2 100)), (1, .int x1), (2, .int x2), (3, .int x3), (5, .int x5), (6, .int x6)] []) {x1 : Int32} {x2 : Int32} {x3 : Int32} {x5 : Int32} {x6 : Int32} {w : Wd} (h : fb_X9_fits_164 rec82 rec164 x1 x2 x3 x5 x6 w = some res) : V w 164 [(0, .ref (G.2 100)), (1, .int x1), (2, .int x2), (3, .int x3), (5, .int x5), (6, .int x6)] [] := by
  unfold fb_X9_fits_164 at h
  refine r_iload (pc := 164) C dX9_fits_164 5 rfl ?_
  refine r_aload_n (pc := 166) C dX9_fits_166 rfl 0 rfl ?_
  refine gr_X9_7 (pc := 167) 101 C dX9_fits_167 kx_100 rfl ?_
  refine r_iconst (v := (3:Int32)) (pc := 170) C dX9_fits_170 (by decide) ?_
  refine r_ald (pc := 171) C dX9_fits_171 h kx_101 (fun v1 h => ?_)
  refine r_icmp_ge (pc := 172) C 204 dX9_fits_172 (by decide) h (fun h => ?_) (fun h => ?_)
  · exact r_sub C [0, 1, 2, 3, 4] rfl (b_X9_fits_204 C hrec82 h)
  · refine r_iload (pc := 175) C dX9_fits_175 4 rfl ?_
    refine r_if_eq (pc := 177) C 204 dX9_fits_177 (by decide) h (fun h => ?_) (fun h => ?_)
    · exact r_sub C [0, 1, 2, 3, 4] rfl (b_X9_fits_204 C hrec82 h)
    · refine r_iload_n (pc := 180) C dX9_fits_180 rfl 3 rfl ?_
      refine r_if_ne (pc := 181) C 204 dX9_fits_181 (by decide) h (fun h => ?_) (fun h => ?_)
      · exact r_sub C [0, 1, 2, 3, 4] rfl (b_X9_fits_204 C hrec82 h)
      · refine r_aload_n (pc := 184) C dX9_fits_184 rfl 0 rfl ?_
        refine gr_X9_28 (pc := 185) 107 C dX9_fits_185 kx_100 rfl ?_
        refine r_iload (pc := 188) C dX9_fits_188 5 rfl ?_
        refine r_aload_n (pc := 190) C dX9_fits_190 rfl 0 rfl ?_
        refine gr_X9_25 (pc := 191) 106 C dX9_fits_191 kx_100 rfl ?_
        refine r_iload (pc := 194) C dX9_fits_194 5 rfl ?_
        refine r_ald (pc := 196) C dX9_fits_196 h kx_106 (fun v2 h => ?_)
        refine r_ast (pc := 197) C dX9_fits_197 h kx_107 (fun w3 h => ?_)
        refine r_iinc (v := (x6 + (1:Int32))) (L' := [(6, .int (x6 + (1:Int32))), (0, .ref (G.2 100)), (1, .int x1), (2, .int x2), (3, .int x3), (5, .int x5)]) (pc := 198) C dX9_fits_198 5 rfl rfl (by decide) rfl ?_
        refine r_goto (pc := 201) C 164 dX9_fits_201 (by decide) ?_
        exact r_sub C [1, 2, 3, 4, 5, 0] rfl (hrec164 _ _ _ _ _ _ h)
def f_X9_fits_164 (rec82 : Int32 → Int32 → Int32 → Int32 → Wd → Option (Int32 × Wd)) : Int32 → Int32 → Int32 → Int32 → Int32 → Wd → Option (Int32 × Wd) := lp (fun _ _ _ _ _ _ => none) (fun rec => fb_X9_fits_164 rec82 rec) FU
theorem b_X9_fits_164 {G : Gv} {V : Vt} {rec82 : Int32 → Int32 → Int32 → Int32 → Wd → Option (Int32 × Wd)} {res : Int32 × Wd}  (C : CX cX9_fits RX9 G SM 7 108 (some FieldType.int) (some (.int res.1)) res.2 V) (hrec82 : ∀ (x1 : Int32) (x2 : Int32) (x3 : Int32) (x4 : Int32) (w : Wd), rec82 x1 x2 x3 x4 w = some res → V w 82 [(0, .ref (G.2 100)), (1, .int x1), (2, .int x2), (3, .int x3), (4, .int x4)] []) : ∀ (x1 : Int32) (x2 : Int32) (x3 : Int32) (x5 : Int32) (x6 : Int32) (w : Wd), (f_X9_fits_164 rec82) x1 x2 x3 x5 x6 w = some res → V w 164 [(0, .ref (G.2 100)), (1, .int x1), (2, .int x2), (3, .int x3), (5, .int x5), (6, .int x6)] [] :=
  lp_ind (P := fun (g : Int32 → Int32 → Int32 → Int32 → Int32 → Wd → Option (Int32 × Wd)) => ∀ (x1 : Int32) (x2 : Int32) (x3 : Int32) (x5 : Int32) (x6 : Int32) (w : Wd), g x1 x2 x3 x5 x6 w = some res → V w 164 [(0, .ref (G.2 100)), (1, .int x1), (2, .int x2), (3, .int x3), (5, .int x5), (6, .int x6)] []) (fun _ _ _ _ _ _ h => by cases h) (fun g hg _ _ _ _ _ _ h => bb_X9_fits_164 C hrec82 hg h) FU
def f_X9_fits_149 (rec82 : Int32 → Int32 → Int32 → Int32 → Wd → Option (Int32 × Wd)) (x1 : Int32) (x2 : Int32) (x3 : Int32) (x5 : Int32) (w : Wd) : Option (Int32 × Wd) := bd (f_X9_moveAll 103 101 w) (fun q1 => f_X9_fits_164 rec82 x1 x2 x3 x5 (0:Int32) q1)
set_option maxRecDepth 20000 in
theorem b_X9_fits_149 {G : Gv} {V : Vt} {rec82 : Int32 → Int32 → Int32 → Int32 → Wd → Option (Int32 × Wd)} {res : Int32 × Wd}  (C : CX cX9_fits RX9 G SM 7 108 (some FieldType.int) (some (.int res.1)) res.2 V) (hrec82 : ∀ (x1 : Int32) (x2 : Int32) (x3 : Int32) (x4 : Int32) (w : Wd), rec82 x1 x2 x3 x4 w = some res → V w 82 [(0, .ref (G.2 100)), (1, .int x1), (2, .int x2), (3, .int x3), (4, .int x4)] []) {x1 : Int32} {x2 : Int32} {x3 : Int32} {x5 : Int32} {w : Wd} (h : f_X9_fits_149 rec82 x1 x2 x3 x5 w = some res) : V w 149 [(0, .ref (G.2 100)), (1, .int x1), (2, .int x2), (3, .int x3), (5, .int x5)] [] := by
  unfold f_X9_fits_149 at h
  refine r_aload_n (pc := 149) C dX9_fits_149 rfl 0 rfl ?_
  refine r_aload_n (pc := 150) C dX9_fits_150 rfl 0 rfl ?_
  refine gr_X9_16 (pc := 151) 103 C dX9_fits_151 kx_100 rfl ?_
  refine r_aload_n (pc := 154) C dX9_fits_154 rfl 0 rfl ?_
  refine gr_X9_7 (pc := 155) 101 C dX9_fits_155 kx_100 rfl ?_
  refine cv_X9_186 (pc := 158) C dX9_fits_158 isAm_103 isAm_101 h (by decide) (Nat.le_of_ble_eq_true rfl) (fun q1 h => ?_)
  refine r_iconst (v := (0:Int32)) (pc := 161) C dX9_fits_161 (by decide) ?_
  refine r_istore (L' := [(6, .int (0:Int32)), (0, .ref (G.2 100)), (1, .int x1), (2, .int x2), (3, .int x3), (5, .int x5)]) (pc := 162) C dX9_fits_162 (by decide) rfl ?_
  exact r_sub C [1, 2, 3, 4, 5, 0] rfl (b_X9_fits_164 C hrec82 _ _ _ _ _ _ h)
def f_X9_fits_141 (rec82 : Int32 → Int32 → Int32 → Int32 → Wd → Option (Int32 × Wd)) (rec97 : Int32 → Int32 → Int32 → Int32 → Int32 → Wd → Option (Int32 × Wd)) (x1 : Int32) (x2 : Int32) (x3 : Int32) (x6 : Int32) (t0 : Int32) (w : Wd) : Option (Int32 × Wd) := rec97 x1 x2 x3 t0 (x6 + (1:Int32)) w
set_option maxRecDepth 20000 in
theorem b_X9_fits_141 {G : Gv} {V : Vt} {rec82 : Int32 → Int32 → Int32 → Int32 → Wd → Option (Int32 × Wd)} {rec97 : Int32 → Int32 → Int32 → Int32 → Int32 → Wd → Option (Int32 × Wd)} {res : Int32 × Wd}  (C : CX cX9_fits RX9 G SM 7 108 (some FieldType.int) (some (.int res.1)) res.2 V) (hrec82 : ∀ (x1 : Int32) (x2 : Int32) (x3 : Int32) (x4 : Int32) (w : Wd), rec82 x1 x2 x3 x4 w = some res → V w 82 [(0, .ref (G.2 100)), (1, .int x1), (2, .int x2), (3, .int x3), (4, .int x4)] []) (hrec97 : ∀ (x1 : Int32) (x2 : Int32) (x3 : Int32) (x5 : Int32) (x6 : Int32) (w : Wd), rec97 x1 x2 x3 x5 x6 w = some res → V w 97 [(0, .ref (G.2 100)), (1, .int x1), (2, .int x2), (3, .int x3), (5, .int x5), (6, .int x6)] []) {x1 : Int32} {x2 : Int32} {x3 : Int32} {x6 : Int32} {t0 : Int32} {w : Wd} (h : f_X9_fits_141 rec82 rec97 x1 x2 x3 x6 t0 w = some res) : V w 141 [(0, .ref (G.2 100)), (1, .int x1), (2, .int x2), (3, .int x3), (6, .int x6)] [.int t0] := by
  unfold f_X9_fits_141 at h
  refine r_istore (L' := [(5, .int t0), (0, .ref (G.2 100)), (1, .int x1), (2, .int x2), (3, .int x3), (6, .int x6)]) (pc := 141) C dX9_fits_141 (by decide) rfl ?_
  refine r_iinc (v := (x6 + (1:Int32))) (L' := [(6, .int (x6 + (1:Int32))), (5, .int t0), (0, .ref (G.2 100)), (1, .int x1), (2, .int x2), (3, .int x3)]) (pc := 143) C dX9_fits_143 5 rfl rfl (by decide) rfl ?_
  refine r_goto (pc := 146) C 97 dX9_fits_146 (by decide) ?_
  exact r_sub C [2, 3, 4, 5, 1, 0] rfl (hrec97 _ _ _ _ _ _ h)
def f_X9_fits_140 (rec82 : Int32 → Int32 → Int32 → Int32 → Wd → Option (Int32 × Wd)) (rec97 : Int32 → Int32 → Int32 → Int32 → Int32 → Wd → Option (Int32 × Wd)) (x1 : Int32) (x2 : Int32) (x3 : Int32) (x6 : Int32) (w : Wd) : Option (Int32 × Wd) := f_X9_fits_141 rec82 rec97 x1 x2 x3 x6 (0:Int32) w
set_option maxRecDepth 20000 in
theorem b_X9_fits_140 {G : Gv} {V : Vt} {rec82 : Int32 → Int32 → Int32 → Int32 → Wd → Option (Int32 × Wd)} {rec97 : Int32 → Int32 → Int32 → Int32 → Int32 → Wd → Option (Int32 × Wd)} {res : Int32 × Wd}  (C : CX cX9_fits RX9 G SM 7 108 (some FieldType.int) (some (.int res.1)) res.2 V) (hrec82 : ∀ (x1 : Int32) (x2 : Int32) (x3 : Int32) (x4 : Int32) (w : Wd), rec82 x1 x2 x3 x4 w = some res → V w 82 [(0, .ref (G.2 100)), (1, .int x1), (2, .int x2), (3, .int x3), (4, .int x4)] []) (hrec97 : ∀ (x1 : Int32) (x2 : Int32) (x3 : Int32) (x5 : Int32) (x6 : Int32) (w : Wd), rec97 x1 x2 x3 x5 x6 w = some res → V w 97 [(0, .ref (G.2 100)), (1, .int x1), (2, .int x2), (3, .int x3), (5, .int x5), (6, .int x6)] []) {x1 : Int32} {x2 : Int32} {x3 : Int32} {x6 : Int32} {w : Wd} (h : f_X9_fits_140 rec82 rec97 x1 x2 x3 x6 w = some res) : V w 140 [(0, .ref (G.2 100)), (1, .int x1), (2, .int x2), (3, .int x3), (6, .int x6)] [] := by
  unfold f_X9_fits_140 at h
  refine r_iconst (v := (0:Int32)) (pc := 140) C dX9_fits_140 (by decide) ?_
  exact r_sub C [0, 1, 2, 3, 4] rfl (b_X9_fits_141 C hrec82 hrec97 h)
def fb_X9_fits_97 (rec82 : Int32 → Int32 → Int32 → Int32 → Wd → Option (Int32 × Wd)) (rec97 : Int32 → Int32 → Int32 → Int32 → Int32 → Wd → Option (Int32 × Wd)) (x1 : Int32) (x2 : Int32) (x3 : Int32) (x5 : Int32) (x6 : Int32) (w : Wd) : Option (Int32 × Wd) := ald w 101 229 (8:Int32) (fun v1 => (if v1 ≤ x6 then f_X9_fits_149 rec82 x1 x2 x3 x5 w else (if x5 = 0 then f_X9_fits_140 rec82 rec97 x1 x2 x3 x6 w else bd (f_X9_of w x6 (3:Int32)) (fun q2 => ald w 112 160 (((40:Int32) * x1) + x6) (fun v3 => (if ¬ q2 = v3 then f_X9_fits_140 rec82 rec97 x1 x2 x3 x6 w else f_X9_fits_141 rec82 rec97 x1 x2 x3 x6 (1:Int32) w))))))
set_option maxRecDepth 20000 in
theorem bb_X9_fits_97 {G : Gv} {V : Vt} {rec82 : Int32 → Int32 → Int32 → Int32 → Wd → Option (Int32 × Wd)} {rec97 : Int32 → Int32 → Int32 → Int32 → Int32 → Wd → Option (Int32 × Wd)} {res : Int32 × Wd}  (C : CX cX9_fits RX9 G SM 7 108 (some FieldType.int) (some (.int res.1)) res.2 V) (hrec82 : ∀ (x1 : Int32) (x2 : Int32) (x3 : Int32) (x4 : Int32) (w : Wd), rec82 x1 x2 x3 x4 w = some res → V w 82 [(0, .ref (G.2 100)), (1, .int x1), (2, .int x2), (3, .int x3), (4, .int x4)] []) (hrec97 : ∀ (x1 : Int32) (x2 : Int32) (x3 : Int32) (x5 : Int32) (x6 : Int32) (w : Wd), rec97 x1 x2 x3 x5 x6 w = some res → V w 97 [(0, .ref (G.2 100)), (1, .int x1), (2, .int x2), (3, .int x3), (5, .int x5), (6, .int x6)] []) {x1 : Int32} {x2 : Int32} {x3 : Int32} {x5 : Int32} {x6 : Int32} {w : Wd} (h : fb_X9_fits_97 rec82 rec97 x1 x2 x3 x5 x6 w = some res) : V w 97 [(0, .ref (G.2 100)), (1, .int x1), (2, .int x2), (3, .int x3), (5, .int x5), (6, .int x6)] [] := by
  unfold fb_X9_fits_97 at h
  refine r_iload (pc := 97) C dX9_fits_97 5 rfl ?_
  refine r_aload_n (pc := 99) C dX9_fits_99 rfl 0 rfl ?_
  refine gr_X9_7 (pc := 100) 101 C dX9_fits_100 kx_100 rfl ?_
  refine r_bipush (v := (8:Int32)) (pc := 103) C dX9_fits_103 (by decide) ?_
  refine r_ald (pc := 105) C dX9_fits_105 h kx_101 (fun v1 h => ?_)
  refine r_icmp_ge (pc := 106) C 149 dX9_fits_106 (by decide) h (fun h => ?_) (fun h => ?_)
  · exact r_sub C [0, 1, 2, 3, 4] rfl (b_X9_fits_149 C hrec82 h)
  · refine r_iload (pc := 109) C dX9_fits_109 4 rfl ?_
    refine r_if_eq (pc := 111) C 140 dX9_fits_111 (by decide) h (fun h => ?_) (fun h => ?_)
    · exact r_sub C [0, 1, 2, 3, 5] rfl (b_X9_fits_140 C hrec82 hrec97 h)
    · refine r_aload_n (pc := 114) C dX9_fits_114 rfl 0 rfl ?_
      refine r_iload (pc := 115) C dX9_fits_115 5 rfl ?_
      refine r_iconst (v := (3:Int32)) (pc := 117) C dX9_fits_117 (by decide) ?_
      refine cv_X9_71 (pc := 118) C dX9_fits_118  h (by decide) (Nat.le_of_ble_eq_true rfl) (fun q2 h => ?_)
      refine r_aload_n (pc := 121) C dX9_fits_121 rfl 0 rfl ?_
      refine gr_X9_43 (pc := 122) 112 C dX9_fits_122 kx_100 rfl ?_
      refine r_bipush (v := (40:Int32)) (pc := 125) C dX9_fits_125 (by decide) ?_
      refine r_iload_n (pc := 127) C dX9_fits_127 rfl 1 rfl ?_
      refine r_imul (pc := 128) C dX9_fits_128 ?_
      refine r_iload (pc := 129) C dX9_fits_129 5 rfl ?_
      refine r_iadd (pc := 131) C dX9_fits_131 ?_
      refine r_ald (pc := 132) C dX9_fits_132 h kx_112 (fun v3 h => ?_)
      refine r_icmp_ne (pc := 133) C 140 dX9_fits_133 (by decide) h (fun h => ?_) (fun h => ?_)
      · exact r_sub C [0, 1, 2, 3, 5] rfl (b_X9_fits_140 C hrec82 hrec97 h)
      · refine r_iconst (v := (1:Int32)) (pc := 136) C dX9_fits_136 (by decide) ?_
        refine r_goto (pc := 137) C 141 dX9_fits_137 (by decide) ?_
        exact r_sub C [0, 1, 2, 3, 5] rfl (b_X9_fits_141 C hrec82 hrec97 h)
def f_X9_fits_97 (rec82 : Int32 → Int32 → Int32 → Int32 → Wd → Option (Int32 × Wd)) : Int32 → Int32 → Int32 → Int32 → Int32 → Wd → Option (Int32 × Wd) := lp (fun _ _ _ _ _ _ => none) (fun rec => fb_X9_fits_97 rec82 rec) FU
theorem b_X9_fits_97 {G : Gv} {V : Vt} {rec82 : Int32 → Int32 → Int32 → Int32 → Wd → Option (Int32 × Wd)} {res : Int32 × Wd}  (C : CX cX9_fits RX9 G SM 7 108 (some FieldType.int) (some (.int res.1)) res.2 V) (hrec82 : ∀ (x1 : Int32) (x2 : Int32) (x3 : Int32) (x4 : Int32) (w : Wd), rec82 x1 x2 x3 x4 w = some res → V w 82 [(0, .ref (G.2 100)), (1, .int x1), (2, .int x2), (3, .int x3), (4, .int x4)] []) : ∀ (x1 : Int32) (x2 : Int32) (x3 : Int32) (x5 : Int32) (x6 : Int32) (w : Wd), (f_X9_fits_97 rec82) x1 x2 x3 x5 x6 w = some res → V w 97 [(0, .ref (G.2 100)), (1, .int x1), (2, .int x2), (3, .int x3), (5, .int x5), (6, .int x6)] [] :=
  lp_ind (P := fun (g : Int32 → Int32 → Int32 → Int32 → Int32 → Wd → Option (Int32 × Wd)) => ∀ (x1 : Int32) (x2 : Int32) (x3 : Int32) (x5 : Int32) (x6 : Int32) (w : Wd), g x1 x2 x3 x5 x6 w = some res → V w 97 [(0, .ref (G.2 100)), (1, .int x1), (2, .int x2), (3, .int x3), (5, .int x5), (6, .int x6)] []) (fun _ _ _ _ _ _ h => by cases h) (fun g hg _ _ _ _ _ _ h => bb_X9_fits_97 C hrec82 hg h) FU
def fb_X9_fits_82 (rec82 : Int32 → Int32 → Int32 → Int32 → Wd → Option (Int32 × Wd)) (x1 : Int32) (x2 : Int32) (x3 : Int32) (x4 : Int32) (w : Wd) : Option (Int32 × Wd) := (if x4 = 0 then f_X9_fits_226 x2 x3 w else bd (f_X9_nightGoes w) (fun q1 => f_X9_fits_97 rec82 x1 x2 x3 (1:Int32) (0:Int32) q1))
set_option maxRecDepth 20000 in
theorem bb_X9_fits_82 {G : Gv} {V : Vt} {rec82 : Int32 → Int32 → Int32 → Int32 → Wd → Option (Int32 × Wd)} {res : Int32 × Wd}  (C : CX cX9_fits RX9 G SM 7 108 (some FieldType.int) (some (.int res.1)) res.2 V) (hrec82 : ∀ (x1 : Int32) (x2 : Int32) (x3 : Int32) (x4 : Int32) (w : Wd), rec82 x1 x2 x3 x4 w = some res → V w 82 [(0, .ref (G.2 100)), (1, .int x1), (2, .int x2), (3, .int x3), (4, .int x4)] []) {x1 : Int32} {x2 : Int32} {x3 : Int32} {x4 : Int32} {w : Wd} (h : fb_X9_fits_82 rec82 x1 x2 x3 x4 w = some res) : V w 82 [(0, .ref (G.2 100)), (1, .int x1), (2, .int x2), (3, .int x3), (4, .int x4)] [] := by
  unfold fb_X9_fits_82 at h
  refine r_iload (pc := 82) C dX9_fits_82 4 rfl ?_
  refine r_if_eq (pc := 84) C 226 dX9_fits_84 (by decide) h (fun h => ?_) (fun h => ?_)
  · exact r_sub C [0, 2, 3] rfl (b_X9_fits_226 C h)
  · refine r_aload_n (pc := 87) C dX9_fits_87 rfl 0 rfl ?_
    refine cv_X9_207 (pc := 88) C dX9_fits_88  h (by decide) (Nat.le_of_ble_eq_true rfl) (fun q1 h => ?_)
    refine r_iconst (v := (1:Int32)) (pc := 91) C dX9_fits_91 (by decide) ?_
    refine r_istore (L' := [(5, .int (1:Int32)), (0, .ref (G.2 100)), (1, .int x1), (2, .int x2), (3, .int x3), (4, .int x4)]) (pc := 92) C dX9_fits_92 (by decide) rfl ?_
    refine r_iconst (v := (0:Int32)) (pc := 94) C dX9_fits_94 (by decide) ?_
    refine r_istore (L' := [(6, .int (0:Int32)), (5, .int (1:Int32)), (0, .ref (G.2 100)), (1, .int x1), (2, .int x2), (3, .int x3), (4, .int x4)]) (pc := 95) C dX9_fits_95 (by decide) rfl ?_
    exact r_sub C [2, 3, 4, 5, 1, 0] rfl (b_X9_fits_97 C hrec82 _ _ _ _ _ _ h)
def f_X9_fits_82 : Int32 → Int32 → Int32 → Int32 → Wd → Option (Int32 × Wd) := lp (fun _ _ _ _ _ => none) (fun rec => fb_X9_fits_82 rec) FU
theorem b_X9_fits_82 {G : Gv} {V : Vt} {res : Int32 × Wd}  (C : CX cX9_fits RX9 G SM 7 108 (some FieldType.int) (some (.int res.1)) res.2 V) : ∀ (x1 : Int32) (x2 : Int32) (x3 : Int32) (x4 : Int32) (w : Wd), (f_X9_fits_82) x1 x2 x3 x4 w = some res → V w 82 [(0, .ref (G.2 100)), (1, .int x1), (2, .int x2), (3, .int x3), (4, .int x4)] [] :=
  lp_ind (P := fun (g : Int32 → Int32 → Int32 → Int32 → Wd → Option (Int32 × Wd)) => ∀ (x1 : Int32) (x2 : Int32) (x3 : Int32) (x4 : Int32) (w : Wd), g x1 x2 x3 x4 w = some res → V w 82 [(0, .ref (G.2 100)), (1, .int x1), (2, .int x2), (3, .int x3), (4, .int x4)] []) (fun _ _ _ _ _ h => by cases h) (fun g hg _ _ _ _ _ h => bb_X9_fits_82 C hg h) FU
def f_X9_fits_55 (w : Wd) : Option (Int32 × Wd) := bd (f_X9_errs (-1000000002:Int32) w) (fun q1 => some (q1.1, q1.2))
set_option maxRecDepth 20000 in
theorem b_X9_fits_55 {G : Gv} {V : Vt} {res : Int32 × Wd}  (C : CX cX9_fits RX9 G SM 7 108 (some FieldType.int) (some (.int res.1)) res.2 V) {w : Wd} (h : f_X9_fits_55 w = some res) : V w 55 [(0, .ref (G.2 100))] [] := by
  unfold f_X9_fits_55 at h
  refine r_aload_n (pc := 55) C dX9_fits_55 rfl 0 rfl ?_
  refine r_ldc (pc := 56) C dX9_fits_56 qk_X9_218 ?_
  refine cv_X9_62 (pc := 58) C dX9_fits_58  h (by decide) (Nat.le_of_ble_eq_true rfl) (fun q1 h => ?_)
  exact r_iretE (pc := 61) C dX9_fits_61 h
def f_X9_fits_23 (w : Wd) : Option (Int32 × Wd) := bd (f_X9_errs (-1000000001:Int32) w) (fun q1 => some (q1.1, q1.2))
set_option maxRecDepth 20000 in
theorem b_X9_fits_23 {G : Gv} {V : Vt} {res : Int32 × Wd}  (C : CX cX9_fits RX9 G SM 7 108 (some FieldType.int) (some (.int res.1)) res.2 V) {w : Wd} (h : f_X9_fits_23 w = some res) : V w 23 [(0, .ref (G.2 100))] [] := by
  unfold f_X9_fits_23 at h
  refine r_aload_n (pc := 23) C dX9_fits_23 rfl 0 rfl ?_
  refine r_ldc (pc := 24) C dX9_fits_24 qk_X9_61 ?_
  refine cv_X9_62 (pc := 26) C dX9_fits_26  h (by decide) (Nat.le_of_ble_eq_true rfl) (fun q1 h => ?_)
  exact r_iretE (pc := 29) C dX9_fits_29 h
def f_X9_fits (p1 : Int32) (p2 : Int32) (w : Wd) : Option (Int32 × Wd) := bd (f_X9_isSheet p1) (fun q1 => (if q1 = 0 then f_X9_fits_23 w else ald w 101 229 (3:Int32) (fun v2 => bd (f_X9_in p2 (-1:Int32) (v2 - (1:Int32))) (fun q3 => (if ¬ q3 = 0 then ald w 110 4 p1 (fun v4 => (if v4 = 0 then f_X9_fits_55 w else ald w 111 4 p1 (fun v5 => ald w 101 229 (8:Int32) (fun v6 => (if v5 = v6 then bd (f_X9_moveAll 101 103 w) (fun q7 => bd (f_X9_isFirst q7) (fun q8 => f_X9_fits_82 p1 p2 (0:Int32) q8.1 q8.2)) else f_X9_fits_55 w))))) else f_X9_fits_23 w)))))
set_option maxRecDepth 20000 in
theorem b_X9_fits_E {G : Gv} {V : Vt} {res : Int32 × Wd}  (C : CX cX9_fits RX9 G SM 7 108 (some FieldType.int) (some (.int res.1)) res.2 V) {p1 : Int32} {p2 : Int32} {w : Wd} (h : f_X9_fits p1 p2 w = some res) : V w 0 [(0, .ref (G.2 100)), (1, .int p1), (2, .int p2)] [] := by
  unfold f_X9_fits at h
  refine r_iload_n (pc := 0) C dX9_fits_0 rfl 1 rfl ?_
  refine cv_X9_228 (pc := 1) C dX9_fits_1  h (by decide) (Nat.le_of_ble_eq_true rfl) (fun q1 h => ?_)
  refine r_if_eq (pc := 4) C 23 dX9_fits_4 (by decide) h (fun h => ?_) (fun h => ?_)
  · exact r_sub C [0] rfl (b_X9_fits_23 C h)
  · refine r_iload_n (pc := 7) C dX9_fits_7 rfl 2 rfl ?_
    refine r_iconst (v := (-1:Int32)) (pc := 8) C dX9_fits_8 (by decide) ?_
    refine r_aload_n (pc := 9) C dX9_fits_9 rfl 0 rfl ?_
    refine gr_X9_7 (pc := 10) 101 C dX9_fits_10 kx_100 rfl ?_
    refine r_iconst (v := (3:Int32)) (pc := 13) C dX9_fits_13 (by decide) ?_
    refine r_ald (pc := 14) C dX9_fits_14 h kx_101 (fun v2 h => ?_)
    refine r_iconst (v := (1:Int32)) (pc := 15) C dX9_fits_15 (by decide) ?_
    refine r_isub (pc := 16) C dX9_fits_16 ?_
    refine cv_X9_53 (pc := 17) C dX9_fits_17  h (by decide) (Nat.le_of_ble_eq_true rfl) (fun q3 h => ?_)
    refine r_if_ne (pc := 20) C 30 dX9_fits_20 (by decide) h (fun h => ?_) (fun h => ?_)
    · refine r_aload_n (pc := 30) C dX9_fits_30 rfl 0 rfl ?_
      refine gr_X9_37 (pc := 31) 110 C dX9_fits_31 kx_100 rfl ?_
      refine r_iload_n (pc := 34) C dX9_fits_34 rfl 1 rfl ?_
      refine r_ald (pc := 35) C dX9_fits_35 h kx_110 (fun v4 h => ?_)
      refine r_if_eq (pc := 36) C 55 dX9_fits_36 (by decide) h (fun h => ?_) (fun h => ?_)
      · exact r_sub C [0] rfl (b_X9_fits_55 C h)
      · refine r_aload_n (pc := 39) C dX9_fits_39 rfl 0 rfl ?_
        refine gr_X9_40 (pc := 40) 111 C dX9_fits_40 kx_100 rfl ?_
        refine r_iload_n (pc := 43) C dX9_fits_43 rfl 1 rfl ?_
        refine r_ald (pc := 44) C dX9_fits_44 h kx_111 (fun v5 h => ?_)
        refine r_aload_n (pc := 45) C dX9_fits_45 rfl 0 rfl ?_
        refine gr_X9_7 (pc := 46) 101 C dX9_fits_46 kx_100 rfl ?_
        refine r_bipush (v := (8:Int32)) (pc := 49) C dX9_fits_49 (by decide) ?_
        refine r_ald (pc := 51) C dX9_fits_51 h kx_101 (fun v6 h => ?_)
        refine r_icmp_eq (pc := 52) C 62 dX9_fits_52 (by decide) h (fun h => ?_) (fun h => ?_)
        · refine r_iconst (v := (0:Int32)) (pc := 62) C dX9_fits_62 (by decide) ?_
          refine r_istore_n (L' := [(3, .int (0:Int32)), (0, .ref (G.2 100)), (1, .int p1), (2, .int p2)]) (pc := 63) C dX9_fits_63 rfl (by decide) rfl ?_
          refine r_aload_n (pc := 64) C dX9_fits_64 rfl 1 rfl ?_
          refine r_aload_n (pc := 65) C dX9_fits_65 rfl 1 rfl ?_
          refine gr_X9_7 (pc := 66) 101 C dX9_fits_66 kx_100 rfl ?_
          refine r_aload_n (pc := 69) C dX9_fits_69 rfl 1 rfl ?_
          refine gr_X9_16 (pc := 70) 103 C dX9_fits_70 kx_100 rfl ?_
          refine cv_X9_186 (pc := 73) C dX9_fits_73 isAm_101 isAm_103 h (by decide) (Nat.le_of_ble_eq_true rfl) (fun q7 h => ?_)
          refine r_aload_n (pc := 76) C dX9_fits_76 rfl 1 rfl ?_
          refine cv_X9_203 (pc := 77) C dX9_fits_77  h (by decide) (Nat.le_of_ble_eq_true rfl) (fun q8 h => ?_)
          refine r_istore (L' := [(4, .int q8.1), (3, .int (0:Int32)), (0, .ref (G.2 100)), (1, .int p1), (2, .int p2)]) (pc := 80) C dX9_fits_80 (by decide) rfl ?_
          exact r_sub C [2, 3, 4, 1, 0] rfl (b_X9_fits_82 C _ _ _ _ _ h)
        · exact r_sub C [0] rfl (b_X9_fits_55 C h)
    · exact r_sub C [0] rfl (b_X9_fits_23 C h)
theorem c_X9_fits {G : Gv} {p1 : Int32} {p2 : Int32} {w : Wd} {res : Int32 × Wd} (h : f_X9_fits p1 p2 w = some res) (l : Launch) : MC l yX9_fits cX9_fits 7 (some FieldType.int) 108 G SM w [.ref (G.2 100), .int p1, .int p2] (some (.int res.1)) res.2 := mc_of (by decide +kernel) rfl (Nat.le_of_ble_eq_true rfl) rfl (fun V C => b_X9_fits_E C h) l
def f_X9_wrong_64 (x1 : Int32) (x2 : Int32) (w : Wd) : Option (Int32 × Wd) := ald w 101 229 (3:Int32) (fun v1 => (if ¬ x2 = v1 then some (x2, w) else ald w 111 4 x1 (fun v2 => (if ¬ x2 = v2 then some (x2, w) else some ((-1:Int32), w)))))
set_option maxRecDepth 20000 in
theorem b_X9_wrong_64 {G : Gv} {V : Vt} {res : Int32 × Wd}  (C : CX cX9_wrong RX9 G SM 3 5 (some FieldType.int) (some (.int res.1)) res.2 V) {x1 : Int32} {x2 : Int32} {w : Wd} (h : f_X9_wrong_64 x1 x2 w = some res) : V w 64 [(0, .ref (G.2 100)), (1, .int x1), (2, .int x2)] [] := by
  unfold f_X9_wrong_64 at h
  refine r_iload_n (pc := 64) C dX9_wrong_64 rfl 2 rfl ?_
  refine r_aload_n (pc := 65) C dX9_wrong_65 rfl 0 rfl ?_
  refine gr_X9_7 (pc := 66) 101 C dX9_wrong_66 kx_100 rfl ?_
  refine r_iconst (v := (3:Int32)) (pc := 69) C dX9_wrong_69 (by decide) ?_
  refine r_ald (pc := 70) C dX9_wrong_70 h kx_101 (fun v1 h => ?_)
  refine r_icmp_ne (pc := 71) C 88 dX9_wrong_71 (by decide) h (fun h => ?_) (fun h => ?_)
  · refine r_iload_n (pc := 88) C dX9_wrong_88 rfl 2 rfl ?_
    exact r_iretE (pc := 89) C dX9_wrong_89 h
  · refine r_iload_n (pc := 74) C dX9_wrong_74 rfl 2 rfl ?_
    refine r_aload_n (pc := 75) C dX9_wrong_75 rfl 0 rfl ?_
    refine gr_X9_40 (pc := 76) 111 C dX9_wrong_76 kx_100 rfl ?_
    refine r_iload_n (pc := 79) C dX9_wrong_79 rfl 1 rfl ?_
    refine r_ald (pc := 80) C dX9_wrong_80 h kx_111 (fun v2 h => ?_)
    refine r_icmp_ne (pc := 81) C 88 dX9_wrong_81 (by decide) h (fun h => ?_) (fun h => ?_)
    · refine r_iload_n (pc := 88) C dX9_wrong_88 rfl 2 rfl ?_
      exact r_iretE (pc := 89) C dX9_wrong_89 h
    · refine r_iconst (v := (-1:Int32)) (pc := 84) C dX9_wrong_84 (by decide) ?_
      refine r_goto (pc := 85) C 89 dX9_wrong_85 (by decide) ?_
      exact r_iretE (pc := 89) C dX9_wrong_89 h
def fb_X9_wrong_2 (rec2 : Int32 → Int32 → Wd → Option (Int32 × Wd)) (x1 : Int32) (x2 : Int32) (w : Wd) : Option (Int32 × Wd) := ald w 101 229 (3:Int32) (fun v1 => (if v1 ≤ x2 then f_X9_wrong_64 x1 x2 w else ald w 111 4 x1 (fun v2 => (if v2 ≤ x2 then f_X9_wrong_64 x1 x2 w else ald w 112 160 (((40:Int32) * x1) + x2) (fun v3 => bd (f_X9_canBe w x2 v3) (fun q4 => (if q4 = 0 then f_X9_wrong_64 x1 x2 w else ald w 112 160 (((40:Int32) * x1) + x2) (fun v5 => ast w 106 5 x2 v5 (fun w6 => rec2 x1 (x2 + (1:Int32)) w6)))))))))
set_option maxRecDepth 20000 in
theorem bb_X9_wrong_2 {G : Gv} {V : Vt} {rec2 : Int32 → Int32 → Wd → Option (Int32 × Wd)} {res : Int32 × Wd}  (C : CX cX9_wrong RX9 G SM 3 5 (some FieldType.int) (some (.int res.1)) res.2 V) (hrec2 : ∀ (x1 : Int32) (x2 : Int32) (w : Wd), rec2 x1 x2 w = some res → V w 2 [(0, .ref (G.2 100)), (1, .int x1), (2, .int x2)] []) {x1 : Int32} {x2 : Int32} {w : Wd} (h : fb_X9_wrong_2 rec2 x1 x2 w = some res) : V w 2 [(0, .ref (G.2 100)), (1, .int x1), (2, .int x2)] [] := by
  unfold fb_X9_wrong_2 at h
  refine r_iload_n (pc := 2) C dX9_wrong_2 rfl 2 rfl ?_
  refine r_aload_n (pc := 3) C dX9_wrong_3 rfl 0 rfl ?_
  refine gr_X9_7 (pc := 4) 101 C dX9_wrong_4 kx_100 rfl ?_
  refine r_iconst (v := (3:Int32)) (pc := 7) C dX9_wrong_7 (by decide) ?_
  refine r_ald (pc := 8) C dX9_wrong_8 h kx_101 (fun v1 h => ?_)
  refine r_icmp_ge (pc := 9) C 64 dX9_wrong_9 (by decide) h (fun h => ?_) (fun h => ?_)
  · exact r_sub C [0, 1, 2] rfl (b_X9_wrong_64 C h)
  · refine r_iload_n (pc := 12) C dX9_wrong_12 rfl 2 rfl ?_
    refine r_aload_n (pc := 13) C dX9_wrong_13 rfl 0 rfl ?_
    refine gr_X9_40 (pc := 14) 111 C dX9_wrong_14 kx_100 rfl ?_
    refine r_iload_n (pc := 17) C dX9_wrong_17 rfl 1 rfl ?_
    refine r_ald (pc := 18) C dX9_wrong_18 h kx_111 (fun v2 h => ?_)
    refine r_icmp_ge (pc := 19) C 64 dX9_wrong_19 (by decide) h (fun h => ?_) (fun h => ?_)
    · exact r_sub C [0, 1, 2] rfl (b_X9_wrong_64 C h)
    · refine r_aload_n (pc := 22) C dX9_wrong_22 rfl 0 rfl ?_
      refine r_iload_n (pc := 23) C dX9_wrong_23 rfl 2 rfl ?_
      refine r_aload_n (pc := 24) C dX9_wrong_24 rfl 0 rfl ?_
      refine gr_X9_43 (pc := 25) 112 C dX9_wrong_25 kx_100 rfl ?_
      refine r_bipush (v := (40:Int32)) (pc := 28) C dX9_wrong_28 (by decide) ?_
      refine r_iload_n (pc := 30) C dX9_wrong_30 rfl 1 rfl ?_
      refine r_imul (pc := 31) C dX9_wrong_31 ?_
      refine r_iload_n (pc := 32) C dX9_wrong_32 rfl 2 rfl ?_
      refine r_iadd (pc := 33) C dX9_wrong_33 ?_
      refine r_ald (pc := 34) C dX9_wrong_34 h kx_112 (fun v3 h => ?_)
      refine cv_X9_193 (pc := 35) C dX9_wrong_35  h (by decide) (Nat.le_of_ble_eq_true rfl) (fun q4 h => ?_)
      refine r_if_eq (pc := 38) C 64 dX9_wrong_38 (by decide) h (fun h => ?_) (fun h => ?_)
      · exact r_sub C [0, 1, 2] rfl (b_X9_wrong_64 C h)
      · refine r_aload_n (pc := 41) C dX9_wrong_41 rfl 0 rfl ?_
        refine gr_X9_25 (pc := 42) 106 C dX9_wrong_42 kx_100 rfl ?_
        refine r_iload_n (pc := 45) C dX9_wrong_45 rfl 2 rfl ?_
        refine r_aload_n (pc := 46) C dX9_wrong_46 rfl 0 rfl ?_
        refine gr_X9_43 (pc := 47) 112 C dX9_wrong_47 kx_100 rfl ?_
        refine r_bipush (v := (40:Int32)) (pc := 50) C dX9_wrong_50 (by decide) ?_
        refine r_iload_n (pc := 52) C dX9_wrong_52 rfl 1 rfl ?_
        refine r_imul (pc := 53) C dX9_wrong_53 ?_
        refine r_iload_n (pc := 54) C dX9_wrong_54 rfl 2 rfl ?_
        refine r_iadd (pc := 55) C dX9_wrong_55 ?_
        refine r_ald (pc := 56) C dX9_wrong_56 h kx_112 (fun v5 h => ?_)
        refine r_ast (pc := 57) C dX9_wrong_57 h kx_106 (fun w6 h => ?_)
        refine r_iinc (v := (x2 + (1:Int32))) (L' := [(2, .int (x2 + (1:Int32))), (0, .ref (G.2 100)), (1, .int x1)]) (pc := 58) C dX9_wrong_58 2 rfl rfl (by decide) rfl ?_
        refine r_goto (pc := 61) C 2 dX9_wrong_61 (by decide) ?_
        exact r_sub C [1, 2, 0] rfl (hrec2 _ _ _ h)
def f_X9_wrong_2 : Int32 → Int32 → Wd → Option (Int32 × Wd) := lp (fun _ _ _ => none) (fun rec => fb_X9_wrong_2 rec) FU
theorem b_X9_wrong_2 {G : Gv} {V : Vt} {res : Int32 × Wd}  (C : CX cX9_wrong RX9 G SM 3 5 (some FieldType.int) (some (.int res.1)) res.2 V) : ∀ (x1 : Int32) (x2 : Int32) (w : Wd), (f_X9_wrong_2) x1 x2 w = some res → V w 2 [(0, .ref (G.2 100)), (1, .int x1), (2, .int x2)] [] :=
  lp_ind (P := fun (g : Int32 → Int32 → Wd → Option (Int32 × Wd)) => ∀ (x1 : Int32) (x2 : Int32) (w : Wd), g x1 x2 w = some res → V w 2 [(0, .ref (G.2 100)), (1, .int x1), (2, .int x2)] []) (fun _ _ _ h => by cases h) (fun g hg _ _ _ h => bb_X9_wrong_2 C hg h) FU
def f_X9_wrong (p1 : Int32) (w : Wd) : Option (Int32 × Wd) := f_X9_wrong_2 p1 (0:Int32) w
set_option maxRecDepth 20000 in
theorem b_X9_wrong_E {G : Gv} {V : Vt} {res : Int32 × Wd}  (C : CX cX9_wrong RX9 G SM 3 5 (some FieldType.int) (some (.int res.1)) res.2 V) {p1 : Int32} {w : Wd} (h : f_X9_wrong p1 w = some res) : V w 0 [(0, .ref (G.2 100)), (1, .int p1)] [] := by
  unfold f_X9_wrong at h
  refine r_iconst (v := (0:Int32)) (pc := 0) C dX9_wrong_0 (by decide) ?_
  refine r_istore_n (L' := [(2, .int (0:Int32)), (0, .ref (G.2 100)), (1, .int p1)]) (pc := 1) C dX9_wrong_1 rfl (by decide) rfl ?_
  exact r_sub C [1, 2, 0] rfl (b_X9_wrong_2 C _ _ _ h)
theorem c_X9_wrong {G : Gv} {p1 : Int32} {w : Wd} {res : Int32 × Wd} (h : f_X9_wrong p1 w = some res) (l : Launch) : MC l yX9_wrong cX9_wrong 3 (some FieldType.int) 5 G SM w [.ref (G.2 100), .int p1] (some (.int res.1)) res.2 := mc_of (by decide +kernel) rfl (Nat.le_of_ble_eq_true rfl) rfl (fun V C => b_X9_wrong_E C h) l
theorem cv_X9_231 {cc : ByteArray} {G : Gv} {n hc : Nat} {rt : Option FieldType} {rv : Option Value} {w0 : Wd} {V : Vt} {w : Wd} {pc : Nat} {L : List (Nat × Value)} {rest : List Value} {α : Type} {res : α} {p1 : Int32} {K : Int32 × Wd → Option α} (C : CX cc RX9 G SM n hc rt rv w0 V) (hd : decode cc pc = .ok (.invokevirtual 231, 3)) (h : bd (f_X9_wrong p1 w) K = some res) (hR : 5 + 1 ≤ hc) (hr : (rest.map fun v => v.category).sum ≤ 8) (kk : ∀ q, K q = some res → V q.2 (pc + 3) L (.int q.1 :: rest)) : V w pc L (.int p1 :: .ref (G.2 100) :: rest) := r_callV (As := [.int p1]) (rest := rest) (rvf := fun q => (some (.int q.1))) (wf := fun q => q.2) C hd h ql_X9_231 qi_X9_wrong qs_X9_wrong qn_X9 qc_X9_wrong ⟨rfl, by decide +kernel, by decide +kernel, (by decide +kernel : (parseMethodDescriptor yX9_wrong.desc).map (fun d => d.parameters.length) = some 1)⟩ ⟨hR, by decide⟩ kx_100 rfl (fun q hq l => c_X9_wrong hq l) rfl hr kk
def f_X9_cast_50 (w : Wd) : Option (Int32 × Wd) := bd (f_X9_errs (-1000000003:Int32) w) (fun q1 => some (q1.1, q1.2))
set_option maxRecDepth 20000 in
theorem b_X9_cast_50 {G : Gv} {V : Vt} {res : Int32 × Wd}  (C : CX cX9_cast RX9 G SM 2 108 (some FieldType.int) (some (.int res.1)) res.2 V) {w : Wd} (h : f_X9_cast_50 w = some res) : V w 50 [(0, .ref (G.2 100))] [] := by
  unfold f_X9_cast_50 at h
  refine r_aload_n (pc := 50) C dX9_cast_50 rfl 0 rfl ?_
  refine r_ldc (pc := 51) C dX9_cast_51 qk_X9_211 ?_
  refine cv_X9_62 (pc := 53) C dX9_cast_53  h (by decide) (Nat.le_of_ble_eq_true rfl) (fun q1 h => ?_)
  exact r_iretE (pc := 56) C dX9_cast_56 h
def f_X9_cast (p1 : Int32) (w : Wd) : Option (Int32 × Wd) := bd (f_X9_isSheet p1) (fun q1 => (if ¬ q1 = 0 then ald w 110 4 p1 (fun v2 => (if ¬ v2 = 0 then bd (f_X9_wrong p1 w) (fun q3 => (if 0 ≤ q3.1 then f_X9_cast_50 q3.2 else ald q3.2 101 229 (0:Int32) (fun v4 => (if ¬ v4 = (9999:Int32) then bd (f_X9_nightGoes q3.2) (fun q5 => ald q5 101 229 (0:Int32) (fun v6 => some (v6, q5))) else f_X9_cast_50 q3.2)))) else bd (f_X9_errs (-1000000002:Int32) w) (fun q7 => some (q7.1, q7.2)))) else bd (f_X9_errs (-1000000001:Int32) w) (fun q8 => some (q8.1, q8.2))))
set_option maxRecDepth 20000 in
theorem b_X9_cast_E {G : Gv} {V : Vt} {res : Int32 × Wd}  (C : CX cX9_cast RX9 G SM 2 108 (some FieldType.int) (some (.int res.1)) res.2 V) {p1 : Int32} {w : Wd} (h : f_X9_cast p1 w = some res) : V w 0 [(0, .ref (G.2 100)), (1, .int p1)] [] := by
  unfold f_X9_cast at h
  refine r_iload_n (pc := 0) C dX9_cast_0 rfl 1 rfl ?_
  refine cv_X9_228 (pc := 1) C dX9_cast_1  h (by decide) (Nat.le_of_ble_eq_true rfl) (fun q1 h => ?_)
  refine r_if_ne (pc := 4) C 14 dX9_cast_4 (by decide) h (fun h => ?_) (fun h => ?_)
  · refine r_aload_n (pc := 14) C dX9_cast_14 rfl 0 rfl ?_
    refine gr_X9_37 (pc := 15) 110 C dX9_cast_15 kx_100 rfl ?_
    refine r_iload_n (pc := 18) C dX9_cast_18 rfl 1 rfl ?_
    refine r_ald (pc := 19) C dX9_cast_19 h kx_110 (fun v2 h => ?_)
    refine r_if_ne (pc := 20) C 30 dX9_cast_20 (by decide) h (fun h => ?_) (fun h => ?_)
    · refine r_aload_n (pc := 30) C dX9_cast_30 rfl 0 rfl ?_
      refine r_iload_n (pc := 31) C dX9_cast_31 rfl 1 rfl ?_
      refine cv_X9_231 (pc := 32) C dX9_cast_32  h (by decide) (Nat.le_of_ble_eq_true rfl) (fun q3 h => ?_)
      refine r_if_ge (pc := 35) C 50 dX9_cast_35 (by decide) h (fun h => ?_) (fun h => ?_)
      · exact r_sub C [0] rfl (b_X9_cast_50 C h)
      · refine r_aload_n (pc := 38) C dX9_cast_38 rfl 0 rfl ?_
        refine gr_X9_7 (pc := 39) 101 C dX9_cast_39 kx_100 rfl ?_
        refine r_iconst (v := (0:Int32)) (pc := 42) C dX9_cast_42 (by decide) ?_
        refine r_ald (pc := 43) C dX9_cast_43 h kx_101 (fun v4 h => ?_)
        refine r_sipush (v := (9999:Int32)) (pc := 44) C dX9_cast_44 (by decide) ?_
        refine r_icmp_ne (pc := 47) C 57 dX9_cast_47 (by decide) h (fun h => ?_) (fun h => ?_)
        · refine r_aload_n (pc := 57) C dX9_cast_57 rfl 0 rfl ?_
          refine cv_X9_207 (pc := 58) C dX9_cast_58  h (by decide) (Nat.le_of_ble_eq_true rfl) (fun q5 h => ?_)
          refine r_aload_n (pc := 61) C dX9_cast_61 rfl 0 rfl ?_
          refine gr_X9_7 (pc := 62) 101 C dX9_cast_62 kx_100 rfl ?_
          refine r_iconst (v := (0:Int32)) (pc := 65) C dX9_cast_65 (by decide) ?_
          refine r_ald (pc := 66) C dX9_cast_66 h kx_101 (fun v6 h => ?_)
          exact r_iretE (pc := 67) C dX9_cast_67 h
        · exact r_sub C [0] rfl (b_X9_cast_50 C h)
    · refine r_aload_n (pc := 23) C dX9_cast_23 rfl 0 rfl ?_
      refine r_ldc (pc := 24) C dX9_cast_24 qk_X9_218 ?_
      refine cv_X9_62 (pc := 26) C dX9_cast_26  h (by decide) (Nat.le_of_ble_eq_true rfl) (fun q7 h => ?_)
      exact r_iretE (pc := 29) C dX9_cast_29 h
  · refine r_aload_n (pc := 7) C dX9_cast_7 rfl 0 rfl ?_
    refine r_ldc (pc := 8) C dX9_cast_8 qk_X9_61 ?_
    refine cv_X9_62 (pc := 10) C dX9_cast_10  h (by decide) (Nat.le_of_ble_eq_true rfl) (fun q8 h => ?_)
    exact r_iretE (pc := 13) C dX9_cast_13 h
theorem c_X9_cast {G : Gv} {p1 : Int32} {w : Wd} {res : Int32 × Wd} (h : f_X9_cast p1 w = some res) (l : Launch) : MC l yX9_cast cX9_cast 2 (some FieldType.int) 108 G SM w [.ref (G.2 100), .int p1] (some (.int res.1)) res.2 := mc_of (by decide +kernel) rfl (Nat.le_of_ble_eq_true rfl) rfl (fun V C => b_X9_cast_E C h) l
def f_X9_seed (p1 : Int32) (w : Wd) : Option (Int32 × Wd) := ald w 101 229 (2:Int32) (fun v1 => ast w 101 229 (2:Int32) p1 (fun w2 => some (v1, w2)))
set_option maxRecDepth 20000 in
theorem b_X9_seed_E {G : Gv} {V : Vt} {res : Int32 × Wd}  (C : CX cX9_seed RX9 G SM 3 1 (some FieldType.int) (some (.int res.1)) res.2 V) {p1 : Int32} {w : Wd} (h : f_X9_seed p1 w = some res) : V w 0 [(0, .ref (G.2 100)), (1, .int p1)] [] := by
  unfold f_X9_seed at h
  refine r_aload_n (pc := 0) C dX9_seed_0 rfl 0 rfl ?_
  refine gr_X9_7 (pc := 1) 101 C dX9_seed_1 kx_100 rfl ?_
  refine r_iconst (v := (2:Int32)) (pc := 4) C dX9_seed_4 (by decide) ?_
  refine r_ald (pc := 5) C dX9_seed_5 h kx_101 (fun v1 h => ?_)
  refine r_istore_n (L' := [(2, .int v1), (0, .ref (G.2 100)), (1, .int p1)]) (pc := 6) C dX9_seed_6 rfl (by decide) rfl ?_
  refine r_aload_n (pc := 7) C dX9_seed_7 rfl 1 rfl ?_
  refine gr_X9_7 (pc := 8) 101 C dX9_seed_8 kx_100 rfl ?_
  refine r_iconst (v := (2:Int32)) (pc := 11) C dX9_seed_11 (by decide) ?_
  refine r_iload_n (pc := 12) C dX9_seed_12 rfl 2 rfl ?_
  refine r_ast (pc := 13) C dX9_seed_13 h kx_101 (fun w2 h => ?_)
  refine r_iload_n (pc := 14) C dX9_seed_14 rfl 0 rfl ?_
  exact r_iretE (pc := 15) C dX9_seed_15 h
theorem c_X9_seed {G : Gv} {p1 : Int32} {w : Wd} {res : Int32 × Wd} (h : f_X9_seed p1 w = some res) (l : Launch) : MC l yX9_seed cX9_seed 3 (some FieldType.int) 1 G SM w [.ref (G.2 100), .int p1] (some (.int res.1)) res.2 := mc_of (by decide +kernel) rfl (Nat.le_of_ble_eq_true rfl) rfl (fun V C => b_X9_seed_E C h) l
def f_X9_ran (p1 : Int32) (w : Wd) : Option (Wd) := (if (40:Int32) ≤ (w 100 24) then some w else ast w 114 40 (w 100 24) p1 (fun w1 => wl (updW w1 100 24 ((w1 100 24) + (1:Int32))) (fun w2 => some w2)))
set_option maxRecDepth 20000 in
theorem b_X9_ran_E {G : Gv} {V : Vt} {res : Wd}  (C : CX cX9_ran RX9 G SM 2 1 none none res V) {p1 : Int32} {w : Wd} (h : f_X9_ran p1 w = some res) : V w 0 [(0, .ref (G.2 100)), (1, .int p1)] [] := by
  unfold f_X9_ran at h
  refine r_aload_n (pc := 0) C dX9_ran_0 rfl 0 rfl ?_
  refine gi_X9_234 (pc := 1) C dX9_ran_1 kx_100 rfl ?_
  refine r_bipush (v := (40:Int32)) (pc := 4) C dX9_ran_4 (by decide) ?_
  refine r_icmp_ge (pc := 6) C 29 dX9_ran_6 (by decide) h (fun h => ?_) (fun h => ?_)
  · exact r_vretE (pc := 29) C dX9_ran_29 h
  · refine r_aload_n (pc := 9) C dX9_ran_9 rfl 0 rfl ?_
    refine gr_X9_49 (pc := 10) 114 C dX9_ran_10 kx_100 rfl ?_
    refine r_aload_n (pc := 13) C dX9_ran_13 rfl 0 rfl ?_
    refine gi_X9_234 (pc := 14) C dX9_ran_14 kx_100 rfl ?_
    refine r_iload_n (pc := 17) C dX9_ran_17 rfl 1 rfl ?_
    refine r_ast (pc := 18) C dX9_ran_18 h kx_114 (fun w1 h => ?_)
    refine r_aload_n (pc := 19) C dX9_ran_19 rfl 0 rfl ?_
    refine r_dup (pc := 20) C dX9_ran_20 rfl ?_
    refine gi_X9_234 (pc := 21) C dX9_ran_21 kx_100 rfl ?_
    refine r_iconst (v := (1:Int32)) (pc := 24) C dX9_ran_24 (by decide) ?_
    refine r_iadd (pc := 25) C dX9_ran_25 ?_
    refine pi_X9_234 (pc := 26) C dX9_ran_26 kx_100 rfl h (fun w2 h => ?_)
    exact r_vretE (pc := 29) C dX9_ran_29 h
theorem c_X9_ran {G : Gv} {p1 : Int32} {w : Wd} {res : Wd} (h : f_X9_ran p1 w = some res) (l : Launch) : MC l yX9_ran cX9_ran 2 none 1 G SM w [.ref (G.2 100), .int p1] none res := mc_of (by decide +kernel) rfl (Nat.le_of_ble_eq_true rfl) rfl (fun V C => b_X9_ran_E C h) l
theorem cv_X9_237 {cc : ByteArray} {G : Gv} {n hc : Nat} {rt : Option FieldType} {rv : Option Value} {w0 : Wd} {V : Vt} {w : Wd} {pc : Nat} {L : List (Nat × Value)} {rest : List Value} {α : Type} {res : α} {p1 : Int32} {K : Wd → Option α} (C : CX cc RX9 G SM n hc rt rv w0 V) (hd : decode cc pc = .ok (.invokevirtual 237, 3)) (h : bd (f_X9_ran p1 w) K = some res) (hR : 1 + 1 ≤ hc) (hr : (rest.map fun v => v.category).sum ≤ 8) (kk : ∀ q, K q = some res → V q (pc + 3) L (rest)) : V w pc L (.int p1 :: .ref (G.2 100) :: rest) := r_callV (As := [.int p1]) (rest := rest) (rvf := fun q => none) (wf := fun q => q) C hd h ql_X9_237 qi_X9_ran qs_X9_ran qn_X9 qc_X9_ran ⟨rfl, by decide +kernel, by decide +kernel, (by decide +kernel : (parseMethodDescriptor yX9_ran.desc).map (fun d => d.parameters.length) = some 1)⟩ ⟨hR, by decide⟩ kx_100 rfl (fun q hq l => c_X9_ran hq l) rfl hr kk
def fg_X9_speaksIn (g_speaksIn : Int32 → Int32 → Wd → Option (Int32 × Wd)) (p1 : Int32) (p2 : Int32) (w : Wd) : Option (Int32 × Wd) := (if ¬ p1 = 0 then (if ¬ p1 = (2:Int32) then bd (f_X9_above p1) (fun q1 => bd (g_speaksIn q1 p2 w) (fun q2 => some (q2.1, q2.2))) else bd (f_X9_ran (30:Int32) w) (fun q3 => bd (g_speaksIn (0:Int32) p2 q3) (fun q4 => some ((q4.1 * (3:Int32)), q4.2)))) else bd (f_X9_ran (10:Int32) w) (fun q5 => some ((p2 + (q5 100 26)), q5)))
set_option maxRecDepth 20000 in
theorem b_X9_speaksIn_E {G : Gv} {V : Vt} {d : Nat} {g_speaksIn : Int32 → Int32 → Wd → Option (Int32 × Wd)} {res : Int32 × Wd} (hg_speaksIn : ∀ (w : Wd) (p1 : Int32) (p2 : Int32) (r : Int32 × Wd), g_speaksIn p1 p2 w = some r → ∀ l : Launch, MC l yX9_speaksIn cX9_speaksIn 3 (some FieldType.int) (2 + d) G SM w [.ref (G.2 100), .int p1, .int p2] (some (.int r.1)) r.2) (C : CX cX9_speaksIn RX9 G SM 3 (2 + d + 1) (some FieldType.int) (some (.int res.1)) res.2 V) {p1 : Int32} {p2 : Int32} {w : Wd} (h : fg_X9_speaksIn g_speaksIn p1 p2 w = some res) : V w 0 [(0, .ref (G.2 100)), (1, .int p1), (2, .int p2)] [] := by
  unfold fg_X9_speaksIn at h
  refine r_iload_n (pc := 0) C dX9_speaksIn_0 rfl 1 rfl ?_
  refine r_if_ne (pc := 1) C 17 dX9_speaksIn_1 (by decide) h (fun h => ?_) (fun h => ?_)
  · refine r_iload_n (pc := 17) C dX9_speaksIn_17 rfl 1 rfl ?_
    refine r_iconst (v := (2:Int32)) (pc := 18) C dX9_speaksIn_18 (by decide) ?_
    refine r_icmp_ne (pc := 19) C 37 dX9_speaksIn_19 (by decide) h (fun h => ?_) (fun h => ?_)
    · refine r_aload_n (pc := 37) C dX9_speaksIn_37 rfl 0 rfl ?_
      refine r_iload_n (pc := 38) C dX9_speaksIn_38 rfl 1 rfl ?_
      refine cv_X9_93 (pc := 39) C dX9_speaksIn_39  h (by omega) (Nat.le_of_ble_eq_true rfl) (fun q1 h => ?_)
      refine r_iload_n (pc := 42) C dX9_speaksIn_42 rfl 2 rfl ?_
      refine r_callV (As := [.int q1, .int p2]) (rest := []) (rvf := fun q => (some (.int q.1))) (wf := fun q => q.2) (pc := 43) C dX9_speaksIn_43 h ql_X9_244 qi_X9_speaksIn qs_X9_speaksIn qn_X9 qc_X9_speaksIn ⟨rfl, by decide +kernel, by decide +kernel, (by decide +kernel : (parseMethodDescriptor yX9_speaksIn.desc).map (fun d => d.parameters.length) = some 2)⟩ ⟨Nat.le_refl _, by decide⟩ kx_100 rfl (fun q hq l => hg_speaksIn _ _ _ q hq l) rfl (Nat.le_of_ble_eq_true rfl) (fun q2 h => ?_)
      exact r_iretE (pc := 46) C dX9_speaksIn_46 h
    · refine r_aload_n (pc := 22) C dX9_speaksIn_22 rfl 0 rfl ?_
      refine r_bipush (v := (30:Int32)) (pc := 23) C dX9_speaksIn_23 (by decide) ?_
      refine cv_X9_237 (pc := 25) C dX9_speaksIn_25  h (by omega) (Nat.le_of_ble_eq_true rfl) (fun q3 h => ?_)
      refine r_aload_n (pc := 28) C dX9_speaksIn_28 rfl 0 rfl ?_
      refine r_iconst (v := (0:Int32)) (pc := 29) C dX9_speaksIn_29 (by decide) ?_
      refine r_iload_n (pc := 30) C dX9_speaksIn_30 rfl 2 rfl ?_
      refine r_callV (As := [.int (0:Int32), .int p2]) (rest := []) (rvf := fun q => (some (.int q.1))) (wf := fun q => q.2) (pc := 31) C dX9_speaksIn_31 h ql_X9_244 qi_X9_speaksIn qs_X9_speaksIn qn_X9 qc_X9_speaksIn ⟨rfl, by decide +kernel, by decide +kernel, (by decide +kernel : (parseMethodDescriptor yX9_speaksIn.desc).map (fun d => d.parameters.length) = some 2)⟩ ⟨Nat.le_refl _, by decide⟩ kx_100 rfl (fun q hq l => hg_speaksIn _ _ _ q hq l) rfl (Nat.le_of_ble_eq_true rfl) (fun q4 h => ?_)
      refine r_iconst (v := (3:Int32)) (pc := 34) C dX9_speaksIn_34 (by decide) ?_
      refine r_imul (pc := 35) C dX9_speaksIn_35 ?_
      exact r_iretE (pc := 36) C dX9_speaksIn_36 h
  · refine r_aload_n (pc := 4) C dX9_speaksIn_4 rfl 0 rfl ?_
    refine r_bipush (v := (10:Int32)) (pc := 5) C dX9_speaksIn_5 (by decide) ?_
    refine cv_X9_237 (pc := 7) C dX9_speaksIn_7  h (by omega) (Nat.le_of_ble_eq_true rfl) (fun q5 h => ?_)
    refine r_iload_n (pc := 10) C dX9_speaksIn_10 rfl 2 rfl ?_
    refine r_aload_n (pc := 11) C dX9_speaksIn_11 rfl 0 rfl ?_
    refine gi_X9_241 (pc := 12) C dX9_speaksIn_12 kx_100 rfl ?_
    refine r_iadd (pc := 15) C dX9_speaksIn_15 ?_
    exact r_iretE (pc := 16) C dX9_speaksIn_16 h
def grp_X9_speaksIn : Nat → (Int32 → Int32 → Wd → Option (Int32 × Wd)) := lp ((fun _ _ _ => none)) (fun r => (fg_X9_speaksIn r))
def f_X9_speaksIn : Int32 → Int32 → Wd → Option (Int32 × Wd) := (grp_X9_speaksIn 100)
theorem cg_X9_speaksIn {G : Gv} : ∀ d : Nat, (∀ (w : Wd) (p1 : Int32) (p2 : Int32) (r : Int32 × Wd), (grp_X9_speaksIn d) p1 p2 w = some r → ∀ l : Launch, MC l yX9_speaksIn cX9_speaksIn 3 (some FieldType.int) (2 + d) G SM w [.ref (G.2 100), .int p1, .int p2] (some (.int r.1)) r.2) := by
  intro d
  induction d with
  | zero => exact fun _ _ _ _ h => (by change none = some _ at h; cases h)
  | succ d ih =>
    have i0 := ih
    exact fun _ _ _ _ h l => mc_of (by decide +kernel) rfl (Nat.le_of_ble_eq_true rfl) rfl (fun V C => b_X9_speaksIn_E i0 C h) l
theorem c_X9_speaksIn {G : Gv} {p1 : Int32} {p2 : Int32} {w : Wd} {res : Int32 × Wd} (h : f_X9_speaksIn p1 p2 w = some res) (l : Launch) : MC l yX9_speaksIn cX9_speaksIn 3 (some FieldType.int) 102 G SM w [.ref (G.2 100), .int p1, .int p2] (some (.int res.1)) res.2 := (cg_X9_speaksIn 100) w _ _ _ h l
def fg_X9_fallsIn (g_fallsIn : Int32 → Int32 → Wd → Option (Int32 × Wd)) (p1 : Int32) (p2 : Int32) (w : Wd) : Option (Int32 × Wd) := (if ¬ p1 = 0 then (if ¬ p1 = (3:Int32) then (if ¬ p1 = (6:Int32) then bd (f_X9_above p1) (fun q1 => bd (g_fallsIn q1 p2 w) (fun q2 => some (q2.1, q2.2))) else bd (f_X9_ran (70:Int32) w) (fun q3 => bd (g_fallsIn (3:Int32) p2 q3) (fun q4 => some ((q4.1 ^^^ (q4.2 100 26)), q4.2)))) else bd (f_X9_ran (40:Int32) w) (fun q5 => bd (g_fallsIn (0:Int32) p2 q5) (fun q6 => some ((-q6.1), q6.2)))) else bd (f_X9_ran (12:Int32) w) (fun q7 => some ((p2 - (q7 100 27)), q7)))
set_option maxRecDepth 20000 in
theorem b_X9_fallsIn_E {G : Gv} {V : Vt} {d : Nat} {g_fallsIn : Int32 → Int32 → Wd → Option (Int32 × Wd)} {res : Int32 × Wd} (hg_fallsIn : ∀ (w : Wd) (p1 : Int32) (p2 : Int32) (r : Int32 × Wd), g_fallsIn p1 p2 w = some r → ∀ l : Launch, MC l yX9_fallsIn cX9_fallsIn 3 (some FieldType.int) (2 + d) G SM w [.ref (G.2 100), .int p1, .int p2] (some (.int r.1)) r.2) (C : CX cX9_fallsIn RX9 G SM 3 (2 + d + 1) (some FieldType.int) (some (.int res.1)) res.2 V) {p1 : Int32} {p2 : Int32} {w : Wd} (h : fg_X9_fallsIn g_fallsIn p1 p2 w = some res) : V w 0 [(0, .ref (G.2 100)), (1, .int p1), (2, .int p2)] [] := by
  unfold fg_X9_fallsIn at h
  refine r_iload_n (pc := 0) C dX9_fallsIn_0 rfl 1 rfl ?_
  refine r_if_ne (pc := 1) C 17 dX9_fallsIn_1 (by decide) h (fun h => ?_) (fun h => ?_)
  · refine r_iload_n (pc := 17) C dX9_fallsIn_17 rfl 1 rfl ?_
    refine r_iconst (v := (3:Int32)) (pc := 18) C dX9_fallsIn_18 (by decide) ?_
    refine r_icmp_ne (pc := 19) C 36 dX9_fallsIn_19 (by decide) h (fun h => ?_) (fun h => ?_)
    · refine r_iload_n (pc := 36) C dX9_fallsIn_36 rfl 1 rfl ?_
      refine r_bipush (v := (6:Int32)) (pc := 37) C dX9_fallsIn_37 (by decide) ?_
      refine r_icmp_ne (pc := 39) C 60 dX9_fallsIn_39 (by decide) h (fun h => ?_) (fun h => ?_)
      · refine r_aload_n (pc := 60) C dX9_fallsIn_60 rfl 0 rfl ?_
        refine r_iload_n (pc := 61) C dX9_fallsIn_61 rfl 1 rfl ?_
        refine cv_X9_93 (pc := 62) C dX9_fallsIn_62  h (by omega) (Nat.le_of_ble_eq_true rfl) (fun q1 h => ?_)
        refine r_iload_n (pc := 65) C dX9_fallsIn_65 rfl 2 rfl ?_
        refine r_callV (As := [.int q1, .int p2]) (rest := []) (rvf := fun q => (some (.int q.1))) (wf := fun q => q.2) (pc := 66) C dX9_fallsIn_66 h ql_X9_250 qi_X9_fallsIn qs_X9_fallsIn qn_X9 qc_X9_fallsIn ⟨rfl, by decide +kernel, by decide +kernel, (by decide +kernel : (parseMethodDescriptor yX9_fallsIn.desc).map (fun d => d.parameters.length) = some 2)⟩ ⟨Nat.le_refl _, by decide⟩ kx_100 rfl (fun q hq l => hg_fallsIn _ _ _ q hq l) rfl (Nat.le_of_ble_eq_true rfl) (fun q2 h => ?_)
        exact r_iretE (pc := 69) C dX9_fallsIn_69 h
      · refine r_aload_n (pc := 42) C dX9_fallsIn_42 rfl 0 rfl ?_
        refine r_bipush (v := (70:Int32)) (pc := 43) C dX9_fallsIn_43 (by decide) ?_
        refine cv_X9_237 (pc := 45) C dX9_fallsIn_45  h (by omega) (Nat.le_of_ble_eq_true rfl) (fun q3 h => ?_)
        refine r_aload_n (pc := 48) C dX9_fallsIn_48 rfl 0 rfl ?_
        refine r_iconst (v := (3:Int32)) (pc := 49) C dX9_fallsIn_49 (by decide) ?_
        refine r_iload_n (pc := 50) C dX9_fallsIn_50 rfl 2 rfl ?_
        refine r_callV (As := [.int (3:Int32), .int p2]) (rest := []) (rvf := fun q => (some (.int q.1))) (wf := fun q => q.2) (pc := 51) C dX9_fallsIn_51 h ql_X9_250 qi_X9_fallsIn qs_X9_fallsIn qn_X9 qc_X9_fallsIn ⟨rfl, by decide +kernel, by decide +kernel, (by decide +kernel : (parseMethodDescriptor yX9_fallsIn.desc).map (fun d => d.parameters.length) = some 2)⟩ ⟨Nat.le_refl _, by decide⟩ kx_100 rfl (fun q hq l => hg_fallsIn _ _ _ q hq l) rfl (Nat.le_of_ble_eq_true rfl) (fun q4 h => ?_)
        refine r_aload_n (pc := 54) C dX9_fallsIn_54 rfl 0 rfl ?_
        refine gi_X9_241 (pc := 55) C dX9_fallsIn_55 kx_100 rfl ?_
        refine r_ixor (pc := 58) C dX9_fallsIn_58 ?_
        exact r_iretE (pc := 59) C dX9_fallsIn_59 h
    · refine r_aload_n (pc := 22) C dX9_fallsIn_22 rfl 0 rfl ?_
      refine r_bipush (v := (40:Int32)) (pc := 23) C dX9_fallsIn_23 (by decide) ?_
      refine cv_X9_237 (pc := 25) C dX9_fallsIn_25  h (by omega) (Nat.le_of_ble_eq_true rfl) (fun q5 h => ?_)
      refine r_aload_n (pc := 28) C dX9_fallsIn_28 rfl 0 rfl ?_
      refine r_iconst (v := (0:Int32)) (pc := 29) C dX9_fallsIn_29 (by decide) ?_
      refine r_iload_n (pc := 30) C dX9_fallsIn_30 rfl 2 rfl ?_
      refine r_callV (As := [.int (0:Int32), .int p2]) (rest := []) (rvf := fun q => (some (.int q.1))) (wf := fun q => q.2) (pc := 31) C dX9_fallsIn_31 h ql_X9_250 qi_X9_fallsIn qs_X9_fallsIn qn_X9 qc_X9_fallsIn ⟨rfl, by decide +kernel, by decide +kernel, (by decide +kernel : (parseMethodDescriptor yX9_fallsIn.desc).map (fun d => d.parameters.length) = some 2)⟩ ⟨Nat.le_refl _, by decide⟩ kx_100 rfl (fun q hq l => hg_fallsIn _ _ _ q hq l) rfl (Nat.le_of_ble_eq_true rfl) (fun q6 h => ?_)
      refine r_ineg (pc := 34) C dX9_fallsIn_34 ?_
      exact r_iretE (pc := 35) C dX9_fallsIn_35 h
  · refine r_aload_n (pc := 4) C dX9_fallsIn_4 rfl 0 rfl ?_
    refine r_bipush (v := (12:Int32)) (pc := 5) C dX9_fallsIn_5 (by decide) ?_
    refine cv_X9_237 (pc := 7) C dX9_fallsIn_7  h (by omega) (Nat.le_of_ble_eq_true rfl) (fun q7 h => ?_)
    refine r_iload_n (pc := 10) C dX9_fallsIn_10 rfl 2 rfl ?_
    refine r_aload_n (pc := 11) C dX9_fallsIn_11 rfl 0 rfl ?_
    refine gi_X9_247 (pc := 12) C dX9_fallsIn_12 kx_100 rfl ?_
    refine r_isub (pc := 15) C dX9_fallsIn_15 ?_
    exact r_iretE (pc := 16) C dX9_fallsIn_16 h
def grp_X9_fallsIn : Nat → (Int32 → Int32 → Wd → Option (Int32 × Wd)) := lp ((fun _ _ _ => none)) (fun r => (fg_X9_fallsIn r))
def f_X9_fallsIn : Int32 → Int32 → Wd → Option (Int32 × Wd) := (grp_X9_fallsIn 100)
theorem cg_X9_fallsIn {G : Gv} : ∀ d : Nat, (∀ (w : Wd) (p1 : Int32) (p2 : Int32) (r : Int32 × Wd), (grp_X9_fallsIn d) p1 p2 w = some r → ∀ l : Launch, MC l yX9_fallsIn cX9_fallsIn 3 (some FieldType.int) (2 + d) G SM w [.ref (G.2 100), .int p1, .int p2] (some (.int r.1)) r.2) := by
  intro d
  induction d with
  | zero => exact fun _ _ _ _ h => (by change none = some _ at h; cases h)
  | succ d ih =>
    have i0 := ih
    exact fun _ _ _ _ h l => mc_of (by decide +kernel) rfl (Nat.le_of_ble_eq_true rfl) rfl (fun V C => b_X9_fallsIn_E i0 C h) l
theorem c_X9_fallsIn {G : Gv} {p1 : Int32} {p2 : Int32} {w : Wd} {res : Int32 × Wd} (h : f_X9_fallsIn p1 p2 w = some res) (l : Launch) : MC l yX9_fallsIn cX9_fallsIn 3 (some FieldType.int) 102 G SM w [.ref (G.2 100), .int p1, .int p2] (some (.int res.1)) res.2 := (cg_X9_fallsIn 100) w _ _ _ h l
theorem cv_X9_244 {cc : ByteArray} {G : Gv} {n hc : Nat} {rt : Option FieldType} {rv : Option Value} {w0 : Wd} {V : Vt} {w : Wd} {pc : Nat} {L : List (Nat × Value)} {rest : List Value} {α : Type} {res : α} {p1 : Int32} {p2 : Int32} {K : Int32 × Wd → Option α} (C : CX cc RX9 G SM n hc rt rv w0 V) (hd : decode cc pc = .ok (.invokevirtual 244, 3)) (h : bd (f_X9_speaksIn p1 p2 w) K = some res) (hR : 102 + 1 ≤ hc) (hr : (rest.map fun v => v.category).sum ≤ 8) (kk : ∀ q, K q = some res → V q.2 (pc + 3) L (.int q.1 :: rest)) : V w pc L (.int p2 :: .int p1 :: .ref (G.2 100) :: rest) := r_callV (As := [.int p1, .int p2]) (rest := rest) (rvf := fun q => (some (.int q.1))) (wf := fun q => q.2) C hd h ql_X9_244 qi_X9_speaksIn qs_X9_speaksIn qn_X9 qc_X9_speaksIn ⟨rfl, by decide +kernel, by decide +kernel, (by decide +kernel : (parseMethodDescriptor yX9_speaksIn.desc).map (fun d => d.parameters.length) = some 2)⟩ ⟨hR, by decide⟩ kx_100 rfl (fun q hq l => c_X9_speaksIn hq l) rfl hr kk
theorem cv_X9_250 {cc : ByteArray} {G : Gv} {n hc : Nat} {rt : Option FieldType} {rv : Option Value} {w0 : Wd} {V : Vt} {w : Wd} {pc : Nat} {L : List (Nat × Value)} {rest : List Value} {α : Type} {res : α} {p1 : Int32} {p2 : Int32} {K : Int32 × Wd → Option α} (C : CX cc RX9 G SM n hc rt rv w0 V) (hd : decode cc pc = .ok (.invokevirtual 250, 3)) (h : bd (f_X9_fallsIn p1 p2 w) K = some res) (hR : 102 + 1 ≤ hc) (hr : (rest.map fun v => v.category).sum ≤ 8) (kk : ∀ q, K q = some res → V q.2 (pc + 3) L (.int q.1 :: rest)) : V w pc L (.int p2 :: .int p1 :: .ref (G.2 100) :: rest) := r_callV (As := [.int p1, .int p2]) (rest := rest) (rvf := fun q => (some (.int q.1))) (wf := fun q => q.2) C hd h ql_X9_250 qi_X9_fallsIn qs_X9_fallsIn qn_X9 qc_X9_fallsIn ⟨rfl, by decide +kernel, by decide +kernel, (by decide +kernel : (parseMethodDescriptor yX9_fallsIn.desc).map (fun d => d.parameters.length) = some 2)⟩ ⟨hR, by decide⟩ kx_100 rfl (fun q hq l => c_X9_fallsIn hq l) rfl hr kk
def fg_X9_entersIn (g_entersIn : Int32 → Int32 → Wd → Option (Int32 × Wd)) (p1 : Int32) (p2 : Int32) (w : Wd) : Option (Int32 × Wd) := (if ¬ p1 = 0 then (if ¬ p1 = (1:Int32) then (if ¬ p1 = (4:Int32) then bd (f_X9_above p1) (fun q1 => bd (g_entersIn q1 p2 w) (fun q2 => some (q2.1, q2.2))) else bd (f_X9_ran (50:Int32) w) (fun q3 => bd (g_entersIn (1:Int32) (p2 + (1:Int32)) q3) (fun q4 => some (q4.1, q4.2)))) else bd (f_X9_ran (20:Int32) w) (fun q5 => bd (g_entersIn (0:Int32) p2 q5) (fun q6 => bd (f_X9_fallsIn (q6.2 100 25) (1:Int32) q6.2) (fun q7 => some ((q6.1 - q7.1), q7.2))))) else bd (f_X9_ran (11:Int32) w) (fun q8 => bd (f_X9_speaksIn (q8 100 25) p2 q8) (fun q9 => some ((q9.1 * (2:Int32)), q9.2))))
set_option maxRecDepth 20000 in
theorem b_X9_entersIn_E {G : Gv} {V : Vt} {d : Nat} {g_entersIn : Int32 → Int32 → Wd → Option (Int32 × Wd)} {res : Int32 × Wd} (hg_entersIn : ∀ (w : Wd) (p1 : Int32) (p2 : Int32) (r : Int32 × Wd), g_entersIn p1 p2 w = some r → ∀ l : Launch, MC l yX9_entersIn cX9_entersIn 4 (some FieldType.int) (103 + d) G SM w [.ref (G.2 100), .int p1, .int p2] (some (.int r.1)) r.2) (C : CX cX9_entersIn RX9 G SM 4 (103 + d + 1) (some FieldType.int) (some (.int res.1)) res.2 V) {p1 : Int32} {p2 : Int32} {w : Wd} (h : fg_X9_entersIn g_entersIn p1 p2 w = some res) : V w 0 [(0, .ref (G.2 100)), (1, .int p1), (2, .int p2)] [] := by
  unfold fg_X9_entersIn at h
  refine r_iload_n (pc := 0) C dX9_entersIn_0 rfl 1 rfl ?_
  refine r_if_ne (pc := 1) C 22 dX9_entersIn_1 (by decide) h (fun h => ?_) (fun h => ?_)
  · refine r_iload_n (pc := 22) C dX9_entersIn_22 rfl 1 rfl ?_
    refine r_iconst (v := (1:Int32)) (pc := 23) C dX9_entersIn_23 (by decide) ?_
    refine r_icmp_ne (pc := 24) C 52 dX9_entersIn_24 (by decide) h (fun h => ?_) (fun h => ?_)
    · refine r_iload_n (pc := 52) C dX9_entersIn_52 rfl 1 rfl ?_
      refine r_iconst (v := (4:Int32)) (pc := 53) C dX9_entersIn_53 (by decide) ?_
      refine r_icmp_ne (pc := 54) C 72 dX9_entersIn_54 (by decide) h (fun h => ?_) (fun h => ?_)
      · refine r_aload_n (pc := 72) C dX9_entersIn_72 rfl 0 rfl ?_
        refine r_iload_n (pc := 73) C dX9_entersIn_73 rfl 1 rfl ?_
        refine cv_X9_93 (pc := 74) C dX9_entersIn_74  h (by omega) (Nat.le_of_ble_eq_true rfl) (fun q1 h => ?_)
        refine r_iload_n (pc := 77) C dX9_entersIn_77 rfl 2 rfl ?_
        refine r_callV (As := [.int q1, .int p2]) (rest := []) (rvf := fun q => (some (.int q.1))) (wf := fun q => q.2) (pc := 78) C dX9_entersIn_78 h ql_X9_256 qi_X9_entersIn qs_X9_entersIn qn_X9 qc_X9_entersIn ⟨rfl, by decide +kernel, by decide +kernel, (by decide +kernel : (parseMethodDescriptor yX9_entersIn.desc).map (fun d => d.parameters.length) = some 2)⟩ ⟨Nat.le_refl _, by decide⟩ kx_100 rfl (fun q hq l => hg_entersIn _ _ _ q hq l) rfl (Nat.le_of_ble_eq_true rfl) (fun q2 h => ?_)
        exact r_iretE (pc := 81) C dX9_entersIn_81 h
      · refine r_aload_n (pc := 57) C dX9_entersIn_57 rfl 0 rfl ?_
        refine r_bipush (v := (50:Int32)) (pc := 58) C dX9_entersIn_58 (by decide) ?_
        refine cv_X9_237 (pc := 60) C dX9_entersIn_60  h (by omega) (Nat.le_of_ble_eq_true rfl) (fun q3 h => ?_)
        refine r_aload_n (pc := 63) C dX9_entersIn_63 rfl 0 rfl ?_
        refine r_iconst (v := (1:Int32)) (pc := 64) C dX9_entersIn_64 (by decide) ?_
        refine r_iload_n (pc := 65) C dX9_entersIn_65 rfl 2 rfl ?_
        refine r_iconst (v := (1:Int32)) (pc := 66) C dX9_entersIn_66 (by decide) ?_
        refine r_iadd (pc := 67) C dX9_entersIn_67 ?_
        refine r_callV (As := [.int (1:Int32), .int (p2 + (1:Int32))]) (rest := []) (rvf := fun q => (some (.int q.1))) (wf := fun q => q.2) (pc := 68) C dX9_entersIn_68 h ql_X9_256 qi_X9_entersIn qs_X9_entersIn qn_X9 qc_X9_entersIn ⟨rfl, by decide +kernel, by decide +kernel, (by decide +kernel : (parseMethodDescriptor yX9_entersIn.desc).map (fun d => d.parameters.length) = some 2)⟩ ⟨Nat.le_refl _, by decide⟩ kx_100 rfl (fun q hq l => hg_entersIn _ _ _ q hq l) rfl (Nat.le_of_ble_eq_true rfl) (fun q4 h => ?_)
        exact r_iretE (pc := 71) C dX9_entersIn_71 h
    · refine r_aload_n (pc := 27) C dX9_entersIn_27 rfl 0 rfl ?_
      refine r_bipush (v := (20:Int32)) (pc := 28) C dX9_entersIn_28 (by decide) ?_
      refine cv_X9_237 (pc := 30) C dX9_entersIn_30  h (by omega) (Nat.le_of_ble_eq_true rfl) (fun q5 h => ?_)
      refine r_aload_n (pc := 33) C dX9_entersIn_33 rfl 0 rfl ?_
      refine r_iconst (v := (0:Int32)) (pc := 34) C dX9_entersIn_34 (by decide) ?_
      refine r_iload_n (pc := 35) C dX9_entersIn_35 rfl 2 rfl ?_
      refine r_callV (As := [.int (0:Int32), .int p2]) (rest := []) (rvf := fun q => (some (.int q.1))) (wf := fun q => q.2) (pc := 36) C dX9_entersIn_36 h ql_X9_256 qi_X9_entersIn qs_X9_entersIn qn_X9 qc_X9_entersIn ⟨rfl, by decide +kernel, by decide +kernel, (by decide +kernel : (parseMethodDescriptor yX9_entersIn.desc).map (fun d => d.parameters.length) = some 2)⟩ ⟨Nat.le_refl _, by decide⟩ kx_100 rfl (fun q hq l => hg_entersIn _ _ _ q hq l) rfl (Nat.le_of_ble_eq_true rfl) (fun q6 h => ?_)
      refine r_istore_n (L' := [(3, .int q6.1), (0, .ref (G.2 100)), (1, .int p1), (2, .int p2)]) (pc := 39) C dX9_entersIn_39 rfl (by decide) rfl ?_
      refine r_iload_n (pc := 40) C dX9_entersIn_40 rfl 0 rfl ?_
      refine r_aload_n (pc := 41) C dX9_entersIn_41 rfl 1 rfl ?_
      refine r_aload_n (pc := 42) C dX9_entersIn_42 rfl 1 rfl ?_
      refine gi_X9_253 (pc := 43) C dX9_entersIn_43 kx_100 rfl ?_
      refine r_iconst (v := (1:Int32)) (pc := 46) C dX9_entersIn_46 (by decide) ?_
      refine cv_X9_250 (pc := 47) C dX9_entersIn_47  h (by omega) (Nat.le_of_ble_eq_true rfl) (fun q7 h => ?_)
      refine r_isub (pc := 50) C dX9_entersIn_50 ?_
      exact r_iretE (pc := 51) C dX9_entersIn_51 h
  · refine r_aload_n (pc := 4) C dX9_entersIn_4 rfl 0 rfl ?_
    refine r_bipush (v := (11:Int32)) (pc := 5) C dX9_entersIn_5 (by decide) ?_
    refine cv_X9_237 (pc := 7) C dX9_entersIn_7  h (by omega) (Nat.le_of_ble_eq_true rfl) (fun q8 h => ?_)
    refine r_aload_n (pc := 10) C dX9_entersIn_10 rfl 0 rfl ?_
    refine r_aload_n (pc := 11) C dX9_entersIn_11 rfl 0 rfl ?_
    refine gi_X9_253 (pc := 12) C dX9_entersIn_12 kx_100 rfl ?_
    refine r_iload_n (pc := 15) C dX9_entersIn_15 rfl 2 rfl ?_
    refine cv_X9_244 (pc := 16) C dX9_entersIn_16  h (by omega) (Nat.le_of_ble_eq_true rfl) (fun q9 h => ?_)
    refine r_iconst (v := (2:Int32)) (pc := 19) C dX9_entersIn_19 (by decide) ?_
    refine r_imul (pc := 20) C dX9_entersIn_20 ?_
    exact r_iretE (pc := 21) C dX9_entersIn_21 h
def grp_X9_entersIn : Nat → (Int32 → Int32 → Wd → Option (Int32 × Wd)) := lp ((fun _ _ _ => none)) (fun r => (fg_X9_entersIn r))
def f_X9_entersIn : Int32 → Int32 → Wd → Option (Int32 × Wd) := (grp_X9_entersIn 100)
theorem cg_X9_entersIn {G : Gv} : ∀ d : Nat, (∀ (w : Wd) (p1 : Int32) (p2 : Int32) (r : Int32 × Wd), (grp_X9_entersIn d) p1 p2 w = some r → ∀ l : Launch, MC l yX9_entersIn cX9_entersIn 4 (some FieldType.int) (103 + d) G SM w [.ref (G.2 100), .int p1, .int p2] (some (.int r.1)) r.2) := by
  intro d
  induction d with
  | zero => exact fun _ _ _ _ h => (by change none = some _ at h; cases h)
  | succ d ih =>
    have i0 := ih
    exact fun _ _ _ _ h l => mc_of (by decide +kernel) rfl (Nat.le_of_ble_eq_true rfl) rfl (fun V C => b_X9_entersIn_E i0 C h) l
theorem c_X9_entersIn {G : Gv} {p1 : Int32} {p2 : Int32} {w : Wd} {res : Int32 × Wd} (h : f_X9_entersIn p1 p2 w = some res) (l : Launch) : MC l yX9_entersIn cX9_entersIn 4 (some FieldType.int) 203 G SM w [.ref (G.2 100), .int p1, .int p2] (some (.int res.1)) res.2 := (cg_X9_entersIn 100) w _ _ _ h l
theorem cv_X9_256 {cc : ByteArray} {G : Gv} {n hc : Nat} {rt : Option FieldType} {rv : Option Value} {w0 : Wd} {V : Vt} {w : Wd} {pc : Nat} {L : List (Nat × Value)} {rest : List Value} {α : Type} {res : α} {p1 : Int32} {p2 : Int32} {K : Int32 × Wd → Option α} (C : CX cc RX9 G SM n hc rt rv w0 V) (hd : decode cc pc = .ok (.invokevirtual 256, 3)) (h : bd (f_X9_entersIn p1 p2 w) K = some res) (hR : 203 + 1 ≤ hc) (hr : (rest.map fun v => v.category).sum ≤ 8) (kk : ∀ q, K q = some res → V q.2 (pc + 3) L (.int q.1 :: rest)) : V w pc L (.int p2 :: .int p1 :: .ref (G.2 100) :: rest) := r_callV (As := [.int p1, .int p2]) (rest := rest) (rvf := fun q => (some (.int q.1))) (wf := fun q => q.2) C hd h ql_X9_256 qi_X9_entersIn qs_X9_entersIn qn_X9 qc_X9_entersIn ⟨rfl, by decide +kernel, by decide +kernel, (by decide +kernel : (parseMethodDescriptor yX9_entersIn.desc).map (fun d => d.parameters.length) = some 2)⟩ ⟨hR, by decide⟩ kx_100 rfl (fun q hq l => c_X9_entersIn hq l) rfl hr kk
def fg_X9_tellsIn (g_tellsIn : Int32 → Int32 → Wd → Option (Int32 × Wd)) (p1 : Int32) (p2 : Int32) (w : Wd) : Option (Int32 × Wd) := (if ¬ p1 = 0 then (if ¬ p1 = (5:Int32) then (if ¬ p1 = (6:Int32) then bd (f_X9_above p1) (fun q1 => bd (g_tellsIn q1 p2 w) (fun q2 => some (q2.1, q2.2))) else bd (f_X9_ran (71:Int32) w) (fun q3 => bd (f_X9_entersIn (q3 100 25) p2 q3) (fun q4 => bd (g_tellsIn (3:Int32) p2 q4.2) (fun q5 => some ((q4.1 - q5.1), q5.2))))) else bd (f_X9_ran (60:Int32) w) (fun q6 => bd (g_tellsIn (2:Int32) p2 q6) (fun q7 => bd (f_X9_speaksIn (q7.2 100 25) (2:Int32) q7.2) (fun q8 => some ((q7.1 - q8.1), q8.2))))) else bd (f_X9_ran (13:Int32) w) (fun q9 => bd (f_X9_entersIn (q9 100 25) p2 q9) (fun q10 => bd (f_X9_fallsIn (q10.2 100 25) p2 q10.2) (fun q11 => some ((q10.1 ^^^ q11.1), q11.2)))))
set_option maxRecDepth 20000 in
theorem b_X9_tellsIn_E {G : Gv} {V : Vt} {d : Nat} {g_tellsIn : Int32 → Int32 → Wd → Option (Int32 × Wd)} {res : Int32 × Wd} (hg_tellsIn : ∀ (w : Wd) (p1 : Int32) (p2 : Int32) (r : Int32 × Wd), g_tellsIn p1 p2 w = some r → ∀ l : Launch, MC l yX9_tellsIn cX9_tellsIn 4 (some FieldType.int) (204 + d) G SM w [.ref (G.2 100), .int p1, .int p2] (some (.int r.1)) r.2) (C : CX cX9_tellsIn RX9 G SM 4 (204 + d + 1) (some FieldType.int) (some (.int res.1)) res.2 V) {p1 : Int32} {p2 : Int32} {w : Wd} (h : fg_X9_tellsIn g_tellsIn p1 p2 w = some res) : V w 0 [(0, .ref (G.2 100)), (1, .int p1), (2, .int p2)] [] := by
  unfold fg_X9_tellsIn at h
  refine r_iload_n (pc := 0) C dX9_tellsIn_0 rfl 1 rfl ?_
  refine r_if_ne (pc := 1) C 32 dX9_tellsIn_1 (by decide) h (fun h => ?_) (fun h => ?_)
  · refine r_iload_n (pc := 32) C dX9_tellsIn_32 rfl 1 rfl ?_
    refine r_iconst (v := (5:Int32)) (pc := 33) C dX9_tellsIn_33 (by decide) ?_
    refine r_icmp_ne (pc := 34) C 62 dX9_tellsIn_34 (by decide) h (fun h => ?_) (fun h => ?_)
    · refine r_iload_n (pc := 62) C dX9_tellsIn_62 rfl 1 rfl ?_
      refine r_bipush (v := (6:Int32)) (pc := 63) C dX9_tellsIn_63 (by decide) ?_
      refine r_icmp_ne (pc := 65) C 93 dX9_tellsIn_65 (by decide) h (fun h => ?_) (fun h => ?_)
      · refine r_aload_n (pc := 93) C dX9_tellsIn_93 rfl 0 rfl ?_
        refine r_iload_n (pc := 94) C dX9_tellsIn_94 rfl 1 rfl ?_
        refine cv_X9_93 (pc := 95) C dX9_tellsIn_95  h (by omega) (Nat.le_of_ble_eq_true rfl) (fun q1 h => ?_)
        refine r_iload_n (pc := 98) C dX9_tellsIn_98 rfl 2 rfl ?_
        refine r_callV (As := [.int q1, .int p2]) (rest := []) (rvf := fun q => (some (.int q.1))) (wf := fun q => q.2) (pc := 99) C dX9_tellsIn_99 h ql_X9_259 qi_X9_tellsIn qs_X9_tellsIn qn_X9 qc_X9_tellsIn ⟨rfl, by decide +kernel, by decide +kernel, (by decide +kernel : (parseMethodDescriptor yX9_tellsIn.desc).map (fun d => d.parameters.length) = some 2)⟩ ⟨Nat.le_refl _, by decide⟩ kx_100 rfl (fun q hq l => hg_tellsIn _ _ _ q hq l) rfl (Nat.le_of_ble_eq_true rfl) (fun q2 h => ?_)
        exact r_iretE (pc := 102) C dX9_tellsIn_102 h
      · refine r_aload_n (pc := 68) C dX9_tellsIn_68 rfl 0 rfl ?_
        refine r_bipush (v := (71:Int32)) (pc := 69) C dX9_tellsIn_69 (by decide) ?_
        refine cv_X9_237 (pc := 71) C dX9_tellsIn_71  h (by omega) (Nat.le_of_ble_eq_true rfl) (fun q3 h => ?_)
        refine r_aload_n (pc := 74) C dX9_tellsIn_74 rfl 0 rfl ?_
        refine r_aload_n (pc := 75) C dX9_tellsIn_75 rfl 0 rfl ?_
        refine gi_X9_253 (pc := 76) C dX9_tellsIn_76 kx_100 rfl ?_
        refine r_iload_n (pc := 79) C dX9_tellsIn_79 rfl 2 rfl ?_
        refine cv_X9_256 (pc := 80) C dX9_tellsIn_80  h (by omega) (Nat.le_of_ble_eq_true rfl) (fun q4 h => ?_)
        refine r_istore_n (L' := [(3, .int q4.1), (0, .ref (G.2 100)), (1, .int p1), (2, .int p2)]) (pc := 83) C dX9_tellsIn_83 rfl (by decide) rfl ?_
        refine r_iload_n (pc := 84) C dX9_tellsIn_84 rfl 0 rfl ?_
        refine r_aload_n (pc := 85) C dX9_tellsIn_85 rfl 1 rfl ?_
        refine r_iconst (v := (3:Int32)) (pc := 86) C dX9_tellsIn_86 (by decide) ?_
        refine r_iload_n (pc := 87) C dX9_tellsIn_87 rfl 3 rfl ?_
        refine r_callV (As := [.int (3:Int32), .int p2]) (rest := [.int q4.1]) (rvf := fun q => (some (.int q.1))) (wf := fun q => q.2) (pc := 88) C dX9_tellsIn_88 h ql_X9_259 qi_X9_tellsIn qs_X9_tellsIn qn_X9 qc_X9_tellsIn ⟨rfl, by decide +kernel, by decide +kernel, (by decide +kernel : (parseMethodDescriptor yX9_tellsIn.desc).map (fun d => d.parameters.length) = some 2)⟩ ⟨Nat.le_refl _, by decide⟩ kx_100 rfl (fun q hq l => hg_tellsIn _ _ _ q hq l) rfl (Nat.le_of_ble_eq_true rfl) (fun q5 h => ?_)
        refine r_isub (pc := 91) C dX9_tellsIn_91 ?_
        exact r_iretE (pc := 92) C dX9_tellsIn_92 h
    · refine r_aload_n (pc := 37) C dX9_tellsIn_37 rfl 0 rfl ?_
      refine r_bipush (v := (60:Int32)) (pc := 38) C dX9_tellsIn_38 (by decide) ?_
      refine cv_X9_237 (pc := 40) C dX9_tellsIn_40  h (by omega) (Nat.le_of_ble_eq_true rfl) (fun q6 h => ?_)
      refine r_aload_n (pc := 43) C dX9_tellsIn_43 rfl 0 rfl ?_
      refine r_iconst (v := (2:Int32)) (pc := 44) C dX9_tellsIn_44 (by decide) ?_
      refine r_iload_n (pc := 45) C dX9_tellsIn_45 rfl 2 rfl ?_
      refine r_callV (As := [.int (2:Int32), .int p2]) (rest := []) (rvf := fun q => (some (.int q.1))) (wf := fun q => q.2) (pc := 46) C dX9_tellsIn_46 h ql_X9_259 qi_X9_tellsIn qs_X9_tellsIn qn_X9 qc_X9_tellsIn ⟨rfl, by decide +kernel, by decide +kernel, (by decide +kernel : (parseMethodDescriptor yX9_tellsIn.desc).map (fun d => d.parameters.length) = some 2)⟩ ⟨Nat.le_refl _, by decide⟩ kx_100 rfl (fun q hq l => hg_tellsIn _ _ _ q hq l) rfl (Nat.le_of_ble_eq_true rfl) (fun q7 h => ?_)
      refine r_istore_n (L' := [(3, .int q7.1), (0, .ref (G.2 100)), (1, .int p1), (2, .int p2)]) (pc := 49) C dX9_tellsIn_49 rfl (by decide) rfl ?_
      refine r_iload_n (pc := 50) C dX9_tellsIn_50 rfl 0 rfl ?_
      refine r_aload_n (pc := 51) C dX9_tellsIn_51 rfl 1 rfl ?_
      refine r_aload_n (pc := 52) C dX9_tellsIn_52 rfl 1 rfl ?_
      refine gi_X9_253 (pc := 53) C dX9_tellsIn_53 kx_100 rfl ?_
      refine r_iconst (v := (2:Int32)) (pc := 56) C dX9_tellsIn_56 (by decide) ?_
      refine cv_X9_244 (pc := 57) C dX9_tellsIn_57  h (by omega) (Nat.le_of_ble_eq_true rfl) (fun q8 h => ?_)
      refine r_isub (pc := 60) C dX9_tellsIn_60 ?_
      exact r_iretE (pc := 61) C dX9_tellsIn_61 h
  · refine r_aload_n (pc := 4) C dX9_tellsIn_4 rfl 0 rfl ?_
    refine r_bipush (v := (13:Int32)) (pc := 5) C dX9_tellsIn_5 (by decide) ?_
    refine cv_X9_237 (pc := 7) C dX9_tellsIn_7  h (by omega) (Nat.le_of_ble_eq_true rfl) (fun q9 h => ?_)
    refine r_aload_n (pc := 10) C dX9_tellsIn_10 rfl 0 rfl ?_
    refine r_aload_n (pc := 11) C dX9_tellsIn_11 rfl 0 rfl ?_
    refine gi_X9_253 (pc := 12) C dX9_tellsIn_12 kx_100 rfl ?_
    refine r_iload_n (pc := 15) C dX9_tellsIn_15 rfl 2 rfl ?_
    refine cv_X9_256 (pc := 16) C dX9_tellsIn_16  h (by omega) (Nat.le_of_ble_eq_true rfl) (fun q10 h => ?_)
    refine r_istore_n (L' := [(3, .int q10.1), (0, .ref (G.2 100)), (1, .int p1), (2, .int p2)]) (pc := 19) C dX9_tellsIn_19 rfl (by decide) rfl ?_
    refine r_iload_n (pc := 20) C dX9_tellsIn_20 rfl 0 rfl ?_
    refine r_aload_n (pc := 21) C dX9_tellsIn_21 rfl 1 rfl ?_
    refine r_aload_n (pc := 22) C dX9_tellsIn_22 rfl 1 rfl ?_
    refine gi_X9_253 (pc := 23) C dX9_tellsIn_23 kx_100 rfl ?_
    refine r_iload_n (pc := 26) C dX9_tellsIn_26 rfl 3 rfl ?_
    refine cv_X9_250 (pc := 27) C dX9_tellsIn_27  h (by omega) (Nat.le_of_ble_eq_true rfl) (fun q11 h => ?_)
    refine r_ixor (pc := 30) C dX9_tellsIn_30 ?_
    exact r_iretE (pc := 31) C dX9_tellsIn_31 h
def grp_X9_tellsIn : Nat → (Int32 → Int32 → Wd → Option (Int32 × Wd)) := lp ((fun _ _ _ => none)) (fun r => (fg_X9_tellsIn r))
def f_X9_tellsIn : Int32 → Int32 → Wd → Option (Int32 × Wd) := (grp_X9_tellsIn 100)
theorem cg_X9_tellsIn {G : Gv} : ∀ d : Nat, (∀ (w : Wd) (p1 : Int32) (p2 : Int32) (r : Int32 × Wd), (grp_X9_tellsIn d) p1 p2 w = some r → ∀ l : Launch, MC l yX9_tellsIn cX9_tellsIn 4 (some FieldType.int) (204 + d) G SM w [.ref (G.2 100), .int p1, .int p2] (some (.int r.1)) r.2) := by
  intro d
  induction d with
  | zero => exact fun _ _ _ _ h => (by change none = some _ at h; cases h)
  | succ d ih =>
    have i0 := ih
    exact fun _ _ _ _ h l => mc_of (by decide +kernel) rfl (Nat.le_of_ble_eq_true rfl) rfl (fun V C => b_X9_tellsIn_E i0 C h) l
theorem c_X9_tellsIn {G : Gv} {p1 : Int32} {p2 : Int32} {w : Wd} {res : Int32 × Wd} (h : f_X9_tellsIn p1 p2 w = some res) (l : Launch) : MC l yX9_tellsIn cX9_tellsIn 4 (some FieldType.int) 304 G SM w [.ref (G.2 100), .int p1, .int p2] (some (.int res.1)) res.2 := (cg_X9_tellsIn 100) w _ _ _ h l
theorem cv_X9_259 {cc : ByteArray} {G : Gv} {n hc : Nat} {rt : Option FieldType} {rv : Option Value} {w0 : Wd} {V : Vt} {w : Wd} {pc : Nat} {L : List (Nat × Value)} {rest : List Value} {α : Type} {res : α} {p1 : Int32} {p2 : Int32} {K : Int32 × Wd → Option α} (C : CX cc RX9 G SM n hc rt rv w0 V) (hd : decode cc pc = .ok (.invokevirtual 259, 3)) (h : bd (f_X9_tellsIn p1 p2 w) K = some res) (hR : 304 + 1 ≤ hc) (hr : (rest.map fun v => v.category).sum ≤ 8) (kk : ∀ q, K q = some res → V q.2 (pc + 3) L (.int q.1 :: rest)) : V w pc L (.int p2 :: .int p1 :: .ref (G.2 100) :: rest) := r_callV (As := [.int p1, .int p2]) (rest := rest) (rvf := fun q => (some (.int q.1))) (wf := fun q => q.2) C hd h ql_X9_259 qi_X9_tellsIn qs_X9_tellsIn qn_X9 qc_X9_tellsIn ⟨rfl, by decide +kernel, by decide +kernel, (by decide +kernel : (parseMethodDescriptor yX9_tellsIn.desc).map (fun d => d.parameters.length) = some 2)⟩ ⟨hR, by decide⟩ kx_100 rfl (fun q hq l => c_X9_tellsIn hq l) rfl hr kk
def f_X9_voice_17 (w : Wd) : Option (Int32 × Wd) := bd (f_X9_errs (-1000000001:Int32) w) (fun q1 => some (q1.1, q1.2))
set_option maxRecDepth 20000 in
theorem b_X9_voice_17 {G : Gv} {V : Vt} {res : Int32 × Wd}  (C : CX cX9_voice RX9 G SM 4 305 (some FieldType.int) (some (.int res.1)) res.2 V) {w : Wd} (h : f_X9_voice_17 w = some res) : V w 17 [(0, .ref (G.2 100))] [] := by
  unfold f_X9_voice_17 at h
  refine r_aload_n (pc := 17) C dX9_voice_17 rfl 0 rfl ?_
  refine r_ldc (pc := 18) C dX9_voice_18 qk_X9_61 ?_
  refine cv_X9_62 (pc := 20) C dX9_voice_20  h (by decide) (Nat.le_of_ble_eq_true rfl) (fun q1 h => ?_)
  exact r_iretE (pc := 23) C dX9_voice_23 h
def f_X9_voice (p1 : Int32) (p2 : Int32) (p3 : Int32) (w : Wd) : Option (Int32 × Wd) := bd (f_X9_isPart w p1) (fun q1 => (if q1 = 0 then f_X9_voice_17 w else bd (f_X9_in p2 (0:Int32) (3:Int32)) (fun q2 => (if ¬ q2 = 0 then wl (updW w 100 24 (0:Int32)) (fun w3 => bd (f_X9_its w3 p1 (0:Int32)) (fun q4 => wl (updW w3 100 25 q4) (fun w5 => wl (updW w5 100 26 p1) (fun w6 => bd (f_X9_its w6 p1 (1:Int32)) (fun q7 => wl (updW w6 100 27 q7) (fun w8 => (if p2 = (0:Int32) then bd (f_X9_speaksIn (w8 100 25) p3 w8) (fun q9 => some (q9.1, q9.2)) else (if p2 = (1:Int32) then bd (f_X9_entersIn (w8 100 25) p3 w8) (fun q10 => some (q10.1, q10.2)) else (if p2 = (2:Int32) then bd (f_X9_fallsIn (w8 100 25) p3 w8) (fun q11 => some (q11.1, q11.2)) else bd (f_X9_tellsIn (w8 100 25) p3 w8) (fun q12 => some (q12.1, q12.2))))))))))) else f_X9_voice_17 w))))
set_option maxRecDepth 20000 in
theorem b_X9_voice_E {G : Gv} {V : Vt} {res : Int32 × Wd}  (C : CX cX9_voice RX9 G SM 4 305 (some FieldType.int) (some (.int res.1)) res.2 V) {p1 : Int32} {p2 : Int32} {p3 : Int32} {w : Wd} (h : f_X9_voice p1 p2 p3 w = some res) : V w 0 [(0, .ref (G.2 100)), (1, .int p1), (2, .int p2), (3, .int p3)] [] := by
  unfold f_X9_voice at h
  refine r_aload_n (pc := 0) C dX9_voice_0 rfl 0 rfl ?_
  refine r_iload_n (pc := 1) C dX9_voice_1 rfl 1 rfl ?_
  refine cv_X9_57 (pc := 2) C dX9_voice_2  h (by decide) (Nat.le_of_ble_eq_true rfl) (fun q1 h => ?_)
  refine r_if_eq (pc := 5) C 17 dX9_voice_5 (by decide) h (fun h => ?_) (fun h => ?_)
  · exact r_sub C [0] rfl (b_X9_voice_17 C h)
  · refine r_iload_n (pc := 8) C dX9_voice_8 rfl 2 rfl ?_
    refine r_iconst (v := (0:Int32)) (pc := 9) C dX9_voice_9 (by decide) ?_
    refine r_iconst (v := (3:Int32)) (pc := 10) C dX9_voice_10 (by decide) ?_
    refine cv_X9_53 (pc := 11) C dX9_voice_11  h (by decide) (Nat.le_of_ble_eq_true rfl) (fun q2 h => ?_)
    refine r_if_ne (pc := 14) C 24 dX9_voice_14 (by decide) h (fun h => ?_) (fun h => ?_)
    · refine r_aload_n (pc := 24) C dX9_voice_24 rfl 0 rfl ?_
      refine r_iconst (v := (0:Int32)) (pc := 25) C dX9_voice_25 (by decide) ?_
      refine pi_X9_234 (pc := 26) C dX9_voice_26 kx_100 rfl h (fun w3 h => ?_)
      refine r_aload_n (pc := 29) C dX9_voice_29 rfl 0 rfl ?_
      refine r_aload_n (pc := 30) C dX9_voice_30 rfl 0 rfl ?_
      refine r_iload_n (pc := 31) C dX9_voice_31 rfl 1 rfl ?_
      refine r_iconst (v := (0:Int32)) (pc := 32) C dX9_voice_32 (by decide) ?_
      refine cv_X9_67 (pc := 33) C dX9_voice_33  h (by decide) (Nat.le_of_ble_eq_true rfl) (fun q4 h => ?_)
      refine pi_X9_253 (pc := 36) C dX9_voice_36 kx_100 rfl h (fun w5 h => ?_)
      refine r_aload_n (pc := 39) C dX9_voice_39 rfl 0 rfl ?_
      refine r_iload_n (pc := 40) C dX9_voice_40 rfl 1 rfl ?_
      refine pi_X9_241 (pc := 41) C dX9_voice_41 kx_100 rfl h (fun w6 h => ?_)
      refine r_aload_n (pc := 44) C dX9_voice_44 rfl 0 rfl ?_
      refine r_aload_n (pc := 45) C dX9_voice_45 rfl 0 rfl ?_
      refine r_iload_n (pc := 46) C dX9_voice_46 rfl 1 rfl ?_
      refine r_iconst (v := (1:Int32)) (pc := 47) C dX9_voice_47 (by decide) ?_
      refine cv_X9_67 (pc := 48) C dX9_voice_48  h (by decide) (Nat.le_of_ble_eq_true rfl) (fun q7 h => ?_)
      refine pi_X9_247 (pc := 51) C dX9_voice_51 kx_100 rfl h (fun w8 h => ?_)
      refine r_iload_n (pc := 54) C dX9_voice_54 rfl 2 rfl ?_
      refine r_tsw (pc := 55) C (0:Int32) 80 dX9_voice_55 (by decide) (by decide) rfl (by decide) h (fun h => ?_) (fun n0 h => ?_)
      · refine r_aload_n (pc := 80) C dX9_voice_80 rfl 0 rfl ?_
        refine r_aload_n (pc := 81) C dX9_voice_81 rfl 0 rfl ?_
        refine gi_X9_253 (pc := 82) C dX9_voice_82 kx_100 rfl ?_
        refine r_iload_n (pc := 85) C dX9_voice_85 rfl 3 rfl ?_
        refine cv_X9_244 (pc := 86) C dX9_voice_86  h (by decide) (Nat.le_of_ble_eq_true rfl) (fun q9 h => ?_)
        exact r_iretE (pc := 89) C dX9_voice_89 h
      refine r_tsw (pc := 55) C (1:Int32) 90 dX9_voice_55 (by decide) (by decide) rfl (by decide) h (fun h => ?_) (fun n1 h => ?_)
      · refine r_aload_n (pc := 90) C dX9_voice_90 rfl 0 rfl ?_
        refine r_aload_n (pc := 91) C dX9_voice_91 rfl 0 rfl ?_
        refine gi_X9_253 (pc := 92) C dX9_voice_92 kx_100 rfl ?_
        refine r_iload_n (pc := 95) C dX9_voice_95 rfl 3 rfl ?_
        refine cv_X9_256 (pc := 96) C dX9_voice_96  h (by decide) (Nat.le_of_ble_eq_true rfl) (fun q10 h => ?_)
        exact r_iretE (pc := 99) C dX9_voice_99 h
      refine r_tsw (pc := 55) C (2:Int32) 100 dX9_voice_55 (by decide) (by decide) rfl (by decide) h (fun h => ?_) (fun n2 h => ?_)
      · refine r_aload_n (pc := 100) C dX9_voice_100 rfl 0 rfl ?_
        refine r_aload_n (pc := 101) C dX9_voice_101 rfl 0 rfl ?_
        refine gi_X9_253 (pc := 102) C dX9_voice_102 kx_100 rfl ?_
        refine r_iload_n (pc := 105) C dX9_voice_105 rfl 3 rfl ?_
        refine cv_X9_250 (pc := 106) C dX9_voice_106  h (by decide) (Nat.le_of_ble_eq_true rfl) (fun q11 h => ?_)
        exact r_iretE (pc := 109) C dX9_voice_109 h
      refine r_tswD (pc := 55) C 110 dX9_voice_55 (by have z0 := toInt_ne n0; have z1 := toInt_ne n1; have z2 := toInt_ne n2; simp only [Int32.reduceToInt, ne_eq] at *; omega) (by decide) ?_
      refine r_aload_n (pc := 110) C dX9_voice_110 rfl 0 rfl ?_
      refine r_aload_n (pc := 111) C dX9_voice_111 rfl 0 rfl ?_
      refine gi_X9_253 (pc := 112) C dX9_voice_112 kx_100 rfl ?_
      refine r_iload_n (pc := 115) C dX9_voice_115 rfl 3 rfl ?_
      refine cv_X9_259 (pc := 116) C dX9_voice_116  h (by decide) (Nat.le_of_ble_eq_true rfl) (fun q12 h => ?_)
      exact r_iretE (pc := 119) C dX9_voice_119 h
    · exact r_sub C [0] rfl (b_X9_voice_17 C h)
theorem c_X9_voice {G : Gv} {p1 : Int32} {p2 : Int32} {p3 : Int32} {w : Wd} {res : Int32 × Wd} (h : f_X9_voice p1 p2 p3 w = some res) (l : Launch) : MC l yX9_voice cX9_voice 4 (some FieldType.int) 305 G SM w [.ref (G.2 100), .int p1, .int p2, .int p3] (some (.int res.1)) res.2 := mc_of (by decide +kernel) rfl (Nat.le_of_ble_eq_true rfl) rfl (fun V C => b_X9_voice_E C h) l
def f_X9_trace (p1 : Int32) (w : Wd) : Option (Int32 × Wd) := bd (f_X9_in p1 (0:Int32) ((w 100 24) - (1:Int32))) (fun q1 => (if q1 = 0 then bd (f_X9_errs (-1000000002:Int32) w) (fun q2 => some (q2.1, q2.2)) else ald w 114 40 p1 (fun v3 => some (v3, w))))
set_option maxRecDepth 20000 in
theorem b_X9_trace_E {G : Gv} {V : Vt} {res : Int32 × Wd}  (C : CX cX9_trace RX9 G SM 2 2 (some FieldType.int) (some (.int res.1)) res.2 V) {p1 : Int32} {w : Wd} (h : f_X9_trace p1 w = some res) : V w 0 [(0, .ref (G.2 100)), (1, .int p1)] [] := by
  unfold f_X9_trace at h
  refine r_iload_n (pc := 0) C dX9_trace_0 rfl 1 rfl ?_
  refine r_iconst (v := (0:Int32)) (pc := 1) C dX9_trace_1 (by decide) ?_
  refine r_aload_n (pc := 2) C dX9_trace_2 rfl 0 rfl ?_
  refine gi_X9_234 (pc := 3) C dX9_trace_3 kx_100 rfl ?_
  refine r_iconst (v := (1:Int32)) (pc := 6) C dX9_trace_6 (by decide) ?_
  refine r_isub (pc := 7) C dX9_trace_7 ?_
  refine cv_X9_53 (pc := 8) C dX9_trace_8  h (by decide) (Nat.le_of_ble_eq_true rfl) (fun q1 h => ?_)
  refine r_if_eq (pc := 11) C 23 dX9_trace_11 (by decide) h (fun h => ?_) (fun h => ?_)
  · refine r_aload_n (pc := 23) C dX9_trace_23 rfl 0 rfl ?_
    refine r_ldc (pc := 24) C dX9_trace_24 qk_X9_218 ?_
    refine cv_X9_62 (pc := 26) C dX9_trace_26  h (by decide) (Nat.le_of_ble_eq_true rfl) (fun q2 h => ?_)
    exact r_iretE (pc := 29) C dX9_trace_29 h
  · refine r_aload_n (pc := 14) C dX9_trace_14 rfl 0 rfl ?_
    refine gr_X9_49 (pc := 15) 114 C dX9_trace_15 kx_100 rfl ?_
    refine r_iload_n (pc := 18) C dX9_trace_18 rfl 1 rfl ?_
    refine r_ald (pc := 19) C dX9_trace_19 h kx_114 (fun v3 h => ?_)
    refine r_goto (pc := 20) C 29 dX9_trace_20 (by decide) ?_
    exact r_iretE (pc := 29) C dX9_trace_29 h
theorem c_X9_trace {G : Gv} {p1 : Int32} {w : Wd} {res : Int32 × Wd} (h : f_X9_trace p1 w = some res) (l : Launch) : MC l yX9_trace cX9_trace 2 (some FieldType.int) 2 G SM w [.ref (G.2 100), .int p1] (some (.int res.1)) res.2 := mc_of (by decide +kernel) rfl (Nat.le_of_ble_eq_true rfl) rfl (fun V C => b_X9_trace_E C h) l
def f_X9_narrow (p0 : Int32) (p1 : Int32) : Option (Int32) := (if ¬ p0 = (8:Int32) then (if ¬ p0 = (16:Int32) then some p1 else some ((p1).toInt16.toInt32)) else some ((p1).toInt8.toInt32))
set_option maxRecDepth 20000 in
theorem b_X9_narrow_E {G : Gv} {V : Vt} {w : Wd} {res : Int32}  (C : CX cX9_narrow RX9 G SM 2 1 (some FieldType.int) (some (.int res)) w V) {p0 : Int32} {p1 : Int32} (h : f_X9_narrow p0 p1 = some res) : V w 0 [(0, .int p0), (1, .int p1)] [] := by
  unfold f_X9_narrow at h
  refine r_iload_n (pc := 0) C dX9_narrow_0 rfl 0 rfl ?_
  refine r_bipush (v := (8:Int32)) (pc := 1) C dX9_narrow_1 (by decide) ?_
  refine r_icmp_ne (pc := 3) C 11 dX9_narrow_3 (by decide) h (fun h => ?_) (fun h => ?_)
  · refine r_iload_n (pc := 11) C dX9_narrow_11 rfl 0 rfl ?_
    refine r_bipush (v := (16:Int32)) (pc := 12) C dX9_narrow_12 (by decide) ?_
    refine r_icmp_ne (pc := 14) C 22 dX9_narrow_14 (by decide) h (fun h => ?_) (fun h => ?_)
    · refine r_iload_n (pc := 22) C dX9_narrow_22 rfl 1 rfl ?_
      exact r_iretP (pc := 23) C dX9_narrow_23 h
    · refine r_iload_n (pc := 17) C dX9_narrow_17 rfl 1 rfl ?_
      refine r_i2s (pc := 18) C dX9_narrow_18 ?_
      refine r_goto (pc := 19) C 23 dX9_narrow_19 (by decide) ?_
      exact r_iretP (pc := 23) C dX9_narrow_23 h
  · refine r_iload_n (pc := 6) C dX9_narrow_6 rfl 1 rfl ?_
    refine r_i2b (pc := 7) C dX9_narrow_7 ?_
    refine r_goto (pc := 8) C 23 dX9_narrow_8 (by decide) ?_
    exact r_iretP (pc := 23) C dX9_narrow_23 h
theorem c_X9_narrow {G : Gv} {p0 : Int32} {p1 : Int32} {w : Wd} {res : Int32} (h : f_X9_narrow p0 p1 = some res) (l : Launch) : MC l yX9_narrow cX9_narrow 2 (some FieldType.int) 1 G SM w [.int p0, .int p1] (some (.int res)) w := mc_of (by decide +kernel) rfl (Nat.le_of_ble_eq_true rfl) rfl (fun V C => b_X9_narrow_E C h) l
def fb_X9_sheet_93 (rec93 : Int32 → Int32 → Wd → Option (Int32 × Wd)) (x1 : Int32) (x4 : Int32) (w : Wd) : Option (Int32 × Wd) := (if (40:Int32) ≤ x4 then some ((1:Int32), w) else ast w 112 160 (((40:Int32) * x1) + x4) (0:Int32) (fun w1 => rec93 x1 (x4 + (1:Int32)) w1))
set_option maxRecDepth 20000 in
theorem bb_X9_sheet_93 {G : Gv} {V : Vt} {rec93 : Int32 → Int32 → Wd → Option (Int32 × Wd)} {res : Int32 × Wd}  (C : CX cX9_sheet RX9 G SM 5 3 (some FieldType.int) (some (.int res.1)) res.2 V) (hrec93 : ∀ (x1 : Int32) (x4 : Int32) (w : Wd), rec93 x1 x4 w = some res → V w 93 [(0, .ref (G.2 100)), (1, .int x1), (4, .int x4)] []) {x1 : Int32} {x4 : Int32} {w : Wd} (h : fb_X9_sheet_93 rec93 x1 x4 w = some res) : V w 93 [(0, .ref (G.2 100)), (1, .int x1), (4, .int x4)] [] := by
  unfold fb_X9_sheet_93 at h
  refine r_iload (pc := 93) C dX9_sheet_93 2 rfl ?_
  refine r_bipush (v := (40:Int32)) (pc := 95) C dX9_sheet_95 (by decide) ?_
  refine r_icmp_ge (pc := 97) C 119 dX9_sheet_97 (by decide) h (fun h => ?_) (fun h => ?_)
  · refine r_iconst (v := (1:Int32)) (pc := 119) C dX9_sheet_119 (by decide) ?_
    exact r_iretE (pc := 120) C dX9_sheet_120 h
  · refine r_aload_n (pc := 100) C dX9_sheet_100 rfl 0 rfl ?_
    refine gr_X9_43 (pc := 101) 112 C dX9_sheet_101 kx_100 rfl ?_
    refine r_bipush (v := (40:Int32)) (pc := 104) C dX9_sheet_104 (by decide) ?_
    refine r_iload_n (pc := 106) C dX9_sheet_106 rfl 1 rfl ?_
    refine r_imul (pc := 107) C dX9_sheet_107 ?_
    refine r_iload (pc := 108) C dX9_sheet_108 2 rfl ?_
    refine r_iadd (pc := 110) C dX9_sheet_110 ?_
    refine r_iconst (v := (0:Int32)) (pc := 111) C dX9_sheet_111 (by decide) ?_
    refine r_ast (pc := 112) C dX9_sheet_112 h kx_112 (fun w1 h => ?_)
    refine r_iinc (v := (x4 + (1:Int32))) (L' := [(4, .int (x4 + (1:Int32))), (0, .ref (G.2 100)), (1, .int x1)]) (pc := 113) C dX9_sheet_113 2 rfl rfl (by decide) rfl ?_
    refine r_goto (pc := 116) C 93 dX9_sheet_116 (by decide) ?_
    exact r_sub C [1, 2, 0] rfl (hrec93 _ _ _ h)
def f_X9_sheet_93 : Int32 → Int32 → Wd → Option (Int32 × Wd) := lp (fun _ _ _ => none) (fun rec => fb_X9_sheet_93 rec) FU
theorem b_X9_sheet_93 {G : Gv} {V : Vt} {res : Int32 × Wd}  (C : CX cX9_sheet RX9 G SM 5 3 (some FieldType.int) (some (.int res.1)) res.2 V) : ∀ (x1 : Int32) (x4 : Int32) (w : Wd), (f_X9_sheet_93) x1 x4 w = some res → V w 93 [(0, .ref (G.2 100)), (1, .int x1), (4, .int x4)] [] :=
  lp_ind (P := fun (g : Int32 → Int32 → Wd → Option (Int32 × Wd)) => ∀ (x1 : Int32) (x4 : Int32) (w : Wd), g x1 x4 w = some res → V w 93 [(0, .ref (G.2 100)), (1, .int x1), (4, .int x4)] []) (fun _ _ _ h => by cases h) (fun g hg _ _ _ h => bb_X9_sheet_93 C hg h) FU
def f_X9_sheet_89 (x1 : Int32) (t0 : Int32) (t1 : Int32) (w : Wd) : Option (Int32 × Wd) := ast w 111 4 t1 t0 (fun w1 => f_X9_sheet_93 x1 (0:Int32) w1)
set_option maxRecDepth 20000 in
theorem b_X9_sheet_89 {G : Gv} {V : Vt} {res : Int32 × Wd}  (C : CX cX9_sheet RX9 G SM 5 3 (some FieldType.int) (some (.int res.1)) res.2 V) {x1 : Int32} {t0 : Int32} {t1 : Int32} {w : Wd} (h : f_X9_sheet_89 x1 t0 t1 w = some res) : V w 89 [(0, .ref (G.2 100)), (1, .int x1)] [.int t0, .int t1, .ref (G.2 111)] := by
  unfold f_X9_sheet_89 at h
  refine r_ast (pc := 89) C dX9_sheet_89 h kx_111 (fun w1 h => ?_)
  refine r_iconst (v := (0:Int32)) (pc := 90) C dX9_sheet_90 (by decide) ?_
  refine r_istore (L' := [(4, .int (0:Int32)), (0, .ref (G.2 100)), (1, .int x1)]) (pc := 91) C dX9_sheet_91 (by decide) rfl ?_
  exact r_sub C [1, 2, 0] rfl (b_X9_sheet_93 C _ _ _ h)
def f_X9_sheet_68 (x1 : Int32) (x2 : Int32) (x3 : Int32) (w : Wd) : Option (Int32 × Wd) := ast w 110 4 x1 x2 (fun w1 => (if ¬ x2 = 0 then f_X9_sheet_89 x1 x3 x1 w1 else f_X9_sheet_89 x1 (0:Int32) x1 w1))
set_option maxRecDepth 20000 in
theorem b_X9_sheet_68 {G : Gv} {V : Vt} {res : Int32 × Wd}  (C : CX cX9_sheet RX9 G SM 5 3 (some FieldType.int) (some (.int res.1)) res.2 V) {x1 : Int32} {x2 : Int32} {x3 : Int32} {w : Wd} (h : f_X9_sheet_68 x1 x2 x3 w = some res) : V w 68 [(0, .ref (G.2 100)), (1, .int x1), (2, .int x2), (3, .int x3)] [] := by
  unfold f_X9_sheet_68 at h
  refine r_aload_n (pc := 68) C dX9_sheet_68 rfl 0 rfl ?_
  refine gr_X9_37 (pc := 69) 110 C dX9_sheet_69 kx_100 rfl ?_
  refine r_iload_n (pc := 72) C dX9_sheet_72 rfl 1 rfl ?_
  refine r_iload_n (pc := 73) C dX9_sheet_73 rfl 2 rfl ?_
  refine r_ast (pc := 74) C dX9_sheet_74 h kx_110 (fun w1 h => ?_)
  refine r_aload_n (pc := 75) C dX9_sheet_75 rfl 0 rfl ?_
  refine gr_X9_40 (pc := 76) 111 C dX9_sheet_76 kx_100 rfl ?_
  refine r_iload_n (pc := 79) C dX9_sheet_79 rfl 1 rfl ?_
  refine r_iload_n (pc := 80) C dX9_sheet_80 rfl 2 rfl ?_
  refine r_if_ne (pc := 81) C 88 dX9_sheet_81 (by decide) h (fun h => ?_) (fun h => ?_)
  · refine r_iload_n (pc := 88) C dX9_sheet_88 rfl 3 rfl ?_
    exact r_sub C [0, 1] rfl (b_X9_sheet_89 C h)
  · refine r_iconst (v := (0:Int32)) (pc := 84) C dX9_sheet_84 (by decide) ?_
    refine r_goto (pc := 85) C 89 dX9_sheet_85 (by decide) ?_
    exact r_sub C [0, 1] rfl (b_X9_sheet_89 C h)
def f_X9_sheet_51 (x1 : Int32) (x2 : Int32) (x3 : Int32) (w : Wd) : Option (Int32 × Wd) := (if x2 = 0 then f_X9_sheet_68 x1 x2 x3 w else (if x3 ≤ (40:Int32) then f_X9_sheet_68 x1 x2 x3 w else bd (f_X9_errs (-1000000001:Int32) w) (fun q1 => some (q1.1, q1.2))))
set_option maxRecDepth 20000 in
theorem b_X9_sheet_51 {G : Gv} {V : Vt} {res : Int32 × Wd}  (C : CX cX9_sheet RX9 G SM 5 3 (some FieldType.int) (some (.int res.1)) res.2 V) {x1 : Int32} {x2 : Int32} {x3 : Int32} {w : Wd} (h : f_X9_sheet_51 x1 x2 x3 w = some res) : V w 51 [(0, .ref (G.2 100)), (1, .int x1), (2, .int x2), (3, .int x3)] [] := by
  unfold f_X9_sheet_51 at h
  refine r_iload_n (pc := 51) C dX9_sheet_51 rfl 2 rfl ?_
  refine r_if_eq (pc := 52) C 68 dX9_sheet_52 (by decide) h (fun h => ?_) (fun h => ?_)
  · exact r_sub C [0, 1, 2, 3] rfl (b_X9_sheet_68 C h)
  · refine r_iload_n (pc := 55) C dX9_sheet_55 rfl 3 rfl ?_
    refine r_bipush (v := (40:Int32)) (pc := 56) C dX9_sheet_56 (by decide) ?_
    refine r_icmp_le (pc := 58) C 68 dX9_sheet_58 (by decide) h (fun h => ?_) (fun h => ?_)
    · exact r_sub C [0, 1, 2, 3] rfl (b_X9_sheet_68 C h)
    · refine r_aload_n (pc := 61) C dX9_sheet_61 rfl 0 rfl ?_
      refine r_ldc (pc := 62) C dX9_sheet_62 qk_X9_61 ?_
      refine cv_X9_62 (pc := 64) C dX9_sheet_64  h (by decide) (Nat.le_of_ble_eq_true rfl) (fun q1 h => ?_)
      exact r_iretE (pc := 67) C dX9_sheet_67 h
def f_X9_sheet_36 (x1 : Int32) (x2 : Int32) (x3 : Int32) (w : Wd) : Option (Int32 × Wd) := (if x2 = 0 then f_X9_sheet_51 x1 x2 x3 w else (if 0 ≤ x3 then f_X9_sheet_51 x1 x2 x3 w else bd (f_X9_errs (-1000000003:Int32) w) (fun q1 => some (q1.1, q1.2))))
set_option maxRecDepth 20000 in
theorem b_X9_sheet_36 {G : Gv} {V : Vt} {res : Int32 × Wd}  (C : CX cX9_sheet RX9 G SM 5 3 (some FieldType.int) (some (.int res.1)) res.2 V) {x1 : Int32} {x2 : Int32} {x3 : Int32} {w : Wd} (h : f_X9_sheet_36 x1 x2 x3 w = some res) : V w 36 [(0, .ref (G.2 100)), (1, .int x1), (2, .int x2), (3, .int x3)] [] := by
  unfold f_X9_sheet_36 at h
  refine r_iload_n (pc := 36) C dX9_sheet_36 rfl 2 rfl ?_
  refine r_if_eq (pc := 37) C 51 dX9_sheet_37 (by decide) h (fun h => ?_) (fun h => ?_)
  · exact r_sub C [0, 1, 2, 3] rfl (b_X9_sheet_51 C h)
  · refine r_iload_n (pc := 40) C dX9_sheet_40 rfl 3 rfl ?_
    refine r_if_ge (pc := 41) C 51 dX9_sheet_41 (by decide) h (fun h => ?_) (fun h => ?_)
    · exact r_sub C [0, 1, 2, 3] rfl (b_X9_sheet_51 C h)
    · refine r_aload_n (pc := 44) C dX9_sheet_44 rfl 0 rfl ?_
      refine r_ldc (pc := 45) C dX9_sheet_45 qk_X9_211 ?_
      refine cv_X9_62 (pc := 47) C dX9_sheet_47  h (by decide) (Nat.le_of_ble_eq_true rfl) (fun q1 h => ?_)
      exact r_iretE (pc := 50) C dX9_sheet_50 h
def f_X9_sheet_29 (w : Wd) : Option (Int32 × Wd) := bd (f_X9_errs (-1000000001:Int32) w) (fun q1 => some (q1.1, q1.2))
set_option maxRecDepth 20000 in
theorem b_X9_sheet_29 {G : Gv} {V : Vt} {res : Int32 × Wd}  (C : CX cX9_sheet RX9 G SM 5 3 (some FieldType.int) (some (.int res.1)) res.2 V) {w : Wd} (h : f_X9_sheet_29 w = some res) : V w 29 [(0, .ref (G.2 100))] [] := by
  unfold f_X9_sheet_29 at h
  refine r_aload_n (pc := 29) C dX9_sheet_29 rfl 0 rfl ?_
  refine r_ldc (pc := 30) C dX9_sheet_30 qk_X9_61 ?_
  refine cv_X9_62 (pc := 32) C dX9_sheet_32  h (by decide) (Nat.le_of_ble_eq_true rfl) (fun q1 h => ?_)
  exact r_iretE (pc := 35) C dX9_sheet_35 h
def f_X9_sheet (p1 : Int32) (p2 : Int32) (p3 : Int32) (w : Wd) : Option (Int32 × Wd) := bd (f_X9_isSheet p1) (fun q1 => (if q1 = 0 then f_X9_sheet_29 w else (if p2 = 0 then f_X9_sheet_36 p1 p2 p3 w else (if p2 = (8:Int32) then f_X9_sheet_36 p1 p2 p3 w else (if p2 = (16:Int32) then f_X9_sheet_36 p1 p2 p3 w else (if p2 = (32:Int32) then f_X9_sheet_36 p1 p2 p3 w else f_X9_sheet_29 w))))))
set_option maxRecDepth 20000 in
theorem b_X9_sheet_E {G : Gv} {V : Vt} {res : Int32 × Wd}  (C : CX cX9_sheet RX9 G SM 5 3 (some FieldType.int) (some (.int res.1)) res.2 V) {p1 : Int32} {p2 : Int32} {p3 : Int32} {w : Wd} (h : f_X9_sheet p1 p2 p3 w = some res) : V w 0 [(0, .ref (G.2 100)), (1, .int p1), (2, .int p2), (3, .int p3)] [] := by
  unfold f_X9_sheet at h
  refine r_iload_n (pc := 0) C dX9_sheet_0 rfl 1 rfl ?_
  refine cv_X9_228 (pc := 1) C dX9_sheet_1  h (by decide) (Nat.le_of_ble_eq_true rfl) (fun q1 h => ?_)
  refine r_if_eq (pc := 4) C 29 dX9_sheet_4 (by decide) h (fun h => ?_) (fun h => ?_)
  · exact r_sub C [0] rfl (b_X9_sheet_29 C h)
  · refine r_iload_n (pc := 7) C dX9_sheet_7 rfl 2 rfl ?_
    refine r_if_eq (pc := 8) C 36 dX9_sheet_8 (by decide) h (fun h => ?_) (fun h => ?_)
    · exact r_sub C [0, 1, 2, 3] rfl (b_X9_sheet_36 C h)
    · refine r_iload_n (pc := 11) C dX9_sheet_11 rfl 2 rfl ?_
      refine r_bipush (v := (8:Int32)) (pc := 12) C dX9_sheet_12 (by decide) ?_
      refine r_icmp_eq (pc := 14) C 36 dX9_sheet_14 (by decide) h (fun h => ?_) (fun h => ?_)
      · exact r_sub C [0, 1, 2, 3] rfl (b_X9_sheet_36 C h)
      · refine r_iload_n (pc := 17) C dX9_sheet_17 rfl 2 rfl ?_
        refine r_bipush (v := (16:Int32)) (pc := 18) C dX9_sheet_18 (by decide) ?_
        refine r_icmp_eq (pc := 20) C 36 dX9_sheet_20 (by decide) h (fun h => ?_) (fun h => ?_)
        · exact r_sub C [0, 1, 2, 3] rfl (b_X9_sheet_36 C h)
        · refine r_iload_n (pc := 23) C dX9_sheet_23 rfl 2 rfl ?_
          refine r_bipush (v := (32:Int32)) (pc := 24) C dX9_sheet_24 (by decide) ?_
          refine r_icmp_eq (pc := 26) C 36 dX9_sheet_26 (by decide) h (fun h => ?_) (fun h => ?_)
          · exact r_sub C [0, 1, 2, 3] rfl (b_X9_sheet_36 C h)
          · exact r_sub C [0] rfl (b_X9_sheet_29 C h)
theorem c_X9_sheet {G : Gv} {p1 : Int32} {p2 : Int32} {p3 : Int32} {w : Wd} {res : Int32 × Wd} (h : f_X9_sheet p1 p2 p3 w = some res) (l : Launch) : MC l yX9_sheet cX9_sheet 5 (some FieldType.int) 3 G SM w [.ref (G.2 100), .int p1, .int p2, .int p3] (some (.int res.1)) res.2 := mc_of (by decide +kernel) rfl (Nat.le_of_ble_eq_true rfl) rfl (fun V C => b_X9_sheet_E C h) l
theorem cv_X9_262 {cc : ByteArray} {G : Gv} {n hc : Nat} {rt : Option FieldType} {rv : Option Value} {w0 : Wd} {V : Vt} {w : Wd} {pc : Nat} {L : List (Nat × Value)} {rest : List Value} {α : Type} {res : α} {p0 : Int32} {p1 : Int32} {K : Int32 → Option α} (C : CX cc RX9 G SM n hc rt rv w0 V) (hd : decode cc pc = .ok (.invokestatic 262, 3)) (h : bd (f_X9_narrow p0 p1) K = some res) (hR : 1 + 1 ≤ hc) (hr : (rest.map fun v => v.category).sum ≤ 8) (kk : ∀ q, K q = some res → V w (pc + 3) L (.int q :: rest)) : V w pc L (.int p1 :: .int p0 :: rest) := r_callS (As := [.int p0, .int p1]) (rest := rest) (rvf := fun q => (some (.int q))) (wf := fun q => w) C hd h ql_X9_262 qt_X9_narrow qn_X9 qc_X9_narrow ⟨by decide +kernel, by decide +kernel, (by decide +kernel : (parseMethodDescriptor yX9_narrow.desc).map (fun d => d.parameters.length) = some 2)⟩ ⟨hR, by decide⟩ (fun q hq l => c_X9_narrow hq l) rfl hr kk
def f_X9_put (p1 : Int32) (p2 : Int32) (p3 : Int32) (w : Wd) : Option (Int32 × Wd) := bd (f_X9_isSheet p1) (fun q1 => (if ¬ q1 = 0 then ald w 110 4 p1 (fun v2 => (if ¬ v2 = 0 then ald w 111 4 p1 (fun v3 => bd (f_X9_in p2 (0:Int32) (v3 - (1:Int32))) (fun q4 => (if ¬ q4 = 0 then ald w 110 4 p1 (fun v5 => bd (f_X9_narrow v5 p3) (fun q6 => ast w 112 160 (((40:Int32) * p1) + p2) q6 (fun w7 => some ((1:Int32), w7)))) else bd (f_X9_errs (-1000000001:Int32) w) (fun q8 => some (q8.1, q8.2))))) else bd (f_X9_errs (-1000000002:Int32) w) (fun q9 => some (q9.1, q9.2)))) else bd (f_X9_errs (-1000000001:Int32) w) (fun q10 => some (q10.1, q10.2))))
set_option maxRecDepth 20000 in
theorem b_X9_put_E {G : Gv} {V : Vt} {res : Int32 × Wd}  (C : CX cX9_put RX9 G SM 4 3 (some FieldType.int) (some (.int res.1)) res.2 V) {p1 : Int32} {p2 : Int32} {p3 : Int32} {w : Wd} (h : f_X9_put p1 p2 p3 w = some res) : V w 0 [(0, .ref (G.2 100)), (1, .int p1), (2, .int p2), (3, .int p3)] [] := by
  unfold f_X9_put at h
  refine r_iload_n (pc := 0) C dX9_put_0 rfl 1 rfl ?_
  refine cv_X9_228 (pc := 1) C dX9_put_1  h (by decide) (Nat.le_of_ble_eq_true rfl) (fun q1 h => ?_)
  refine r_if_ne (pc := 4) C 14 dX9_put_4 (by decide) h (fun h => ?_) (fun h => ?_)
  · refine r_aload_n (pc := 14) C dX9_put_14 rfl 0 rfl ?_
    refine gr_X9_37 (pc := 15) 110 C dX9_put_15 kx_100 rfl ?_
    refine r_iload_n (pc := 18) C dX9_put_18 rfl 1 rfl ?_
    refine r_ald (pc := 19) C dX9_put_19 h kx_110 (fun v2 h => ?_)
    refine r_if_ne (pc := 20) C 30 dX9_put_20 (by decide) h (fun h => ?_) (fun h => ?_)
    · refine r_iload_n (pc := 30) C dX9_put_30 rfl 2 rfl ?_
      refine r_iconst (v := (0:Int32)) (pc := 31) C dX9_put_31 (by decide) ?_
      refine r_aload_n (pc := 32) C dX9_put_32 rfl 0 rfl ?_
      refine gr_X9_40 (pc := 33) 111 C dX9_put_33 kx_100 rfl ?_
      refine r_iload_n (pc := 36) C dX9_put_36 rfl 1 rfl ?_
      refine r_ald (pc := 37) C dX9_put_37 h kx_111 (fun v3 h => ?_)
      refine r_iconst (v := (1:Int32)) (pc := 38) C dX9_put_38 (by decide) ?_
      refine r_isub (pc := 39) C dX9_put_39 ?_
      refine cv_X9_53 (pc := 40) C dX9_put_40  h (by decide) (Nat.le_of_ble_eq_true rfl) (fun q4 h => ?_)
      refine r_if_ne (pc := 43) C 53 dX9_put_43 (by decide) h (fun h => ?_) (fun h => ?_)
      · refine r_aload_n (pc := 53) C dX9_put_53 rfl 0 rfl ?_
        refine gr_X9_43 (pc := 54) 112 C dX9_put_54 kx_100 rfl ?_
        refine r_bipush (v := (40:Int32)) (pc := 57) C dX9_put_57 (by decide) ?_
        refine r_iload_n (pc := 59) C dX9_put_59 rfl 1 rfl ?_
        refine r_imul (pc := 60) C dX9_put_60 ?_
        refine r_iload_n (pc := 61) C dX9_put_61 rfl 2 rfl ?_
        refine r_iadd (pc := 62) C dX9_put_62 ?_
        refine r_aload_n (pc := 63) C dX9_put_63 rfl 0 rfl ?_
        refine gr_X9_37 (pc := 64) 110 C dX9_put_64 kx_100 rfl ?_
        refine r_iload_n (pc := 67) C dX9_put_67 rfl 1 rfl ?_
        refine r_ald (pc := 68) C dX9_put_68 h kx_110 (fun v5 h => ?_)
        refine r_iload_n (pc := 69) C dX9_put_69 rfl 3 rfl ?_
        refine cv_X9_262 (pc := 70) C dX9_put_70  h (by decide) (Nat.le_of_ble_eq_true rfl) (fun q6 h => ?_)
        refine r_ast (pc := 73) C dX9_put_73 h kx_112 (fun w7 h => ?_)
        refine r_iconst (v := (1:Int32)) (pc := 74) C dX9_put_74 (by decide) ?_
        exact r_iretE (pc := 75) C dX9_put_75 h
      · refine r_aload_n (pc := 46) C dX9_put_46 rfl 0 rfl ?_
        refine r_ldc (pc := 47) C dX9_put_47 qk_X9_61 ?_
        refine cv_X9_62 (pc := 49) C dX9_put_49  h (by decide) (Nat.le_of_ble_eq_true rfl) (fun q8 h => ?_)
        exact r_iretE (pc := 52) C dX9_put_52 h
    · refine r_aload_n (pc := 23) C dX9_put_23 rfl 0 rfl ?_
      refine r_ldc (pc := 24) C dX9_put_24 qk_X9_218 ?_
      refine cv_X9_62 (pc := 26) C dX9_put_26  h (by decide) (Nat.le_of_ble_eq_true rfl) (fun q9 h => ?_)
      exact r_iretE (pc := 29) C dX9_put_29 h
  · refine r_aload_n (pc := 7) C dX9_put_7 rfl 0 rfl ?_
    refine r_ldc (pc := 8) C dX9_put_8 qk_X9_61 ?_
    refine cv_X9_62 (pc := 10) C dX9_put_10  h (by decide) (Nat.le_of_ble_eq_true rfl) (fun q10 h => ?_)
    exact r_iretE (pc := 13) C dX9_put_13 h
theorem c_X9_put {G : Gv} {p1 : Int32} {p2 : Int32} {p3 : Int32} {w : Wd} {res : Int32 × Wd} (h : f_X9_put p1 p2 p3 w = some res) (l : Launch) : MC l yX9_put cX9_put 4 (some FieldType.int) 3 G SM w [.ref (G.2 100), .int p1, .int p2, .int p3] (some (.int res.1)) res.2 := mc_of (by decide +kernel) rfl (Nat.le_of_ble_eq_true rfl) rfl (fun V C => b_X9_put_E C h) l
def fb_X9_move_156 (rec156 : Int32 → Int32 → Int32 → Int32 → Wd → Option (Int32 × Wd)) (x3 : Int32) (x4 : Int32) (x5 : Int32) (x6 : Int32) (w : Wd) : Option (Int32 × Wd) := (if x5 ≤ x6 then some (x5, w) else ald w 113 40 x6 (fun v1 => ast w 112 160 ((((40:Int32) * x3) + x4) + x6) v1 (fun w2 => rec156 x3 x4 x5 (x6 + (1:Int32)) w2)))
set_option maxRecDepth 20000 in
theorem bb_X9_move_156 {G : Gv} {V : Vt} {rec156 : Int32 → Int32 → Int32 → Int32 → Wd → Option (Int32 × Wd)} {res : Int32 × Wd}  (C : CX cX9_move RX9 G SM 7 3 (some FieldType.int) (some (.int res.1)) res.2 V) (hrec156 : ∀ (x3 : Int32) (x4 : Int32) (x5 : Int32) (x6 : Int32) (w : Wd), rec156 x3 x4 x5 x6 w = some res → V w 156 [(0, .ref (G.2 100)), (3, .int x3), (4, .int x4), (5, .int x5), (6, .int x6)] []) {x3 : Int32} {x4 : Int32} {x5 : Int32} {x6 : Int32} {w : Wd} (h : fb_X9_move_156 rec156 x3 x4 x5 x6 w = some res) : V w 156 [(0, .ref (G.2 100)), (3, .int x3), (4, .int x4), (5, .int x5), (6, .int x6)] [] := by
  unfold fb_X9_move_156 at h
  refine r_iload (pc := 156) C dX9_move_156 4 rfl ?_
  refine r_iload (pc := 158) C dX9_move_158 3 rfl ?_
  refine r_icmp_ge (pc := 160) C 191 dX9_move_160 (by decide) h (fun h => ?_) (fun h => ?_)
  · refine r_iload (pc := 191) C dX9_move_191 3 rfl ?_
    exact r_iretE (pc := 193) C dX9_move_193 h
  · refine r_aload_n (pc := 163) C dX9_move_163 rfl 0 rfl ?_
    refine gr_X9_43 (pc := 164) 112 C dX9_move_164 kx_100 rfl ?_
    refine r_bipush (v := (40:Int32)) (pc := 167) C dX9_move_167 (by decide) ?_
    refine r_iload_n (pc := 169) C dX9_move_169 rfl 1 rfl ?_
    refine r_imul (pc := 170) C dX9_move_170 ?_
    refine r_iload (pc := 171) C dX9_move_171 2 rfl ?_
    refine r_iadd (pc := 173) C dX9_move_173 ?_
    refine r_iload (pc := 174) C dX9_move_174 4 rfl ?_
    refine r_iadd (pc := 176) C dX9_move_176 ?_
    refine r_aload_n (pc := 177) C dX9_move_177 rfl 0 rfl ?_
    refine gr_X9_46 (pc := 178) 113 C dX9_move_178 kx_100 rfl ?_
    refine r_iload (pc := 181) C dX9_move_181 4 rfl ?_
    refine r_ald (pc := 183) C dX9_move_183 h kx_113 (fun v1 h => ?_)
    refine r_ast (pc := 184) C dX9_move_184 h kx_112 (fun w2 h => ?_)
    refine r_iinc (v := (x6 + (1:Int32))) (L' := [(6, .int (x6 + (1:Int32))), (0, .ref (G.2 100)), (3, .int x3), (4, .int x4), (5, .int x5)]) (pc := 185) C dX9_move_185 4 rfl rfl (by decide) rfl ?_
    refine r_goto (pc := 188) C 156 dX9_move_188 (by decide) ?_
    exact r_sub C [1, 2, 3, 4, 0] rfl (hrec156 _ _ _ _ _ h)
def f_X9_move_156 : Int32 → Int32 → Int32 → Int32 → Wd → Option (Int32 × Wd) := lp (fun _ _ _ _ _ => none) (fun rec => fb_X9_move_156 rec) FU
theorem b_X9_move_156 {G : Gv} {V : Vt} {res : Int32 × Wd}  (C : CX cX9_move RX9 G SM 7 3 (some FieldType.int) (some (.int res.1)) res.2 V) : ∀ (x3 : Int32) (x4 : Int32) (x5 : Int32) (x6 : Int32) (w : Wd), (f_X9_move_156) x3 x4 x5 x6 w = some res → V w 156 [(0, .ref (G.2 100)), (3, .int x3), (4, .int x4), (5, .int x5), (6, .int x6)] [] :=
  lp_ind (P := fun (g : Int32 → Int32 → Int32 → Int32 → Wd → Option (Int32 × Wd)) => ∀ (x3 : Int32) (x4 : Int32) (x5 : Int32) (x6 : Int32) (w : Wd), g x3 x4 x5 x6 w = some res → V w 156 [(0, .ref (G.2 100)), (3, .int x3), (4, .int x4), (5, .int x5), (6, .int x6)] []) (fun _ _ _ _ _ h => by cases h) (fun g hg _ _ _ _ _ h => bb_X9_move_156 C hg h) FU
def f_X9_move_153 (x3 : Int32) (x4 : Int32) (x5 : Int32) (w : Wd) : Option (Int32 × Wd) := f_X9_move_156 x3 x4 x5 (0:Int32) w
set_option maxRecDepth 20000 in
theorem b_X9_move_153 {G : Gv} {V : Vt} {res : Int32 × Wd}  (C : CX cX9_move RX9 G SM 7 3 (some FieldType.int) (some (.int res.1)) res.2 V) {x3 : Int32} {x4 : Int32} {x5 : Int32} {w : Wd} (h : f_X9_move_153 x3 x4 x5 w = some res) : V w 153 [(0, .ref (G.2 100)), (3, .int x3), (4, .int x4), (5, .int x5)] [] := by
  unfold f_X9_move_153 at h
  refine r_iconst (v := (0:Int32)) (pc := 153) C dX9_move_153 (by decide) ?_
  refine r_istore (L' := [(6, .int (0:Int32)), (0, .ref (G.2 100)), (3, .int x3), (4, .int x4), (5, .int x5)]) (pc := 154) C dX9_move_154 (by decide) rfl ?_
  exact r_sub C [1, 2, 3, 4, 0] rfl (b_X9_move_156 C _ _ _ _ _ h)
def fb_X9_move_119 (rec119 : Int32 → Int32 → Int32 → Int32 → Int32 → Int32 → Wd → Option (Int32 × Wd)) (x1 : Int32) (x2 : Int32) (x3 : Int32) (x4 : Int32) (x5 : Int32) (x6 : Int32) (w : Wd) : Option (Int32 × Wd) := (if x5 ≤ x6 then f_X9_move_153 x3 x4 x5 w else ald w 112 160 ((((40:Int32) * x1) + x2) + x6) (fun v1 => ast w 113 40 x6 v1 (fun w2 => rec119 x1 x2 x3 x4 x5 (x6 + (1:Int32)) w2)))
set_option maxRecDepth 20000 in
theorem bb_X9_move_119 {G : Gv} {V : Vt} {rec119 : Int32 → Int32 → Int32 → Int32 → Int32 → Int32 → Wd → Option (Int32 × Wd)} {res : Int32 × Wd}  (C : CX cX9_move RX9 G SM 7 3 (some FieldType.int) (some (.int res.1)) res.2 V) (hrec119 : ∀ (x1 : Int32) (x2 : Int32) (x3 : Int32) (x4 : Int32) (x5 : Int32) (x6 : Int32) (w : Wd), rec119 x1 x2 x3 x4 x5 x6 w = some res → V w 119 [(0, .ref (G.2 100)), (1, .int x1), (2, .int x2), (3, .int x3), (4, .int x4), (5, .int x5), (6, .int x6)] []) {x1 : Int32} {x2 : Int32} {x3 : Int32} {x4 : Int32} {x5 : Int32} {x6 : Int32} {w : Wd} (h : fb_X9_move_119 rec119 x1 x2 x3 x4 x5 x6 w = some res) : V w 119 [(0, .ref (G.2 100)), (1, .int x1), (2, .int x2), (3, .int x3), (4, .int x4), (5, .int x5), (6, .int x6)] [] := by
  unfold fb_X9_move_119 at h
  refine r_iload (pc := 119) C dX9_move_119 6 rfl ?_
  refine r_iload (pc := 121) C dX9_move_121 5 rfl ?_
  refine r_icmp_ge (pc := 123) C 153 dX9_move_123 (by decide) h (fun h => ?_) (fun h => ?_)
  · exact r_sub C [0, 3, 4, 5] rfl (b_X9_move_153 C h)
  · refine r_aload_n (pc := 126) C dX9_move_126 rfl 0 rfl ?_
    refine gr_X9_46 (pc := 127) 113 C dX9_move_127 kx_100 rfl ?_
    refine r_iload (pc := 130) C dX9_move_130 6 rfl ?_
    refine r_aload_n (pc := 132) C dX9_move_132 rfl 0 rfl ?_
    refine gr_X9_43 (pc := 133) 112 C dX9_move_133 kx_100 rfl ?_
    refine r_bipush (v := (40:Int32)) (pc := 136) C dX9_move_136 (by decide) ?_
    refine r_iload_n (pc := 138) C dX9_move_138 rfl 1 rfl ?_
    refine r_imul (pc := 139) C dX9_move_139 ?_
    refine r_iload_n (pc := 140) C dX9_move_140 rfl 2 rfl ?_
    refine r_iadd (pc := 141) C dX9_move_141 ?_
    refine r_iload (pc := 142) C dX9_move_142 6 rfl ?_
    refine r_iadd (pc := 144) C dX9_move_144 ?_
    refine r_ald (pc := 145) C dX9_move_145 h kx_112 (fun v1 h => ?_)
    refine r_ast (pc := 146) C dX9_move_146 h kx_113 (fun w2 h => ?_)
    refine r_iinc (v := (x6 + (1:Int32))) (L' := [(6, .int (x6 + (1:Int32))), (0, .ref (G.2 100)), (1, .int x1), (2, .int x2), (3, .int x3), (4, .int x4), (5, .int x5)]) (pc := 147) C dX9_move_147 6 rfl rfl (by decide) rfl ?_
    refine r_goto (pc := 150) C 119 dX9_move_150 (by decide) ?_
    exact r_sub C [1, 2, 3, 4, 5, 6, 0] rfl (hrec119 _ _ _ _ _ _ _ h)
def f_X9_move_119 : Int32 → Int32 → Int32 → Int32 → Int32 → Int32 → Wd → Option (Int32 × Wd) := lp (fun _ _ _ _ _ _ _ => none) (fun rec => fb_X9_move_119 rec) FU
theorem b_X9_move_119 {G : Gv} {V : Vt} {res : Int32 × Wd}  (C : CX cX9_move RX9 G SM 7 3 (some FieldType.int) (some (.int res.1)) res.2 V) : ∀ (x1 : Int32) (x2 : Int32) (x3 : Int32) (x4 : Int32) (x5 : Int32) (x6 : Int32) (w : Wd), (f_X9_move_119) x1 x2 x3 x4 x5 x6 w = some res → V w 119 [(0, .ref (G.2 100)), (1, .int x1), (2, .int x2), (3, .int x3), (4, .int x4), (5, .int x5), (6, .int x6)] [] :=
  lp_ind (P := fun (g : Int32 → Int32 → Int32 → Int32 → Int32 → Int32 → Wd → Option (Int32 × Wd)) => ∀ (x1 : Int32) (x2 : Int32) (x3 : Int32) (x4 : Int32) (x5 : Int32) (x6 : Int32) (w : Wd), g x1 x2 x3 x4 x5 x6 w = some res → V w 119 [(0, .ref (G.2 100)), (1, .int x1), (2, .int x2), (3, .int x3), (4, .int x4), (5, .int x5), (6, .int x6)] []) (fun _ _ _ _ _ _ _ h => by cases h) (fun g hg _ _ _ _ _ _ _ h => bb_X9_move_119 C hg h) FU
def f_X9_move_109 (w : Wd) : Option (Int32 × Wd) := bd (f_X9_errs (-1000000001:Int32) w) (fun q1 => some (q1.1, q1.2))
set_option maxRecDepth 20000 in
theorem b_X9_move_109 {G : Gv} {V : Vt} {res : Int32 × Wd}  (C : CX cX9_move RX9 G SM 7 3 (some FieldType.int) (some (.int res.1)) res.2 V) {w : Wd} (h : f_X9_move_109 w = some res) : V w 109 [(0, .ref (G.2 100))] [] := by
  unfold f_X9_move_109 at h
  refine r_aload_n (pc := 109) C dX9_move_109 rfl 0 rfl ?_
  refine r_ldc (pc := 110) C dX9_move_110 qk_X9_61 ?_
  refine cv_X9_62 (pc := 112) C dX9_move_112  h (by decide) (Nat.le_of_ble_eq_true rfl) (fun q1 h => ?_)
  exact r_iretE (pc := 115) C dX9_move_115 h
def f_X9_move_39 (w : Wd) : Option (Int32 × Wd) := bd (f_X9_errs (-1000000002:Int32) w) (fun q1 => some (q1.1, q1.2))
set_option maxRecDepth 20000 in
theorem b_X9_move_39 {G : Gv} {V : Vt} {res : Int32 × Wd}  (C : CX cX9_move RX9 G SM 7 3 (some FieldType.int) (some (.int res.1)) res.2 V) {w : Wd} (h : f_X9_move_39 w = some res) : V w 39 [(0, .ref (G.2 100))] [] := by
  unfold f_X9_move_39 at h
  refine r_aload_n (pc := 39) C dX9_move_39 rfl 0 rfl ?_
  refine r_ldc (pc := 40) C dX9_move_40 qk_X9_218 ?_
  refine cv_X9_62 (pc := 42) C dX9_move_42  h (by decide) (Nat.le_of_ble_eq_true rfl) (fun q1 h => ?_)
  exact r_iretE (pc := 45) C dX9_move_45 h
def f_X9_move_14 (w : Wd) : Option (Int32 × Wd) := bd (f_X9_errs (-1000000001:Int32) w) (fun q1 => some (q1.1, q1.2))
set_option maxRecDepth 20000 in
theorem b_X9_move_14 {G : Gv} {V : Vt} {res : Int32 × Wd}  (C : CX cX9_move RX9 G SM 7 3 (some FieldType.int) (some (.int res.1)) res.2 V) {w : Wd} (h : f_X9_move_14 w = some res) : V w 14 [(0, .ref (G.2 100))] [] := by
  unfold f_X9_move_14 at h
  refine r_aload_n (pc := 14) C dX9_move_14 rfl 0 rfl ?_
  refine r_ldc (pc := 15) C dX9_move_15 qk_X9_61 ?_
  refine cv_X9_62 (pc := 17) C dX9_move_17  h (by decide) (Nat.le_of_ble_eq_true rfl) (fun q1 h => ?_)
  exact r_iretE (pc := 20) C dX9_move_20 h
def f_X9_move (p1 : Int32) (p2 : Int32) (p3 : Int32) (p4 : Int32) (p5 : Int32) (w : Wd) : Option (Int32 × Wd) := bd (f_X9_isSheet p1) (fun q1 => (if q1 = 0 then f_X9_move_14 w else bd (f_X9_isSheet p3) (fun q2 => (if ¬ q2 = 0 then ald w 110 4 p1 (fun v3 => (if v3 = 0 then f_X9_move_39 w else ald w 110 4 p3 (fun v4 => (if ¬ v4 = 0 then ald w 110 4 p1 (fun v5 => ald w 110 4 p3 (fun v6 => (if v5 = v6 then (if p5 < 0 then f_X9_move_109 w else (if p2 < 0 then f_X9_move_109 w else (if p4 < 0 then f_X9_move_109 w else ald w 111 4 p1 (fun v7 => (if (v7 - p5) < p2 then f_X9_move_109 w else ald w 111 4 p3 (fun v8 => (if p4 ≤ (v8 - p5) then f_X9_move_119 p1 p2 p3 p4 p5 (0:Int32) w else f_X9_move_109 w))))))) else bd (f_X9_errs (-1000000005:Int32) w) (fun q9 => some (q9.1, q9.2))))) else f_X9_move_39 w)))) else f_X9_move_14 w))))
set_option maxRecDepth 20000 in
theorem b_X9_move_E {G : Gv} {V : Vt} {res : Int32 × Wd}  (C : CX cX9_move RX9 G SM 7 3 (some FieldType.int) (some (.int res.1)) res.2 V) {p1 : Int32} {p2 : Int32} {p3 : Int32} {p4 : Int32} {p5 : Int32} {w : Wd} (h : f_X9_move p1 p2 p3 p4 p5 w = some res) : V w 0 [(0, .ref (G.2 100)), (1, .int p1), (2, .int p2), (3, .int p3), (4, .int p4), (5, .int p5)] [] := by
  unfold f_X9_move at h
  refine r_iload_n (pc := 0) C dX9_move_0 rfl 1 rfl ?_
  refine cv_X9_228 (pc := 1) C dX9_move_1  h (by decide) (Nat.le_of_ble_eq_true rfl) (fun q1 h => ?_)
  refine r_if_eq (pc := 4) C 14 dX9_move_4 (by decide) h (fun h => ?_) (fun h => ?_)
  · exact r_sub C [0] rfl (b_X9_move_14 C h)
  · refine r_iload_n (pc := 7) C dX9_move_7 rfl 3 rfl ?_
    refine cv_X9_228 (pc := 8) C dX9_move_8  h (by decide) (Nat.le_of_ble_eq_true rfl) (fun q2 h => ?_)
    refine r_if_ne (pc := 11) C 21 dX9_move_11 (by decide) h (fun h => ?_) (fun h => ?_)
    · refine r_aload_n (pc := 21) C dX9_move_21 rfl 0 rfl ?_
      refine gr_X9_37 (pc := 22) 110 C dX9_move_22 kx_100 rfl ?_
      refine r_iload_n (pc := 25) C dX9_move_25 rfl 1 rfl ?_
      refine r_ald (pc := 26) C dX9_move_26 h kx_110 (fun v3 h => ?_)
      refine r_if_eq (pc := 27) C 39 dX9_move_27 (by decide) h (fun h => ?_) (fun h => ?_)
      · exact r_sub C [0] rfl (b_X9_move_39 C h)
      · refine r_aload_n (pc := 30) C dX9_move_30 rfl 0 rfl ?_
        refine gr_X9_37 (pc := 31) 110 C dX9_move_31 kx_100 rfl ?_
        refine r_iload_n (pc := 34) C dX9_move_34 rfl 3 rfl ?_
        refine r_ald (pc := 35) C dX9_move_35 h kx_110 (fun v4 h => ?_)
        refine r_if_ne (pc := 36) C 46 dX9_move_36 (by decide) h (fun h => ?_) (fun h => ?_)
        · refine r_aload_n (pc := 46) C dX9_move_46 rfl 0 rfl ?_
          refine gr_X9_37 (pc := 47) 110 C dX9_move_47 kx_100 rfl ?_
          refine r_iload_n (pc := 50) C dX9_move_50 rfl 1 rfl ?_
          refine r_ald (pc := 51) C dX9_move_51 h kx_110 (fun v5 h => ?_)
          refine r_aload_n (pc := 52) C dX9_move_52 rfl 0 rfl ?_
          refine gr_X9_37 (pc := 53) 110 C dX9_move_53 kx_100 rfl ?_
          refine r_iload_n (pc := 56) C dX9_move_56 rfl 3 rfl ?_
          refine r_ald (pc := 57) C dX9_move_57 h kx_110 (fun v6 h => ?_)
          refine r_icmp_eq (pc := 58) C 68 dX9_move_58 (by decide) h (fun h => ?_) (fun h => ?_)
          · refine r_iload (pc := 68) C dX9_move_68 5 rfl ?_
            refine r_if_lt (pc := 70) C 109 dX9_move_70 (by decide) h (fun h => ?_) (fun h => ?_)
            · exact r_sub C [0] rfl (b_X9_move_109 C h)
            · refine r_iload_n (pc := 73) C dX9_move_73 rfl 2 rfl ?_
              refine r_if_lt (pc := 74) C 109 dX9_move_74 (by decide) h (fun h => ?_) (fun h => ?_)
              · exact r_sub C [0] rfl (b_X9_move_109 C h)
              · refine r_iload (pc := 77) C dX9_move_77 4 rfl ?_
                refine r_if_lt (pc := 79) C 109 dX9_move_79 (by decide) h (fun h => ?_) (fun h => ?_)
                · exact r_sub C [0] rfl (b_X9_move_109 C h)
                · refine r_iload_n (pc := 82) C dX9_move_82 rfl 2 rfl ?_
                  refine r_aload_n (pc := 83) C dX9_move_83 rfl 0 rfl ?_
                  refine gr_X9_40 (pc := 84) 111 C dX9_move_84 kx_100 rfl ?_
                  refine r_iload_n (pc := 87) C dX9_move_87 rfl 1 rfl ?_
                  refine r_ald (pc := 88) C dX9_move_88 h kx_111 (fun v7 h => ?_)
                  refine r_iload (pc := 89) C dX9_move_89 5 rfl ?_
                  refine r_isub (pc := 91) C dX9_move_91 ?_
                  refine r_icmp_gt (pc := 92) C 109 dX9_move_92 (by decide) h (fun h => ?_) (fun h => ?_)
                  · exact r_sub C [0] rfl (b_X9_move_109 C h)
                  · refine r_iload (pc := 95) C dX9_move_95 4 rfl ?_
                    refine r_aload_n (pc := 97) C dX9_move_97 rfl 0 rfl ?_
                    refine gr_X9_40 (pc := 98) 111 C dX9_move_98 kx_100 rfl ?_
                    refine r_iload_n (pc := 101) C dX9_move_101 rfl 3 rfl ?_
                    refine r_ald (pc := 102) C dX9_move_102 h kx_111 (fun v8 h => ?_)
                    refine r_iload (pc := 103) C dX9_move_103 5 rfl ?_
                    refine r_isub (pc := 105) C dX9_move_105 ?_
                    refine r_icmp_le (pc := 106) C 116 dX9_move_106 (by decide) h (fun h => ?_) (fun h => ?_)
                    · refine r_iconst (v := (0:Int32)) (pc := 116) C dX9_move_116 (by decide) ?_
                      refine r_istore (L' := [(6, .int (0:Int32)), (0, .ref (G.2 100)), (1, .int p1), (2, .int p2), (3, .int p3), (4, .int p4), (5, .int p5)]) (pc := 117) C dX9_move_117 (by decide) rfl ?_
                      exact r_sub C [1, 2, 3, 4, 5, 6, 0] rfl (b_X9_move_119 C _ _ _ _ _ _ _ h)
                    · exact r_sub C [0] rfl (b_X9_move_109 C h)
          · refine r_aload_n (pc := 61) C dX9_move_61 rfl 0 rfl ?_
            refine r_ldc (pc := 62) C dX9_move_62 qk_X9_96 ?_
            refine cv_X9_62 (pc := 64) C dX9_move_64  h (by decide) (Nat.le_of_ble_eq_true rfl) (fun q9 h => ?_)
            exact r_iretE (pc := 67) C dX9_move_67 h
        · exact r_sub C [0] rfl (b_X9_move_39 C h)
    · exact r_sub C [0] rfl (b_X9_move_14 C h)
theorem c_X9_move {G : Gv} {p1 : Int32} {p2 : Int32} {p3 : Int32} {p4 : Int32} {p5 : Int32} {w : Wd} {res : Int32 × Wd} (h : f_X9_move p1 p2 p3 p4 p5 w = some res) (l : Launch) : MC l yX9_move cX9_move 7 (some FieldType.int) 3 G SM w [.ref (G.2 100), .int p1, .int p2, .int p3, .int p4, .int p5] (some (.int res.1)) res.2 := mc_of (by decide +kernel) rfl (Nat.le_of_ble_eq_true rfl) rfl (fun V C => b_X9_move_E C h) l
def fb_X9_loads_32 (rec32 : Int32 → Int32 → Wd → Option (Int32 × Wd)) (x1 : Int32) (x2 : Int32) (w : Wd) : Option (Int32 × Wd) := ald w 111 4 x1 (fun v1 => (if v1 ≤ x2 then some (x2, w) else ald w 101 229 (3:Int32) (fun v2 => (if v2 ≤ x2 then some (x2, w) else ald w 112 160 (((40:Int32) * x1) + x2) (fun v3 => bd (f_X9_in v3 (0:Int32) (99:Int32)) (fun q4 => (if q4 = 0 then some (x2, w) else ald w 112 160 (((40:Int32) * x1) + x2) (fun v5 => ast w 101 229 (((9:Int32) + ((4:Int32) * x2)) + (2:Int32)) v5 (fun w6 => rec32 x1 (x2 + (1:Int32)) w6)))))))))
set_option maxRecDepth 20000 in
theorem bb_X9_loads_32 {G : Gv} {V : Vt} {rec32 : Int32 → Int32 → Wd → Option (Int32 × Wd)} {res : Int32 × Wd}  (C : CX cX9_loads RX9 G SM 3 3 (some FieldType.int) (some (.int res.1)) res.2 V) (hrec32 : ∀ (x1 : Int32) (x2 : Int32) (w : Wd), rec32 x1 x2 w = some res → V w 32 [(0, .ref (G.2 100)), (1, .int x1), (2, .int x2)] []) {x1 : Int32} {x2 : Int32} {w : Wd} (h : fb_X9_loads_32 rec32 x1 x2 w = some res) : V w 32 [(0, .ref (G.2 100)), (1, .int x1), (2, .int x2)] [] := by
  unfold fb_X9_loads_32 at h
  refine r_iload_n (pc := 32) C dX9_loads_32 rfl 2 rfl ?_
  refine r_aload_n (pc := 33) C dX9_loads_33 rfl 0 rfl ?_
  refine gr_X9_40 (pc := 34) 111 C dX9_loads_34 kx_100 rfl ?_
  refine r_iload_n (pc := 37) C dX9_loads_37 rfl 1 rfl ?_
  refine r_ald (pc := 38) C dX9_loads_38 h kx_111 (fun v1 h => ?_)
  refine r_icmp_ge (pc := 39) C 102 dX9_loads_39 (by decide) h (fun h => ?_) (fun h => ?_)
  · refine r_iload_n (pc := 102) C dX9_loads_102 rfl 2 rfl ?_
    exact r_iretE (pc := 103) C dX9_loads_103 h
  · refine r_iload_n (pc := 42) C dX9_loads_42 rfl 2 rfl ?_
    refine r_aload_n (pc := 43) C dX9_loads_43 rfl 0 rfl ?_
    refine gr_X9_7 (pc := 44) 101 C dX9_loads_44 kx_100 rfl ?_
    refine r_iconst (v := (3:Int32)) (pc := 47) C dX9_loads_47 (by decide) ?_
    refine r_ald (pc := 48) C dX9_loads_48 h kx_101 (fun v2 h => ?_)
    refine r_icmp_ge (pc := 49) C 102 dX9_loads_49 (by decide) h (fun h => ?_) (fun h => ?_)
    · refine r_iload_n (pc := 102) C dX9_loads_102 rfl 2 rfl ?_
      exact r_iretE (pc := 103) C dX9_loads_103 h
    · refine r_aload_n (pc := 52) C dX9_loads_52 rfl 0 rfl ?_
      refine gr_X9_43 (pc := 53) 112 C dX9_loads_53 kx_100 rfl ?_
      refine r_bipush (v := (40:Int32)) (pc := 56) C dX9_loads_56 (by decide) ?_
      refine r_iload_n (pc := 58) C dX9_loads_58 rfl 1 rfl ?_
      refine r_imul (pc := 59) C dX9_loads_59 ?_
      refine r_iload_n (pc := 60) C dX9_loads_60 rfl 2 rfl ?_
      refine r_iadd (pc := 61) C dX9_loads_61 ?_
      refine r_ald (pc := 62) C dX9_loads_62 h kx_112 (fun v3 h => ?_)
      refine r_iconst (v := (0:Int32)) (pc := 63) C dX9_loads_63 (by decide) ?_
      refine r_bipush (v := (99:Int32)) (pc := 64) C dX9_loads_64 (by decide) ?_
      refine cv_X9_53 (pc := 66) C dX9_loads_66  h (by decide) (Nat.le_of_ble_eq_true rfl) (fun q4 h => ?_)
      refine r_if_eq (pc := 69) C 102 dX9_loads_69 (by decide) h (fun h => ?_) (fun h => ?_)
      · refine r_iload_n (pc := 102) C dX9_loads_102 rfl 2 rfl ?_
        exact r_iretE (pc := 103) C dX9_loads_103 h
      · refine r_aload_n (pc := 72) C dX9_loads_72 rfl 0 rfl ?_
        refine gr_X9_7 (pc := 73) 101 C dX9_loads_73 kx_100 rfl ?_
        refine r_bipush (v := (9:Int32)) (pc := 76) C dX9_loads_76 (by decide) ?_
        refine r_iconst (v := (4:Int32)) (pc := 78) C dX9_loads_78 (by decide) ?_
        refine r_iload_n (pc := 79) C dX9_loads_79 rfl 2 rfl ?_
        refine r_imul (pc := 80) C dX9_loads_80 ?_
        refine r_iadd (pc := 81) C dX9_loads_81 ?_
        refine r_iconst (v := (2:Int32)) (pc := 82) C dX9_loads_82 (by decide) ?_
        refine r_iadd (pc := 83) C dX9_loads_83 ?_
        refine r_aload_n (pc := 84) C dX9_loads_84 rfl 0 rfl ?_
        refine gr_X9_43 (pc := 85) 112 C dX9_loads_85 kx_100 rfl ?_
        refine r_bipush (v := (40:Int32)) (pc := 88) C dX9_loads_88 (by decide) ?_
        refine r_iload_n (pc := 90) C dX9_loads_90 rfl 1 rfl ?_
        refine r_imul (pc := 91) C dX9_loads_91 ?_
        refine r_iload_n (pc := 92) C dX9_loads_92 rfl 2 rfl ?_
        refine r_iadd (pc := 93) C dX9_loads_93 ?_
        refine r_ald (pc := 94) C dX9_loads_94 h kx_112 (fun v5 h => ?_)
        refine r_ast (pc := 95) C dX9_loads_95 h kx_101 (fun w6 h => ?_)
        refine r_iinc (v := (x2 + (1:Int32))) (L' := [(2, .int (x2 + (1:Int32))), (0, .ref (G.2 100)), (1, .int x1)]) (pc := 96) C dX9_loads_96 2 rfl rfl (by decide) rfl ?_
        refine r_goto (pc := 99) C 32 dX9_loads_99 (by decide) ?_
        exact r_sub C [1, 2, 0] rfl (hrec32 _ _ _ h)
def f_X9_loads_32 : Int32 → Int32 → Wd → Option (Int32 × Wd) := lp (fun _ _ _ => none) (fun rec => fb_X9_loads_32 rec) FU
theorem b_X9_loads_32 {G : Gv} {V : Vt} {res : Int32 × Wd}  (C : CX cX9_loads RX9 G SM 3 3 (some FieldType.int) (some (.int res.1)) res.2 V) : ∀ (x1 : Int32) (x2 : Int32) (w : Wd), (f_X9_loads_32) x1 x2 w = some res → V w 32 [(0, .ref (G.2 100)), (1, .int x1), (2, .int x2)] [] :=
  lp_ind (P := fun (g : Int32 → Int32 → Wd → Option (Int32 × Wd)) => ∀ (x1 : Int32) (x2 : Int32) (w : Wd), g x1 x2 w = some res → V w 32 [(0, .ref (G.2 100)), (1, .int x1), (2, .int x2)] []) (fun _ _ _ h => by cases h) (fun g hg _ _ _ h => bb_X9_loads_32 C hg h) FU
def f_X9_loads (p1 : Int32) (w : Wd) : Option (Int32 × Wd) := bd (f_X9_isSheet p1) (fun q1 => (if ¬ q1 = 0 then ald w 110 4 p1 (fun v2 => (if ¬ v2 = 0 then f_X9_loads_32 p1 (0:Int32) w else bd (f_X9_errs (-1000000002:Int32) w) (fun q3 => some (q3.1, q3.2)))) else bd (f_X9_errs (-1000000001:Int32) w) (fun q4 => some (q4.1, q4.2))))
set_option maxRecDepth 20000 in
theorem b_X9_loads_E {G : Gv} {V : Vt} {res : Int32 × Wd}  (C : CX cX9_loads RX9 G SM 3 3 (some FieldType.int) (some (.int res.1)) res.2 V) {p1 : Int32} {w : Wd} (h : f_X9_loads p1 w = some res) : V w 0 [(0, .ref (G.2 100)), (1, .int p1)] [] := by
  unfold f_X9_loads at h
  refine r_iload_n (pc := 0) C dX9_loads_0 rfl 1 rfl ?_
  refine cv_X9_228 (pc := 1) C dX9_loads_1  h (by decide) (Nat.le_of_ble_eq_true rfl) (fun q1 h => ?_)
  refine r_if_ne (pc := 4) C 14 dX9_loads_4 (by decide) h (fun h => ?_) (fun h => ?_)
  · refine r_aload_n (pc := 14) C dX9_loads_14 rfl 0 rfl ?_
    refine gr_X9_37 (pc := 15) 110 C dX9_loads_15 kx_100 rfl ?_
    refine r_iload_n (pc := 18) C dX9_loads_18 rfl 1 rfl ?_
    refine r_ald (pc := 19) C dX9_loads_19 h kx_110 (fun v2 h => ?_)
    refine r_if_ne (pc := 20) C 30 dX9_loads_20 (by decide) h (fun h => ?_) (fun h => ?_)
    · refine r_iconst (v := (0:Int32)) (pc := 30) C dX9_loads_30 (by decide) ?_
      refine r_istore_n (L' := [(2, .int (0:Int32)), (0, .ref (G.2 100)), (1, .int p1)]) (pc := 31) C dX9_loads_31 rfl (by decide) rfl ?_
      exact r_sub C [1, 2, 0] rfl (b_X9_loads_32 C _ _ _ h)
    · refine r_aload_n (pc := 23) C dX9_loads_23 rfl 0 rfl ?_
      refine r_ldc (pc := 24) C dX9_loads_24 qk_X9_218 ?_
      refine cv_X9_62 (pc := 26) C dX9_loads_26  h (by decide) (Nat.le_of_ble_eq_true rfl) (fun q3 h => ?_)
      exact r_iretE (pc := 29) C dX9_loads_29 h
  · refine r_aload_n (pc := 7) C dX9_loads_7 rfl 0 rfl ?_
    refine r_ldc (pc := 8) C dX9_loads_8 qk_X9_61 ?_
    refine cv_X9_62 (pc := 10) C dX9_loads_10  h (by decide) (Nat.le_of_ble_eq_true rfl) (fun q4 h => ?_)
    exact r_iretE (pc := 13) C dX9_loads_13 h
theorem c_X9_loads {G : Gv} {p1 : Int32} {w : Wd} {res : Int32 × Wd} (h : f_X9_loads p1 w = some res) (l : Launch) : MC l yX9_loads cX9_loads 3 (some FieldType.int) 3 G SM w [.ref (G.2 100), .int p1] (some (.int res.1)) res.2 := mc_of (by decide +kernel) rfl (Nat.le_of_ble_eq_true rfl) rfl (fun V C => b_X9_loads_E C h) l
def f_X9_judge (p1 : Int32) (w : Wd) : Option (Int32 × Wd) := bd (f_X9_isSheet p1) (fun q1 => (if ¬ q1 = 0 then ald w 110 4 p1 (fun v2 => (if ¬ v2 = 0 then bd (f_X9_wrong p1 w) (fun q3 => some (q3.1, q3.2)) else bd (f_X9_errs (-1000000002:Int32) w) (fun q4 => some (q4.1, q4.2)))) else bd (f_X9_errs (-1000000001:Int32) w) (fun q5 => some (q5.1, q5.2))))
set_option maxRecDepth 20000 in
theorem b_X9_judge_E {G : Gv} {V : Vt} {res : Int32 × Wd}  (C : CX cX9_judge RX9 G SM 2 6 (some FieldType.int) (some (.int res.1)) res.2 V) {p1 : Int32} {w : Wd} (h : f_X9_judge p1 w = some res) : V w 0 [(0, .ref (G.2 100)), (1, .int p1)] [] := by
  unfold f_X9_judge at h
  refine r_iload_n (pc := 0) C dX9_judge_0 rfl 1 rfl ?_
  refine cv_X9_228 (pc := 1) C dX9_judge_1  h (by decide) (Nat.le_of_ble_eq_true rfl) (fun q1 h => ?_)
  refine r_if_ne (pc := 4) C 14 dX9_judge_4 (by decide) h (fun h => ?_) (fun h => ?_)
  · refine r_aload_n (pc := 14) C dX9_judge_14 rfl 0 rfl ?_
    refine gr_X9_37 (pc := 15) 110 C dX9_judge_15 kx_100 rfl ?_
    refine r_iload_n (pc := 18) C dX9_judge_18 rfl 1 rfl ?_
    refine r_ald (pc := 19) C dX9_judge_19 h kx_110 (fun v2 h => ?_)
    refine r_if_ne (pc := 20) C 32 dX9_judge_20 (by decide) h (fun h => ?_) (fun h => ?_)
    · refine r_aload_n (pc := 32) C dX9_judge_32 rfl 0 rfl ?_
      refine r_iload_n (pc := 33) C dX9_judge_33 rfl 1 rfl ?_
      refine cv_X9_231 (pc := 34) C dX9_judge_34  h (by decide) (Nat.le_of_ble_eq_true rfl) (fun q3 h => ?_)
      exact r_iretE (pc := 37) C dX9_judge_37 h
    · refine r_aload_n (pc := 23) C dX9_judge_23 rfl 0 rfl ?_
      refine r_ldc (pc := 24) C dX9_judge_24 qk_X9_218 ?_
      refine cv_X9_62 (pc := 26) C dX9_judge_26  h (by decide) (Nat.le_of_ble_eq_true rfl) (fun q4 h => ?_)
      refine r_goto (pc := 29) C 37 dX9_judge_29 (by decide) ?_
      exact r_iretE (pc := 37) C dX9_judge_37 h
  · refine r_aload_n (pc := 7) C dX9_judge_7 rfl 0 rfl ?_
    refine r_ldc (pc := 8) C dX9_judge_8 qk_X9_61 ?_
    refine cv_X9_62 (pc := 10) C dX9_judge_10  h (by decide) (Nat.le_of_ble_eq_true rfl) (fun q5 h => ?_)
    exact r_iretE (pc := 13) C dX9_judge_13 h
theorem c_X9_judge {G : Gv} {p1 : Int32} {w : Wd} {res : Int32 × Wd} (h : f_X9_judge p1 w = some res) (l : Launch) : MC l yX9_judge cX9_judge 2 (some FieldType.int) 6 G SM w [.ref (G.2 100), .int p1] (some (.int res.1)) res.2 := mc_of (by decide +kernel) rfl (Nat.le_of_ble_eq_true rfl) rfl (fun V C => b_X9_judge_E C h) l
def f_X9_image (w : Wd) : Option (Int32 × Wd) := bd (f_X9_moveAll 101 102 w) (fun q1 => wl (updW q1 100 4 (1:Int32)) (fun w2 => wl (updW w2 100 5 ((w2 100 5) + (1:Int32))) (fun w3 => some ((w3 100 5), w3))))
set_option maxRecDepth 20000 in
theorem b_X9_image_E {G : Gv} {V : Vt} {res : Int32 × Wd}  (C : CX cX9_image RX9 G SM 1 2 (some FieldType.int) (some (.int res.1)) res.2 V) {w : Wd} (h : f_X9_image w = some res) : V w 0 [(0, .ref (G.2 100))] [] := by
  unfold f_X9_image at h
  refine r_aload_n (pc := 0) C dX9_image_0 rfl 0 rfl ?_
  refine r_aload_n (pc := 1) C dX9_image_1 rfl 0 rfl ?_
  refine gr_X9_7 (pc := 2) 101 C dX9_image_2 kx_100 rfl ?_
  refine r_aload_n (pc := 5) C dX9_image_5 rfl 0 rfl ?_
  refine gr_X9_13 (pc := 6) 102 C dX9_image_6 kx_100 rfl ?_
  refine cv_X9_186 (pc := 9) C dX9_image_9 isAm_101 isAm_102 h (by decide) (Nat.le_of_ble_eq_true rfl) (fun q1 h => ?_)
  refine r_aload_n (pc := 12) C dX9_image_12 rfl 0 rfl ?_
  refine r_iconst (v := (1:Int32)) (pc := 13) C dX9_image_13 (by decide) ?_
  refine pi_X9_265 (pc := 14) C dX9_image_14 kx_100 rfl rfl rfl h (fun w2 h => ?_)
  refine r_aload_n (pc := 17) C dX9_image_17 rfl 0 rfl ?_
  refine r_dup (pc := 18) C dX9_image_18 rfl ?_
  refine gi_X9_268 (pc := 19) C dX9_image_19 kx_100 rfl ?_
  refine r_iconst (v := (1:Int32)) (pc := 22) C dX9_image_22 (by decide) ?_
  refine r_iadd (pc := 23) C dX9_image_23 ?_
  refine pi_X9_268 (pc := 24) C dX9_image_24 kx_100 rfl h (fun w3 h => ?_)
  refine r_aload_n (pc := 27) C dX9_image_27 rfl 0 rfl ?_
  refine gi_X9_268 (pc := 28) C dX9_image_28 kx_100 rfl ?_
  exact r_iretE (pc := 31) C dX9_image_31 h
theorem c_X9_image {G : Gv} {w : Wd} {res : Int32 × Wd} (h : f_X9_image w = some res) (l : Launch) : MC l yX9_image cX9_image 1 (some FieldType.int) 2 G SM w [.ref (G.2 100)] (some (.int res.1)) res.2 := mc_of (by decide +kernel) rfl (Nat.le_of_ble_eq_true rfl) rfl (fun V C => b_X9_image_E C h) l
def f_X9_restore (w : Wd) : Option (Int32 × Wd) := (if ¬ (w 100 4) = 0 then bd (f_X9_moveAll 102 101 w) (fun q1 => ald q1 101 229 (0:Int32) (fun v2 => some (v2, q1))) else bd (f_X9_errs (-1000000002:Int32) w) (fun q3 => some (q3.1, q3.2)))
set_option maxRecDepth 20000 in
theorem b_X9_restore_E {G : Gv} {V : Vt} {res : Int32 × Wd}  (C : CX cX9_restore RX9 G SM 1 2 (some FieldType.int) (some (.int res.1)) res.2 V) {w : Wd} (h : f_X9_restore w = some res) : V w 0 [(0, .ref (G.2 100))] [] := by
  unfold f_X9_restore at h
  refine r_aload_n (pc := 0) C dX9_restore_0 rfl 0 rfl ?_
  refine gi_X9_265 (pc := 1) C dX9_restore_1 kx_100 rfl ?_
  refine r_if_ne (pc := 4) C 14 dX9_restore_4 (by decide) h (fun h => ?_) (fun h => ?_)
  · refine r_aload_n (pc := 14) C dX9_restore_14 rfl 0 rfl ?_
    refine r_aload_n (pc := 15) C dX9_restore_15 rfl 0 rfl ?_
    refine gr_X9_13 (pc := 16) 102 C dX9_restore_16 kx_100 rfl ?_
    refine r_aload_n (pc := 19) C dX9_restore_19 rfl 0 rfl ?_
    refine gr_X9_7 (pc := 20) 101 C dX9_restore_20 kx_100 rfl ?_
    refine cv_X9_186 (pc := 23) C dX9_restore_23 isAm_102 isAm_101 h (by decide) (Nat.le_of_ble_eq_true rfl) (fun q1 h => ?_)
    refine r_aload_n (pc := 26) C dX9_restore_26 rfl 0 rfl ?_
    refine gr_X9_7 (pc := 27) 101 C dX9_restore_27 kx_100 rfl ?_
    refine r_iconst (v := (0:Int32)) (pc := 30) C dX9_restore_30 (by decide) ?_
    refine r_ald (pc := 31) C dX9_restore_31 h kx_101 (fun v2 h => ?_)
    exact r_iretE (pc := 32) C dX9_restore_32 h
  · refine r_aload_n (pc := 7) C dX9_restore_7 rfl 0 rfl ?_
    refine r_ldc (pc := 8) C dX9_restore_8 qk_X9_218 ?_
    refine cv_X9_62 (pc := 10) C dX9_restore_10  h (by decide) (Nat.le_of_ble_eq_true rfl) (fun q3 h => ?_)
    exact r_iretE (pc := 13) C dX9_restore_13 h
theorem c_X9_restore {G : Gv} {w : Wd} {res : Int32 × Wd} (h : f_X9_restore w = some res) (l : Launch) : MC l yX9_restore cX9_restore 1 (some FieldType.int) 2 G SM w [.ref (G.2 100)] (some (.int res.1)) res.2 := mc_of (by decide +kernel) rfl (Nat.le_of_ble_eq_true rfl) rfl (fun V C => b_X9_restore_E C h) l
def f_X9_tell (p1 : Int32) (w : Wd) : Option (Int32 × Wd) := ald w 101 229 (5:Int32) (fun v1 => (if ¬ v1 = (20:Int32) then ald w 101 229 (5:Int32) (fun v2 => ast w 101 229 ((109:Int32) + v2) p1 (fun w3 => ald w3 101 229 (5:Int32) (fun v4 => ast w3 101 229 (5:Int32) (v4 + (1:Int32)) (fun w5 => ald w5 101 229 (5:Int32) (fun v6 => some (v6, w5)))))) else bd (f_X9_errs (-1000000004:Int32) w) (fun q7 => some (q7.1, q7.2))))
set_option maxRecDepth 20000 in
theorem b_X9_tell_E {G : Gv} {V : Vt} {res : Int32 × Wd}  (C : CX cX9_tell RX9 G SM 2 2 (some FieldType.int) (some (.int res.1)) res.2 V) {p1 : Int32} {w : Wd} (h : f_X9_tell p1 w = some res) : V w 0 [(0, .ref (G.2 100)), (1, .int p1)] [] := by
  unfold f_X9_tell at h
  refine r_aload_n (pc := 0) C dX9_tell_0 rfl 0 rfl ?_
  refine gr_X9_7 (pc := 1) 101 C dX9_tell_1 kx_100 rfl ?_
  refine r_iconst (v := (5:Int32)) (pc := 4) C dX9_tell_4 (by decide) ?_
  refine r_ald (pc := 5) C dX9_tell_5 h kx_101 (fun v1 h => ?_)
  refine r_bipush (v := (20:Int32)) (pc := 6) C dX9_tell_6 (by decide) ?_
  refine r_icmp_ne (pc := 8) C 18 dX9_tell_8 (by decide) h (fun h => ?_) (fun h => ?_)
  · refine r_aload_n (pc := 18) C dX9_tell_18 rfl 0 rfl ?_
    refine gr_X9_7 (pc := 19) 101 C dX9_tell_19 kx_100 rfl ?_
    refine r_bipush (v := (109:Int32)) (pc := 22) C dX9_tell_22 (by decide) ?_
    refine r_aload_n (pc := 24) C dX9_tell_24 rfl 0 rfl ?_
    refine gr_X9_7 (pc := 25) 101 C dX9_tell_25 kx_100 rfl ?_
    refine r_iconst (v := (5:Int32)) (pc := 28) C dX9_tell_28 (by decide) ?_
    refine r_ald (pc := 29) C dX9_tell_29 h kx_101 (fun v2 h => ?_)
    refine r_iadd (pc := 30) C dX9_tell_30 ?_
    refine r_iload_n (pc := 31) C dX9_tell_31 rfl 1 rfl ?_
    refine r_ast (pc := 32) C dX9_tell_32 h kx_101 (fun w3 h => ?_)
    refine r_aload_n (pc := 33) C dX9_tell_33 rfl 0 rfl ?_
    refine gr_X9_7 (pc := 34) 101 C dX9_tell_34 kx_100 rfl ?_
    refine r_iconst (v := (5:Int32)) (pc := 37) C dX9_tell_37 (by decide) ?_
    refine r_dup2 (pc := 38) C dX9_tell_38 rfl rfl ?_
    refine r_ald (pc := 39) C dX9_tell_39 h kx_101 (fun v4 h => ?_)
    refine r_iconst (v := (1:Int32)) (pc := 40) C dX9_tell_40 (by decide) ?_
    refine r_iadd (pc := 41) C dX9_tell_41 ?_
    refine r_ast (pc := 42) C dX9_tell_42 h kx_101 (fun w5 h => ?_)
    refine r_aload_n (pc := 43) C dX9_tell_43 rfl 0 rfl ?_
    refine gr_X9_7 (pc := 44) 101 C dX9_tell_44 kx_100 rfl ?_
    refine r_iconst (v := (5:Int32)) (pc := 47) C dX9_tell_47 (by decide) ?_
    refine r_ald (pc := 48) C dX9_tell_48 h kx_101 (fun v6 h => ?_)
    exact r_iretE (pc := 49) C dX9_tell_49 h
  · refine r_aload_n (pc := 11) C dX9_tell_11 rfl 0 rfl ?_
    refine r_ldc (pc := 12) C dX9_tell_12 qk_X9_66 ?_
    refine cv_X9_62 (pc := 14) C dX9_tell_14  h (by decide) (Nat.le_of_ble_eq_true rfl) (fun q7 h => ?_)
    exact r_iretE (pc := 17) C dX9_tell_17 h
theorem c_X9_tell {G : Gv} {p1 : Int32} {w : Wd} {res : Int32 × Wd} (h : f_X9_tell p1 w = some res) (l : Launch) : MC l yX9_tell cX9_tell 2 (some FieldType.int) 2 G SM w [.ref (G.2 100), .int p1] (some (.int res.1)) res.2 := mc_of (by decide +kernel) rfl (Nat.le_of_ble_eq_true rfl) rfl (fun V C => b_X9_tell_E C h) l
def f_X9_check_88 (x2 : Int32) (x3 : Int32) (w : Wd) : Option (Int32 × Wd) := bd (f_X9_moveAll 103 101 w) (fun q1 => (if x3 = 0 then some (((1:Int32) + x2), q1) else some ((0:Int32), q1)))
set_option maxRecDepth 20000 in
theorem b_X9_check_88 {G : Gv} {V : Vt} {res : Int32 × Wd}  (C : CX cX9_check RX9 G SM 5 109 (some FieldType.int) (some (.int res.1)) res.2 V) {x2 : Int32} {x3 : Int32} {w : Wd} (h : f_X9_check_88 x2 x3 w = some res) : V w 88 [(0, .ref (G.2 100)), (2, .int x2), (3, .int x3)] [] := by
  unfold f_X9_check_88 at h
  refine r_aload_n (pc := 88) C dX9_check_88 rfl 0 rfl ?_
  refine r_aload_n (pc := 89) C dX9_check_89 rfl 0 rfl ?_
  refine gr_X9_16 (pc := 90) 103 C dX9_check_90 kx_100 rfl ?_
  refine r_aload_n (pc := 93) C dX9_check_93 rfl 0 rfl ?_
  refine gr_X9_7 (pc := 94) 101 C dX9_check_94 kx_100 rfl ?_
  refine cv_X9_186 (pc := 97) C dX9_check_97 isAm_103 isAm_101 h (by decide) (Nat.le_of_ble_eq_true rfl) (fun q1 h => ?_)
  refine r_iload_n (pc := 100) C dX9_check_100 rfl 2 rfl ?_
  refine r_if_eq (pc := 101) C 108 dX9_check_101 (by decide) h (fun h => ?_) (fun h => ?_)
  · refine r_iconst (v := (1:Int32)) (pc := 108) C dX9_check_108 (by decide) ?_
    refine r_iload_n (pc := 109) C dX9_check_109 rfl 1 rfl ?_
    refine r_iadd (pc := 110) C dX9_check_110 ?_
    exact r_iretE (pc := 111) C dX9_check_111 h
  · refine r_iconst (v := (0:Int32)) (pc := 104) C dX9_check_104 (by decide) ?_
    refine r_goto (pc := 105) C 111 dX9_check_105 (by decide) ?_
    exact r_iretE (pc := 111) C dX9_check_111 h
def f_X9_check_83 (rec30 : Int32 → Int32 → Int32 → Wd → Option (Int32 × Wd)) (x1 : Int32) (x3 : Int32) (t0 : Int32) (t1 : Int32) (w : Wd) : Option (Int32 × Wd) := lv (t1 + t0) (fun v1 => rec30 x1 v1 x3 w)
set_option maxRecDepth 20000 in
theorem b_X9_check_83 {G : Gv} {V : Vt} {rec30 : Int32 → Int32 → Int32 → Wd → Option (Int32 × Wd)} {res : Int32 × Wd}  (C : CX cX9_check RX9 G SM 5 109 (some FieldType.int) (some (.int res.1)) res.2 V) (hrec30 : ∀ (x1 : Int32) (x2 : Int32) (x3 : Int32) (w : Wd), rec30 x1 x2 x3 w = some res → V w 30 [(0, .ref (G.2 100)), (1, .int x1), (2, .int x2), (3, .int x3)] []) {x1 : Int32} {x3 : Int32} {t0 : Int32} {t1 : Int32} {w : Wd} (h : f_X9_check_83 rec30 x1 x3 t0 t1 w = some res) : V w 83 [(0, .ref (G.2 100)), (1, .int x1), (3, .int x3)] [.int t0, .int t1] := by
  unfold f_X9_check_83 at h
  refine r_iadd (pc := 83) C dX9_check_83 ?_
  refine r_lv h (fun v1 h => ?_)
  refine r_istore_n (L' := [(2, .int v1), (0, .ref (G.2 100)), (1, .int x1), (3, .int x3)]) (pc := 84) C dX9_check_84 rfl (by decide) rfl ?_
  refine r_goto (pc := 85) C 30 dX9_check_85 (by decide) ?_
  exact r_sub C [1, 2, 0, 3] rfl (hrec30 _ _ _ _ h)
def f_X9_check_72 (rec30 : Int32 → Int32 → Int32 → Wd → Option (Int32 × Wd)) (x1 : Int32) (x2 : Int32) (t0 : Int32) (w : Wd) : Option (Int32 × Wd) := (if t0 = 0 then f_X9_check_83 rec30 x1 t0 (0:Int32) x2 w else f_X9_check_83 rec30 x1 t0 (1:Int32) x2 w)
set_option maxRecDepth 20000 in
theorem b_X9_check_72 {G : Gv} {V : Vt} {rec30 : Int32 → Int32 → Int32 → Wd → Option (Int32 × Wd)} {res : Int32 × Wd}  (C : CX cX9_check RX9 G SM 5 109 (some FieldType.int) (some (.int res.1)) res.2 V) (hrec30 : ∀ (x1 : Int32) (x2 : Int32) (x3 : Int32) (w : Wd), rec30 x1 x2 x3 w = some res → V w 30 [(0, .ref (G.2 100)), (1, .int x1), (2, .int x2), (3, .int x3)] []) {x1 : Int32} {x2 : Int32} {t0 : Int32} {w : Wd} (h : f_X9_check_72 rec30 x1 x2 t0 w = some res) : V w 72 [(0, .ref (G.2 100)), (1, .int x1), (2, .int x2)] [.int t0] := by
  unfold f_X9_check_72 at h
  refine r_istore_n (L' := [(3, .int t0), (0, .ref (G.2 100)), (1, .int x1), (2, .int x2)]) (pc := 72) C dX9_check_72 rfl (by decide) rfl ?_
  refine r_iload_n (pc := 73) C dX9_check_73 rfl 3 rfl ?_
  refine r_iload_n (pc := 74) C dX9_check_74 rfl 0 rfl ?_
  refine r_if_eq (pc := 75) C 82 dX9_check_75 (by decide) h (fun h => ?_) (fun h => ?_)
  · refine r_iconst (v := (0:Int32)) (pc := 82) C dX9_check_82 (by decide) ?_
    exact r_sub C [1, 2, 0] rfl (b_X9_check_83 C hrec30 h)
  · refine r_iconst (v := (1:Int32)) (pc := 78) C dX9_check_78 (by decide) ?_
    refine r_goto (pc := 79) C 83 dX9_check_79 (by decide) ?_
    exact r_sub C [1, 2, 0] rfl (b_X9_check_83 C hrec30 h)
def f_X9_check_71 (rec30 : Int32 → Int32 → Int32 → Wd → Option (Int32 × Wd)) (x1 : Int32) (x2 : Int32) (w : Wd) : Option (Int32 × Wd) := f_X9_check_72 rec30 x1 x2 (0:Int32) w
set_option maxRecDepth 20000 in
theorem b_X9_check_71 {G : Gv} {V : Vt} {rec30 : Int32 → Int32 → Int32 → Wd → Option (Int32 × Wd)} {res : Int32 × Wd}  (C : CX cX9_check RX9 G SM 5 109 (some FieldType.int) (some (.int res.1)) res.2 V) (hrec30 : ∀ (x1 : Int32) (x2 : Int32) (x3 : Int32) (w : Wd), rec30 x1 x2 x3 w = some res → V w 30 [(0, .ref (G.2 100)), (1, .int x1), (2, .int x2), (3, .int x3)] []) {x1 : Int32} {x2 : Int32} {w : Wd} (h : f_X9_check_71 rec30 x1 x2 w = some res) : V w 71 [(0, .ref (G.2 100)), (1, .int x1), (2, .int x2)] [] := by
  unfold f_X9_check_71 at h
  refine r_iconst (v := (0:Int32)) (pc := 71) C dX9_check_71 (by decide) ?_
  exact r_sub C [0, 1, 2] rfl (b_X9_check_72 C hrec30 h)
def fb_X9_check_30 (rec30 : Int32 → Int32 → Int32 → Wd → Option (Int32 × Wd)) (x1 : Int32) (x2 : Int32) (x3 : Int32) (w : Wd) : Option (Int32 × Wd) := (if x1 ≤ x2 then f_X9_check_88 x2 x3 w else (if x3 = 0 then f_X9_check_88 x2 x3 w else bd (f_X9_seasonGoes (1:Int32) w) (fun q1 => (if q1.1 < 0 then f_X9_check_71 rec30 x1 x2 q1.2 else bd (f_X9_purses q1.2) (fun q2 => ald q1.2 101 229 ((109:Int32) + x2) (fun v3 => (if ¬ q2 = v3 then f_X9_check_71 rec30 x1 x2 q1.2 else f_X9_check_72 rec30 x1 x2 (1:Int32) q1.2)))))))
set_option maxRecDepth 20000 in
theorem bb_X9_check_30 {G : Gv} {V : Vt} {rec30 : Int32 → Int32 → Int32 → Wd → Option (Int32 × Wd)} {res : Int32 × Wd}  (C : CX cX9_check RX9 G SM 5 109 (some FieldType.int) (some (.int res.1)) res.2 V) (hrec30 : ∀ (x1 : Int32) (x2 : Int32) (x3 : Int32) (w : Wd), rec30 x1 x2 x3 w = some res → V w 30 [(0, .ref (G.2 100)), (1, .int x1), (2, .int x2), (3, .int x3)] []) {x1 : Int32} {x2 : Int32} {x3 : Int32} {w : Wd} (h : fb_X9_check_30 rec30 x1 x2 x3 w = some res) : V w 30 [(0, .ref (G.2 100)), (1, .int x1), (2, .int x2), (3, .int x3)] [] := by
  unfold fb_X9_check_30 at h
  refine r_iload_n (pc := 30) C dX9_check_30 rfl 2 rfl ?_
  refine r_iload_n (pc := 31) C dX9_check_31 rfl 1 rfl ?_
  refine r_icmp_ge (pc := 32) C 88 dX9_check_32 (by decide) h (fun h => ?_) (fun h => ?_)
  · exact r_sub C [0, 2, 3] rfl (b_X9_check_88 C h)
  · refine r_iload_n (pc := 35) C dX9_check_35 rfl 3 rfl ?_
    refine r_if_eq (pc := 36) C 88 dX9_check_36 (by decide) h (fun h => ?_) (fun h => ?_)
    · exact r_sub C [0, 2, 3] rfl (b_X9_check_88 C h)
    · refine r_aload_n (pc := 39) C dX9_check_39 rfl 0 rfl ?_
      refine r_iconst (v := (1:Int32)) (pc := 40) C dX9_check_40 (by decide) ?_
      refine cv_X9_222 (pc := 41) C dX9_check_41  h (by decide) (Nat.le_of_ble_eq_true rfl) (fun q1 h => ?_)
      refine r_istore (L' := [(4, .int q1.1), (0, .ref (G.2 100)), (1, .int x1), (2, .int x2), (3, .int x3)]) (pc := 44) C dX9_check_44 (by decide) rfl ?_
      refine r_iload (pc := 46) C dX9_check_46 0 rfl ?_
      refine r_if_lt (pc := 48) C 71 dX9_check_48 (by decide) h (fun h => ?_) (fun h => ?_)
      · exact r_sub C [1, 2, 3] rfl (b_X9_check_71 C hrec30 h)
      · refine r_aload_n (pc := 51) C dX9_check_51 rfl 1 rfl ?_
        refine cv_X9_215 (pc := 52) C dX9_check_52  h (by decide) (Nat.le_of_ble_eq_true rfl) (fun q2 h => ?_)
        refine r_aload_n (pc := 55) C dX9_check_55 rfl 1 rfl ?_
        refine gr_X9_7 (pc := 56) 101 C dX9_check_56 kx_100 rfl ?_
        refine r_bipush (v := (109:Int32)) (pc := 59) C dX9_check_59 (by decide) ?_
        refine r_iload_n (pc := 61) C dX9_check_61 rfl 3 rfl ?_
        refine r_iadd (pc := 62) C dX9_check_62 ?_
        refine r_ald (pc := 63) C dX9_check_63 h kx_101 (fun v3 h => ?_)
        refine r_icmp_ne (pc := 64) C 71 dX9_check_64 (by decide) h (fun h => ?_) (fun h => ?_)
        · exact r_sub C [1, 2, 3] rfl (b_X9_check_71 C hrec30 h)
        · refine r_iconst (v := (1:Int32)) (pc := 67) C dX9_check_67 (by decide) ?_
          refine r_goto (pc := 68) C 72 dX9_check_68 (by decide) ?_
          exact r_sub C [1, 2, 3] rfl (b_X9_check_72 C hrec30 h)
def f_X9_check_30 : Int32 → Int32 → Int32 → Wd → Option (Int32 × Wd) := lp (fun _ _ _ _ => none) (fun rec => fb_X9_check_30 rec) FU
theorem b_X9_check_30 {G : Gv} {V : Vt} {res : Int32 × Wd}  (C : CX cX9_check RX9 G SM 5 109 (some FieldType.int) (some (.int res.1)) res.2 V) : ∀ (x1 : Int32) (x2 : Int32) (x3 : Int32) (w : Wd), (f_X9_check_30) x1 x2 x3 w = some res → V w 30 [(0, .ref (G.2 100)), (1, .int x1), (2, .int x2), (3, .int x3)] [] :=
  lp_ind (P := fun (g : Int32 → Int32 → Int32 → Wd → Option (Int32 × Wd)) => ∀ (x1 : Int32) (x2 : Int32) (x3 : Int32) (w : Wd), g x1 x2 x3 w = some res → V w 30 [(0, .ref (G.2 100)), (1, .int x1), (2, .int x2), (3, .int x3)] []) (fun _ _ _ _ h => by cases h) (fun g hg _ _ _ _ h => bb_X9_check_30 C hg h) FU
def f_X9_check (w : Wd) : Option (Int32 × Wd) := ald w 101 229 (5:Int32) (fun v1 => ast w 101 229 (5:Int32) (0:Int32) (fun w2 => bd (f_X9_moveAll 101 103 w2) (fun q3 => f_X9_check_30 v1 (0:Int32) (1:Int32) q3)))
set_option maxRecDepth 20000 in
theorem b_X9_check_E {G : Gv} {V : Vt} {res : Int32 × Wd}  (C : CX cX9_check RX9 G SM 5 109 (some FieldType.int) (some (.int res.1)) res.2 V) {w : Wd} (h : f_X9_check w = some res) : V w 0 [(0, .ref (G.2 100))] [] := by
  unfold f_X9_check at h
  refine r_aload_n (pc := 0) C dX9_check_0 rfl 0 rfl ?_
  refine gr_X9_7 (pc := 1) 101 C dX9_check_1 kx_100 rfl ?_
  refine r_iconst (v := (5:Int32)) (pc := 4) C dX9_check_4 (by decide) ?_
  refine r_ald (pc := 5) C dX9_check_5 h kx_101 (fun v1 h => ?_)
  refine r_istore_n (L' := [(1, .int v1), (0, .ref (G.2 100))]) (pc := 6) C dX9_check_6 rfl (by decide) rfl ?_
  refine r_aload_n (pc := 7) C dX9_check_7 rfl 1 rfl ?_
  refine gr_X9_7 (pc := 8) 101 C dX9_check_8 kx_100 rfl ?_
  refine r_iconst (v := (5:Int32)) (pc := 11) C dX9_check_11 (by decide) ?_
  refine r_iconst (v := (0:Int32)) (pc := 12) C dX9_check_12 (by decide) ?_
  refine r_ast (pc := 13) C dX9_check_13 h kx_101 (fun w2 h => ?_)
  refine r_aload_n (pc := 14) C dX9_check_14 rfl 1 rfl ?_
  refine r_aload_n (pc := 15) C dX9_check_15 rfl 1 rfl ?_
  refine gr_X9_7 (pc := 16) 101 C dX9_check_16 kx_100 rfl ?_
  refine r_aload_n (pc := 19) C dX9_check_19 rfl 1 rfl ?_
  refine gr_X9_16 (pc := 20) 103 C dX9_check_20 kx_100 rfl ?_
  refine cv_X9_186 (pc := 23) C dX9_check_23 isAm_101 isAm_103 h (by decide) (Nat.le_of_ble_eq_true rfl) (fun q3 h => ?_)
  refine r_iconst (v := (0:Int32)) (pc := 26) C dX9_check_26 (by decide) ?_
  refine r_istore_n (L' := [(2, .int (0:Int32)), (1, .int v1), (0, .ref (G.2 100))]) (pc := 27) C dX9_check_27 rfl (by decide) rfl ?_
  refine r_iconst (v := (1:Int32)) (pc := 28) C dX9_check_28 (by decide) ?_
  refine r_istore_n (L' := [(3, .int (1:Int32)), (2, .int (0:Int32)), (1, .int v1), (0, .ref (G.2 100))]) (pc := 29) C dX9_check_29 rfl (by decide) rfl ?_
  exact r_sub C [3, 2, 1, 0] rfl (b_X9_check_30 C _ _ _ _ h)
theorem c_X9_check {G : Gv} {w : Wd} {res : Int32 × Wd} (h : f_X9_check w = some res) (l : Launch) : MC l yX9_check cX9_check 5 (some FieldType.int) 109 G SM w [.ref (G.2 100)] (some (.int res.1)) res.2 := mc_of (by decide +kernel) rfl (Nat.le_of_ble_eq_true rfl) rfl (fun V C => b_X9_check_E C h) l
def fb_X9_applause_4 (w : Wd) (rec4 : Int32 → Int32 → Option (Int32)) (x1 : Int32) (x2 : Int32) : Option (Int32) := ald w 101 229 (3:Int32) (fun v1 => (if v1 ≤ x2 then some x1 else bd (f_X9_its w x2 (3:Int32)) (fun q2 => lv (x1 + q2) (fun v3 => rec4 v3 (x2 + (1:Int32))))))
set_option maxRecDepth 20000 in
theorem bb_X9_applause_4 {G : Gv} {V : Vt} {w : Wd} {rec4 : Int32 → Int32 → Option (Int32)} {res : Int32}  (C : CX cX9_applause RX9 G SM 3 2 (some FieldType.int) (some (.int res)) w V) (hrec4 : ∀ (x1 : Int32) (x2 : Int32), rec4 x1 x2 = some res → V w 4 [(0, .ref (G.2 100)), (1, .int x1), (2, .int x2)] []) {x1 : Int32} {x2 : Int32} (h : fb_X9_applause_4 w rec4 x1 x2 = some res) : V w 4 [(0, .ref (G.2 100)), (1, .int x1), (2, .int x2)] [] := by
  unfold fb_X9_applause_4 at h
  refine r_iload_n (pc := 4) C dX9_applause_4 rfl 2 rfl ?_
  refine r_aload_n (pc := 5) C dX9_applause_5 rfl 0 rfl ?_
  refine gr_X9_7 (pc := 6) 101 C dX9_applause_6 kx_100 rfl ?_
  refine r_iconst (v := (3:Int32)) (pc := 9) C dX9_applause_9 (by decide) ?_
  refine r_ald (pc := 10) C dX9_applause_10 h kx_101 (fun v1 h => ?_)
  refine r_icmp_ge (pc := 11) C 29 dX9_applause_11 (by decide) h (fun h => ?_) (fun h => ?_)
  · refine r_iload_n (pc := 29) C dX9_applause_29 rfl 1 rfl ?_
    exact r_iretP (pc := 30) C dX9_applause_30 h
  · refine r_iload_n (pc := 14) C dX9_applause_14 rfl 1 rfl ?_
    refine r_aload_n (pc := 15) C dX9_applause_15 rfl 0 rfl ?_
    refine r_iload_n (pc := 16) C dX9_applause_16 rfl 2 rfl ?_
    refine r_iconst (v := (3:Int32)) (pc := 17) C dX9_applause_17 (by decide) ?_
    refine cv_X9_67 (pc := 18) C dX9_applause_18  h (by decide) (Nat.le_of_ble_eq_true rfl) (fun q2 h => ?_)
    refine r_iadd (pc := 21) C dX9_applause_21 ?_
    refine r_lv h (fun v3 h => ?_)
    refine r_istore_n (L' := [(1, .int v3), (0, .ref (G.2 100)), (2, .int x2)]) (pc := 22) C dX9_applause_22 rfl (by decide) rfl ?_
    refine r_iinc (v := (x2 + (1:Int32))) (L' := [(2, .int (x2 + (1:Int32))), (1, .int v3), (0, .ref (G.2 100))]) (pc := 23) C dX9_applause_23 2 rfl rfl (by decide) rfl ?_
    refine r_goto (pc := 26) C 4 dX9_applause_26 (by decide) ?_
    exact r_sub C [2, 1, 0] rfl (hrec4 _ _ h)
def f_X9_applause_4 (w : Wd) : Int32 → Int32 → Option (Int32) := lp (fun _ _ => none) (fun rec => fb_X9_applause_4 w rec) FU
theorem b_X9_applause_4 {G : Gv} {V : Vt} {w : Wd} {res : Int32}  (C : CX cX9_applause RX9 G SM 3 2 (some FieldType.int) (some (.int res)) w V) : ∀ (x1 : Int32) (x2 : Int32), (f_X9_applause_4 w) x1 x2 = some res → V w 4 [(0, .ref (G.2 100)), (1, .int x1), (2, .int x2)] [] :=
  lp_ind (P := fun (g : Int32 → Int32 → Option (Int32)) => ∀ (x1 : Int32) (x2 : Int32), g x1 x2 = some res → V w 4 [(0, .ref (G.2 100)), (1, .int x1), (2, .int x2)] []) (fun _ _ h => by cases h) (fun g hg _ _ h => bb_X9_applause_4 C hg h) FU
def f_X9_applause (w : Wd) : Option (Int32) := f_X9_applause_4 w (0:Int32) (0:Int32)
set_option maxRecDepth 20000 in
theorem b_X9_applause_E {G : Gv} {V : Vt} {w : Wd} {res : Int32}  (C : CX cX9_applause RX9 G SM 3 2 (some FieldType.int) (some (.int res)) w V) (h : f_X9_applause w = some res) : V w 0 [(0, .ref (G.2 100))] [] := by
  unfold f_X9_applause at h
  refine r_iconst (v := (0:Int32)) (pc := 0) C dX9_applause_0 (by decide) ?_
  refine r_istore_n (L' := [(1, .int (0:Int32)), (0, .ref (G.2 100))]) (pc := 1) C dX9_applause_1 rfl (by decide) rfl ?_
  refine r_iconst (v := (0:Int32)) (pc := 2) C dX9_applause_2 (by decide) ?_
  refine r_istore_n (L' := [(2, .int (0:Int32)), (1, .int (0:Int32)), (0, .ref (G.2 100))]) (pc := 3) C dX9_applause_3 rfl (by decide) rfl ?_
  exact r_sub C [2, 1, 0] rfl (b_X9_applause_4 C _ _ h)
theorem c_X9_applause {G : Gv} {w : Wd} {res : Int32} (h : f_X9_applause w = some res) (l : Launch) : MC l yX9_applause cX9_applause 3 (some FieldType.int) 2 G SM w [.ref (G.2 100)] (some (.int res)) w := mc_of (by decide +kernel) rfl (Nat.le_of_ble_eq_true rfl) rfl (fun V C => b_X9_applause_E C h) l
def fb_X9_illSet_4 (w : Wd) (rec4 : Int32 → Int32 → Option (Int32)) (x1 : Int32) (x2 : Int32) : Option (Int32) := ald w 101 229 (8:Int32) (fun v1 => (if v1 ≤ x2 then some x1 else bd (f_X9_of w x2 (4:Int32)) (fun q2 => lv (x1 ||| (q2 <<< (x2 &&& 31))) (fun v3 => rec4 v3 (x2 + (1:Int32))))))
set_option maxRecDepth 20000 in
theorem bb_X9_illSet_4 {G : Gv} {V : Vt} {w : Wd} {rec4 : Int32 → Int32 → Option (Int32)} {res : Int32}  (C : CX cX9_illSet RX9 G SM 3 2 (some FieldType.int) (some (.int res)) w V) (hrec4 : ∀ (x1 : Int32) (x2 : Int32), rec4 x1 x2 = some res → V w 4 [(0, .ref (G.2 100)), (1, .int x1), (2, .int x2)] []) {x1 : Int32} {x2 : Int32} (h : fb_X9_illSet_4 w rec4 x1 x2 = some res) : V w 4 [(0, .ref (G.2 100)), (1, .int x1), (2, .int x2)] [] := by
  unfold fb_X9_illSet_4 at h
  refine r_iload_n (pc := 4) C dX9_illSet_4 rfl 2 rfl ?_
  refine r_aload_n (pc := 5) C dX9_illSet_5 rfl 0 rfl ?_
  refine gr_X9_7 (pc := 6) 101 C dX9_illSet_6 kx_100 rfl ?_
  refine r_bipush (v := (8:Int32)) (pc := 9) C dX9_illSet_9 (by decide) ?_
  refine r_ald (pc := 11) C dX9_illSet_11 h kx_101 (fun v1 h => ?_)
  refine r_icmp_ge (pc := 12) C 32 dX9_illSet_12 (by decide) h (fun h => ?_) (fun h => ?_)
  · refine r_iload_n (pc := 32) C dX9_illSet_32 rfl 1 rfl ?_
    exact r_iretP (pc := 33) C dX9_illSet_33 h
  · refine r_iload_n (pc := 15) C dX9_illSet_15 rfl 1 rfl ?_
    refine r_aload_n (pc := 16) C dX9_illSet_16 rfl 0 rfl ?_
    refine r_iload_n (pc := 17) C dX9_illSet_17 rfl 2 rfl ?_
    refine r_iconst (v := (4:Int32)) (pc := 18) C dX9_illSet_18 (by decide) ?_
    refine cv_X9_71 (pc := 19) C dX9_illSet_19  h (by decide) (Nat.le_of_ble_eq_true rfl) (fun q2 h => ?_)
    refine r_iload_n (pc := 22) C dX9_illSet_22 rfl 2 rfl ?_
    refine r_ishl (pc := 23) C dX9_illSet_23 ?_
    refine r_ior (pc := 24) C dX9_illSet_24 ?_
    refine r_lv h (fun v3 h => ?_)
    refine r_istore_n (L' := [(1, .int v3), (0, .ref (G.2 100)), (2, .int x2)]) (pc := 25) C dX9_illSet_25 rfl (by decide) rfl ?_
    refine r_iinc (v := (x2 + (1:Int32))) (L' := [(2, .int (x2 + (1:Int32))), (1, .int v3), (0, .ref (G.2 100))]) (pc := 26) C dX9_illSet_26 2 rfl rfl (by decide) rfl ?_
    refine r_goto (pc := 29) C 4 dX9_illSet_29 (by decide) ?_
    exact r_sub C [2, 1, 0] rfl (hrec4 _ _ h)
def f_X9_illSet_4 (w : Wd) : Int32 → Int32 → Option (Int32) := lp (fun _ _ => none) (fun rec => fb_X9_illSet_4 w rec) FU
theorem b_X9_illSet_4 {G : Gv} {V : Vt} {w : Wd} {res : Int32}  (C : CX cX9_illSet RX9 G SM 3 2 (some FieldType.int) (some (.int res)) w V) : ∀ (x1 : Int32) (x2 : Int32), (f_X9_illSet_4 w) x1 x2 = some res → V w 4 [(0, .ref (G.2 100)), (1, .int x1), (2, .int x2)] [] :=
  lp_ind (P := fun (g : Int32 → Int32 → Option (Int32)) => ∀ (x1 : Int32) (x2 : Int32), g x1 x2 = some res → V w 4 [(0, .ref (G.2 100)), (1, .int x1), (2, .int x2)] []) (fun _ _ h => by cases h) (fun g hg _ _ h => bb_X9_illSet_4 C hg h) FU
def f_X9_illSet (w : Wd) : Option (Int32) := f_X9_illSet_4 w (0:Int32) (0:Int32)
set_option maxRecDepth 20000 in
theorem b_X9_illSet_E {G : Gv} {V : Vt} {w : Wd} {res : Int32}  (C : CX cX9_illSet RX9 G SM 3 2 (some FieldType.int) (some (.int res)) w V) (h : f_X9_illSet w = some res) : V w 0 [(0, .ref (G.2 100))] [] := by
  unfold f_X9_illSet at h
  refine r_iconst (v := (0:Int32)) (pc := 0) C dX9_illSet_0 (by decide) ?_
  refine r_istore_n (L' := [(1, .int (0:Int32)), (0, .ref (G.2 100))]) (pc := 1) C dX9_illSet_1 rfl (by decide) rfl ?_
  refine r_iconst (v := (0:Int32)) (pc := 2) C dX9_illSet_2 (by decide) ?_
  refine r_istore_n (L' := [(2, .int (0:Int32)), (1, .int (0:Int32)), (0, .ref (G.2 100))]) (pc := 3) C dX9_illSet_3 rfl (by decide) rfl ?_
  exact r_sub C [2, 1, 0] rfl (b_X9_illSet_4 C _ _ h)
theorem c_X9_illSet {G : Gv} {w : Wd} {res : Int32} (h : f_X9_illSet w = some res) (l : Launch) : MC l yX9_illSet cX9_illSet 3 (some FieldType.int) 2 G SM w [.ref (G.2 100)] (some (.int res)) w := mc_of (by decide +kernel) rfl (Nat.le_of_ble_eq_true rfl) rfl (fun V C => b_X9_illSet_E C h) l
theorem cv_X9_271 {cc : ByteArray} {G : Gv} {n hc : Nat} {rt : Option FieldType} {rv : Option Value} {w0 : Wd} {V : Vt} {w : Wd} {pc : Nat} {L : List (Nat × Value)} {rest : List Value} {α : Type} {res : α} {K : Int32 → Option α} (C : CX cc RX9 G SM n hc rt rv w0 V) (hd : decode cc pc = .ok (.invokevirtual 271, 3)) (h : bd (f_X9_applause w) K = some res) (hR : 2 + 1 ≤ hc) (hr : (rest.map fun v => v.category).sum ≤ 8) (kk : ∀ q, K q = some res → V w (pc + 3) L (.int q :: rest)) : V w pc L (.ref (G.2 100) :: rest) := r_callV (As := []) (rest := rest) (rvf := fun q => (some (.int q))) (wf := fun q => w) C hd h ql_X9_271 qi_X9_applause qs_X9_applause qn_X9 qc_X9_applause ⟨rfl, by decide +kernel, by decide +kernel, (by decide +kernel : (parseMethodDescriptor yX9_applause.desc).map (fun d => d.parameters.length) = some 0)⟩ ⟨hR, by decide⟩ kx_100 rfl (fun q hq l => c_X9_applause hq l) rfl hr kk
theorem cv_X9_274 {cc : ByteArray} {G : Gv} {n hc : Nat} {rt : Option FieldType} {rv : Option Value} {w0 : Wd} {V : Vt} {w : Wd} {pc : Nat} {L : List (Nat × Value)} {rest : List Value} {α : Type} {res : α} {K : Int32 → Option α} (C : CX cc RX9 G SM n hc rt rv w0 V) (hd : decode cc pc = .ok (.invokevirtual 274, 3)) (h : bd (f_X9_illSet w) K = some res) (hR : 2 + 1 ≤ hc) (hr : (rest.map fun v => v.category).sum ≤ 8) (kk : ∀ q, K q = some res → V w (pc + 3) L (.int q :: rest)) : V w pc L (.ref (G.2 100) :: rest) := r_callV (As := []) (rest := rest) (rvf := fun q => (some (.int q))) (wf := fun q => w) C hd h ql_X9_274 qi_X9_illSet qs_X9_illSet qn_X9 qc_X9_illSet ⟨rfl, by decide +kernel, by decide +kernel, (by decide +kernel : (parseMethodDescriptor yX9_illSet.desc).map (fun d => d.parameters.length) = some 0)⟩ ⟨hR, by decide⟩ kx_100 rfl (fun q hq l => c_X9_illSet hq l) rfl hr kk
def f_X9_count (p1 : Int32) (w : Wd) : Option (Int32 × Wd) := (if p1 = (0:Int32) then ald w 101 229 (3:Int32) (fun v1 => some (v1, w)) else (if p1 = (1:Int32) then ald w 101 229 (8:Int32) (fun v2 => some (v2, w)) else (if p1 = (2:Int32) then ald w 101 229 (0:Int32) (fun v3 => some (v3, w)) else (if p1 = (3:Int32) then ald w 101 229 (1:Int32) (fun v4 => some (v4, w)) else (if p1 = (4:Int32) then bd (f_X9_applause w) (fun q5 => some (q5, w)) else (if p1 = (5:Int32) then bd (f_X9_purses w) (fun q6 => some (q6, w)) else (if p1 = (6:Int32) then bd (f_X9_illSet w) (fun q7 => some (q7, w)) else (if p1 = (7:Int32) then ald w 101 229 (4:Int32) (fun v8 => some (v8, w)) else (if p1 = (8:Int32) then ald w 101 229 (5:Int32) (fun v9 => some (v9, w)) else (if p1 = (9:Int32) then some ((w 100 24), w) else (if p1 = (10:Int32) then ald w 101 229 (2:Int32) (fun v10 => some (v10, w)) else bd (f_X9_errs (-1000000001:Int32) w) (fun q11 => some (q11.1, q11.2)))))))))))))
set_option maxRecDepth 20000 in
theorem b_X9_count_E {G : Gv} {V : Vt} {res : Int32 × Wd}  (C : CX cX9_count RX9 G SM 2 3 (some FieldType.int) (some (.int res.1)) res.2 V) {p1 : Int32} {w : Wd} (h : f_X9_count p1 w = some res) : V w 0 [(0, .ref (G.2 100)), (1, .int p1)] [] := by
  unfold f_X9_count at h
  refine r_iload_n (pc := 0) C dX9_count_0 rfl 1 rfl ?_
  refine r_tsw (pc := 1) C (0:Int32) 60 dX9_count_1 (by decide) (by decide) rfl (by decide) h (fun h => ?_) (fun n0 h => ?_)
  · refine r_aload_n (pc := 60) C dX9_count_60 rfl 0 rfl ?_
    refine gr_X9_7 (pc := 61) 101 C dX9_count_61 kx_100 rfl ?_
    refine r_iconst (v := (3:Int32)) (pc := 64) C dX9_count_64 (by decide) ?_
    refine r_ald (pc := 65) C dX9_count_65 h kx_101 (fun v1 h => ?_)
    exact r_iretE (pc := 66) C dX9_count_66 h
  refine r_tsw (pc := 1) C (1:Int32) 67 dX9_count_1 (by decide) (by decide) rfl (by decide) h (fun h => ?_) (fun n1 h => ?_)
  · refine r_aload_n (pc := 67) C dX9_count_67 rfl 0 rfl ?_
    refine gr_X9_7 (pc := 68) 101 C dX9_count_68 kx_100 rfl ?_
    refine r_bipush (v := (8:Int32)) (pc := 71) C dX9_count_71 (by decide) ?_
    refine r_ald (pc := 73) C dX9_count_73 h kx_101 (fun v2 h => ?_)
    exact r_iretE (pc := 74) C dX9_count_74 h
  refine r_tsw (pc := 1) C (2:Int32) 75 dX9_count_1 (by decide) (by decide) rfl (by decide) h (fun h => ?_) (fun n2 h => ?_)
  · refine r_aload_n (pc := 75) C dX9_count_75 rfl 0 rfl ?_
    refine gr_X9_7 (pc := 76) 101 C dX9_count_76 kx_100 rfl ?_
    refine r_iconst (v := (0:Int32)) (pc := 79) C dX9_count_79 (by decide) ?_
    refine r_ald (pc := 80) C dX9_count_80 h kx_101 (fun v3 h => ?_)
    exact r_iretE (pc := 81) C dX9_count_81 h
  refine r_tsw (pc := 1) C (3:Int32) 82 dX9_count_1 (by decide) (by decide) rfl (by decide) h (fun h => ?_) (fun n3 h => ?_)
  · refine r_aload_n (pc := 82) C dX9_count_82 rfl 0 rfl ?_
    refine gr_X9_7 (pc := 83) 101 C dX9_count_83 kx_100 rfl ?_
    refine r_iconst (v := (1:Int32)) (pc := 86) C dX9_count_86 (by decide) ?_
    refine r_ald (pc := 87) C dX9_count_87 h kx_101 (fun v4 h => ?_)
    exact r_iretE (pc := 88) C dX9_count_88 h
  refine r_tsw (pc := 1) C (4:Int32) 89 dX9_count_1 (by decide) (by decide) rfl (by decide) h (fun h => ?_) (fun n4 h => ?_)
  · refine r_aload_n (pc := 89) C dX9_count_89 rfl 0 rfl ?_
    refine cv_X9_271 (pc := 90) C dX9_count_90  h (by decide) (Nat.le_of_ble_eq_true rfl) (fun q5 h => ?_)
    exact r_iretE (pc := 93) C dX9_count_93 h
  refine r_tsw (pc := 1) C (5:Int32) 94 dX9_count_1 (by decide) (by decide) rfl (by decide) h (fun h => ?_) (fun n5 h => ?_)
  · refine r_aload_n (pc := 94) C dX9_count_94 rfl 0 rfl ?_
    refine cv_X9_215 (pc := 95) C dX9_count_95  h (by decide) (Nat.le_of_ble_eq_true rfl) (fun q6 h => ?_)
    exact r_iretE (pc := 98) C dX9_count_98 h
  refine r_tsw (pc := 1) C (6:Int32) 99 dX9_count_1 (by decide) (by decide) rfl (by decide) h (fun h => ?_) (fun n6 h => ?_)
  · refine r_aload_n (pc := 99) C dX9_count_99 rfl 0 rfl ?_
    refine cv_X9_274 (pc := 100) C dX9_count_100  h (by decide) (Nat.le_of_ble_eq_true rfl) (fun q7 h => ?_)
    exact r_iretE (pc := 103) C dX9_count_103 h
  refine r_tsw (pc := 1) C (7:Int32) 104 dX9_count_1 (by decide) (by decide) rfl (by decide) h (fun h => ?_) (fun n7 h => ?_)
  · refine r_aload_n (pc := 104) C dX9_count_104 rfl 0 rfl ?_
    refine gr_X9_7 (pc := 105) 101 C dX9_count_105 kx_100 rfl ?_
    refine r_iconst (v := (4:Int32)) (pc := 108) C dX9_count_108 (by decide) ?_
    refine r_ald (pc := 109) C dX9_count_109 h kx_101 (fun v8 h => ?_)
    exact r_iretE (pc := 110) C dX9_count_110 h
  refine r_tsw (pc := 1) C (8:Int32) 111 dX9_count_1 (by decide) (by decide) rfl (by decide) h (fun h => ?_) (fun n8 h => ?_)
  · refine r_aload_n (pc := 111) C dX9_count_111 rfl 0 rfl ?_
    refine gr_X9_7 (pc := 112) 101 C dX9_count_112 kx_100 rfl ?_
    refine r_iconst (v := (5:Int32)) (pc := 115) C dX9_count_115 (by decide) ?_
    refine r_ald (pc := 116) C dX9_count_116 h kx_101 (fun v9 h => ?_)
    exact r_iretE (pc := 117) C dX9_count_117 h
  refine r_tsw (pc := 1) C (9:Int32) 118 dX9_count_1 (by decide) (by decide) rfl (by decide) h (fun h => ?_) (fun n9 h => ?_)
  · refine r_aload_n (pc := 118) C dX9_count_118 rfl 0 rfl ?_
    refine gi_X9_234 (pc := 119) C dX9_count_119 kx_100 rfl ?_
    exact r_iretE (pc := 122) C dX9_count_122 h
  refine r_tsw (pc := 1) C (10:Int32) 123 dX9_count_1 (by decide) (by decide) rfl (by decide) h (fun h => ?_) (fun n10 h => ?_)
  · refine r_aload_n (pc := 123) C dX9_count_123 rfl 0 rfl ?_
    refine gr_X9_7 (pc := 124) 101 C dX9_count_124 kx_100 rfl ?_
    refine r_iconst (v := (2:Int32)) (pc := 127) C dX9_count_127 (by decide) ?_
    refine r_ald (pc := 128) C dX9_count_128 h kx_101 (fun v10 h => ?_)
    exact r_iretE (pc := 129) C dX9_count_129 h
  refine r_tswD (pc := 1) C 130 dX9_count_1 (by have z0 := toInt_ne n0; have z1 := toInt_ne n1; have z2 := toInt_ne n2; have z3 := toInt_ne n3; have z4 := toInt_ne n4; have z5 := toInt_ne n5; have z6 := toInt_ne n6; have z7 := toInt_ne n7; have z8 := toInt_ne n8; have z9 := toInt_ne n9; have z10 := toInt_ne n10; simp only [Int32.reduceToInt, ne_eq] at *; omega) (by decide) ?_
  refine r_aload_n (pc := 130) C dX9_count_130 rfl 0 rfl ?_
  refine r_ldc (pc := 131) C dX9_count_131 qk_X9_61 ?_
  refine cv_X9_62 (pc := 133) C dX9_count_133  h (by decide) (Nat.le_of_ble_eq_true rfl) (fun q11 h => ?_)
  exact r_iretE (pc := 136) C dX9_count_136 h
theorem c_X9_count {G : Gv} {p1 : Int32} {w : Wd} {res : Int32 × Wd} (h : f_X9_count p1 w = some res) (l : Launch) : MC l yX9_count cX9_count 2 (some FieldType.int) 3 G SM w [.ref (G.2 100), .int p1] (some (.int res.1)) res.2 := mc_of (by decide +kernel) rfl (Nat.le_of_ble_eq_true rfl) rfl (fun V C => b_X9_count_E C h) l
def f_X9_told (p1 : Int32) (w : Wd) : Option (Int32 × Wd) := bd (f_X9_in p1 (1:Int32) (5:Int32)) (fun q1 => (if q1 = 0 then bd (f_X9_errs (-1000000001:Int32) w) (fun q2 => some (q2.1, q2.2)) else ald w 105 6 p1 (fun v3 => some (v3, w))))
set_option maxRecDepth 20000 in
theorem b_X9_told_E {G : Gv} {V : Vt} {res : Int32 × Wd}  (C : CX cX9_told RX9 G SM 2 2 (some FieldType.int) (some (.int res.1)) res.2 V) {p1 : Int32} {w : Wd} (h : f_X9_told p1 w = some res) : V w 0 [(0, .ref (G.2 100)), (1, .int p1)] [] := by
  unfold f_X9_told at h
  refine r_iload_n (pc := 0) C dX9_told_0 rfl 1 rfl ?_
  refine r_iconst (v := (1:Int32)) (pc := 1) C dX9_told_1 (by decide) ?_
  refine r_iconst (v := (5:Int32)) (pc := 2) C dX9_told_2 (by decide) ?_
  refine cv_X9_53 (pc := 3) C dX9_told_3  h (by decide) (Nat.le_of_ble_eq_true rfl) (fun q1 h => ?_)
  refine r_if_eq (pc := 6) C 18 dX9_told_6 (by decide) h (fun h => ?_) (fun h => ?_)
  · refine r_aload_n (pc := 18) C dX9_told_18 rfl 0 rfl ?_
    refine r_ldc (pc := 19) C dX9_told_19 qk_X9_61 ?_
    refine cv_X9_62 (pc := 21) C dX9_told_21  h (by decide) (Nat.le_of_ble_eq_true rfl) (fun q2 h => ?_)
    exact r_iretE (pc := 24) C dX9_told_24 h
  · refine r_aload_n (pc := 9) C dX9_told_9 rfl 0 rfl ?_
    refine gr_X9_22 (pc := 10) 105 C dX9_told_10 kx_100 rfl ?_
    refine r_iload_n (pc := 13) C dX9_told_13 rfl 1 rfl ?_
    refine r_ald (pc := 14) C dX9_told_14 h kx_105 (fun v3 h => ?_)
    refine r_goto (pc := 15) C 24 dX9_told_15 (by decide) ?_
    exact r_iretE (pc := 24) C dX9_told_24 h
theorem c_X9_told {G : Gv} {p1 : Int32} {w : Wd} {res : Int32 × Wd} (h : f_X9_told p1 w = some res) (l : Launch) : MC l yX9_told cX9_told 2 (some FieldType.int) 2 G SM w [.ref (G.2 100), .int p1] (some (.int res.1)) res.2 := mc_of (by decide +kernel) rfl (Nat.le_of_ble_eq_true rfl) rfl (fun V C => b_X9_told_E C h) l
