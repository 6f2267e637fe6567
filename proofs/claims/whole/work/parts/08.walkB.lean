def f_J0_isLatin1_aae02 (b0 : Int32) : Option (Int32) := some (1:Int32)
set_option maxRecDepth 20000 in
theorem b_J0_isLatin1_aae02_E {G : Gv} {V : Vt} {w : Wd} {res : Int32}  (C : CX cJ0_isLatin1_aae02 RJ0 G SX 1 1 (some FieldType.boolean) (some (.int res)) w V) {b0 : Int32} (h : f_J0_isLatin1_aae02 b0 = some res) : V w 0 [(0, .ref (strA G b0))] [] := by
  unfold f_J0_isLatin1_aae02 at h
  refine r_getsC (pc := 0) C dJ0_isLatin1_aae02_0 ?_
  refine r_if_eq (A := none) (B := some ()) (pc := 3) C 17 dJ0_isLatin1_aae02_3 (by decide) (if_neg (by decide)) (fun e => by cases e) (fun _ => ?_)
  refine r_aload_n (pc := 6) C dJ0_isLatin1_aae02_6 rfl 0 rfl ?_
  refine r_gscod (pc := 7) C dJ0_isLatin1_aae02_7 ?_
  refine r_if_ne (A := none) (B := some ()) (pc := 10) C 17 dJ0_isLatin1_aae02_10 (by decide) (if_neg (by decide)) (fun e => by cases e) (fun _ => ?_)
  refine r_iconst (v := (1:Int32)) (pc := 13) C dJ0_isLatin1_aae02_13 (by decide) ?_
  refine r_goto (pc := 14) C 18 dJ0_isLatin1_aae02_14 (by decide) ?_
  exact r_zretP (pc := 18) C rfl dJ0_isLatin1_aae02_18 h
theorem c_J0_isLatin1_aae02 {G : Gv} {b0 : Int32} {w : Wd} {res : Int32} (h : f_J0_isLatin1_aae02 b0 = some res) (l : Launch) : MC l yJ0_isLatin1_aae02 cJ0_isLatin1_aae02 1 (some FieldType.boolean) 1 G SX w [.ref (strA G b0)] (some (.int res)) w := mc_of (by decide +kernel) rfl (Nat.le_of_ble_eq_true rfl) rfl (fun V C => b_J0_isLatin1_aae02_E C h) l
def f_J0_coder_7d493 (b0 : Int32) : Option (Int32) := some (0:Int32)
set_option maxRecDepth 20000 in
theorem b_J0_coder_7d493_E {G : Gv} {V : Vt} {w : Wd} {res : Int32}  (C : CX cJ0_coder_7d493 RJ0 G SX 1 1 (some FieldType.byte) (some (.int res)) w V) {b0 : Int32} (h : f_J0_coder_7d493 b0 = some res) : V w 0 [(0, .ref (strA G b0))] [] := by
  unfold f_J0_coder_7d493 at h
  refine r_getsC (pc := 0) C dJ0_coder_7d493_0 ?_
  refine r_if_eq (A := none) (B := some ()) (pc := 3) C 13 dJ0_coder_7d493_3 (by decide) (if_neg (by decide)) (fun e => by cases e) (fun _ => ?_)
  refine r_aload_n (pc := 6) C dJ0_coder_7d493_6 rfl 0 rfl ?_
  refine r_gscod (pc := 7) C dJ0_coder_7d493_7 ?_
  refine r_goto (pc := 10) C 14 dJ0_coder_7d493_10 (by decide) ?_
  exact r_bretP (pc := 14) C rfl dJ0_coder_7d493_14 h
theorem c_J0_coder_7d493 {G : Gv} {b0 : Int32} {w : Wd} {res : Int32} (h : f_J0_coder_7d493 b0 = some res) (l : Launch) : MC l yJ0_coder_7d493 cJ0_coder_7d493 1 (some FieldType.byte) 1 G SX w [.ref (strA G b0)] (some (.int res)) w := mc_of (by decide +kernel) rfl (Nat.le_of_ble_eq_true rfl) rfl (fun V C => b_J0_coder_7d493_E C h) l
theorem cv_J0_335 {cc : ByteArray} {G : Gv} {n hc : Nat} {rt : Option FieldType} {rv : Option Value} {w0 : Wd} {V : Vt} {w : Wd} {pc : Nat} {L : List (Nat × Value)} {rest : List Value} {α : Type} {res : α} {b0 : Int32} {K : Int32 → Option α} (C : CX cc RJ0 G SX n hc rt rv w0 V) (hd : decode cc pc = .ok (.invokevirtual 335, 3)) (h : bd (f_J0_coder_7d493 b0) K = some res) (hR : 1 + 1 ≤ hc) (hr : (rest.map fun v => v.category).sum ≤ 8) (kk : ∀ q, K q = some res → V w (pc + 3) L (.int q :: rest)) : V w pc L (.ref (strA G b0) :: rest) := r_callVS (e := b0) (As := []) (rest := rest) (rvf := fun q => (some (.int q))) (wf := fun q => w) C hd h ql_J0_335 qi_J0_coder_7d493 qs_J0_coder_7d493 qn_J0 qc_J0_coder_7d493 ⟨rfl, by decide +kernel, by decide +kernel, (by decide +kernel : (parseMethodDescriptor yJ0_coder_7d493.desc).map (fun d => d.parameters.length) = some 0)⟩ ⟨hR, by decide⟩ (fun q hq l => c_J0_coder_7d493 hq l) rfl hr kk
def f_J0_length_8abf5 (b0 : Int32) : Option (Int32) := some ((3:Int32) >>> ((0:Int32) &&& 31))
set_option maxRecDepth 20000 in
theorem b_J0_length_8abf5_E {G : Gv} {V : Vt} {w : Wd} {res : Int32}  (C : CX cJ0_length_8abf5 RJ0 G SX 1 2 (some FieldType.int) (some (.int res)) w V) {b0 : Int32} (h : f_J0_length_8abf5 b0 = some res) : V w 0 [(0, .ref (strA G b0))] [] := by
  unfold f_J0_length_8abf5 at h
  refine r_aload_n (pc := 0) C dJ0_length_8abf5_0 rfl 0 rfl ?_
  refine r_gsval (pc := 1) C dJ0_length_8abf5_1 ?_
  refine r_blen (pc := 4) C dJ0_length_8abf5_4 ?_
  refine r_aload_n (pc := 5) C dJ0_length_8abf5_5 rfl 0 rfl ?_
  refine cv_J0_335 (K := fun z => if z = (0:Int32) then some () else none) (pc := 6) C dJ0_length_8abf5_6 (rfl : _ = some ()) (by decide) (Nat.le_of_ble_eq_true rfl) (fun q hq => ?_)
  obtain rfl := kq hq
  refine r_ishr (pc := 9) C dJ0_length_8abf5_9 ?_
  exact r_iretP (pc := 10) C dJ0_length_8abf5_10 h
theorem c_J0_length_8abf5 {G : Gv} {b0 : Int32} {w : Wd} {res : Int32} (h : f_J0_length_8abf5 b0 = some res) (l : Launch) : MC l yJ0_length_8abf5 cJ0_length_8abf5 1 (some FieldType.int) 2 G SX w [.ref (strA G b0)] (some (.int res)) w := mc_of (by decide +kernel) rfl (Nat.le_of_ble_eq_true rfl) rfl (fun V C => b_J0_length_8abf5_E C h) l
def f_J1_canEncode_9a6ad (p0 : Int32) : Option (Int32) := (if p0 < 0 then some (0:Int32) else (if (255:Int32) < p0 then some (0:Int32) else some (1:Int32)))
set_option maxRecDepth 20000 in
theorem b_J1_canEncode_9a6ad_E {G : Gv} {V : Vt} {w : Wd} {res : Int32}  (C : CX cJ1_canEncode_9a6ad RJ1 G SX 1 1 (some FieldType.boolean) (some (.int res)) w V) {p0 : Int32} (h : f_J1_canEncode_9a6ad p0 = some res) : V w 0 [(0, .int p0)] [] := by
  unfold f_J1_canEncode_9a6ad at h
  refine r_iload_n (pc := 0) C dJ1_canEncode_9a6ad_0 rfl 0 rfl ?_
  refine r_if_lt (pc := 1) C 15 dJ1_canEncode_9a6ad_1 (by decide) h (fun h => ?_) (fun h => ?_)
  · refine r_iconst (v := (0:Int32)) (pc := 15) C dJ1_canEncode_9a6ad_15 (by decide) ?_
    exact r_zretP (pc := 16) C rfl dJ1_canEncode_9a6ad_16 h
  · refine r_iload_n (pc := 4) C dJ1_canEncode_9a6ad_4 rfl 0 rfl ?_
    refine r_sipush (v := (255:Int32)) (pc := 5) C dJ1_canEncode_9a6ad_5 (by decide) ?_
    refine r_icmp_gt (pc := 8) C 15 dJ1_canEncode_9a6ad_8 (by decide) h (fun h => ?_) (fun h => ?_)
    · refine r_iconst (v := (0:Int32)) (pc := 15) C dJ1_canEncode_9a6ad_15 (by decide) ?_
      exact r_zretP (pc := 16) C rfl dJ1_canEncode_9a6ad_16 h
    · refine r_iconst (v := (1:Int32)) (pc := 11) C dJ1_canEncode_9a6ad_11 (by decide) ?_
      refine r_goto (pc := 12) C 16 dJ1_canEncode_9a6ad_12 (by decide) ?_
      exact r_zretP (pc := 16) C rfl dJ1_canEncode_9a6ad_16 h
theorem c_J1_canEncode_9a6ad {G : Gv} {p0 : Int32} {w : Wd} {res : Int32} (h : f_J1_canEncode_9a6ad p0 = some res) (l : Launch) : MC l yJ1_canEncode_9a6ad cJ1_canEncode_9a6ad 1 (some FieldType.boolean) 1 G SX w [.int p0] (some (.int res)) w := mc_of (by decide +kernel) rfl (Nat.le_of_ble_eq_true rfl) rfl (fun V C => b_J1_canEncode_9a6ad_E C h) l
def fb_J1_indexOfChar_4cfef_7 (rec7 : Int32 → Int32 → Int32 → Int32 → Option (Int32)) (x0 : Int32) (x3 : Int32) (x4 : Int32) (x5 : Int32) : Option (Int32) := (if x3 ≤ x5 then some (-1:Int32) else tld (bytF x0) 3 x5 (fun v1 => (if ¬ v1 = x4 then rec7 x0 x3 x4 (x5 + (1:Int32)) else some x5)))
set_option maxRecDepth 20000 in
theorem bb_J1_indexOfChar_4cfef_7 {G : Gv} {V : Vt} {w : Wd} {rec7 : Int32 → Int32 → Int32 → Int32 → Option (Int32)} {res : Int32}  (C : CX cJ1_indexOfChar_4cfef RJ1 G SX 6 1 (some FieldType.int) (some (.int res)) w V) (hrec7 : ∀ (x0 : Int32) (x3 : Int32) (x4 : Int32) (x5 : Int32), rec7 x0 x3 x4 x5 = some res → V w 7 [(0, .ref (bytA G x0)), (3, .int x3), (4, .int x4), (5, .int x5)] []) {x0 : Int32} {x3 : Int32} {x4 : Int32} {x5 : Int32} (h : fb_J1_indexOfChar_4cfef_7 rec7 x0 x3 x4 x5 = some res) : V w 7 [(0, .ref (bytA G x0)), (3, .int x3), (4, .int x4), (5, .int x5)] [] := by
  unfold fb_J1_indexOfChar_4cfef_7 at h
  refine r_iload (pc := 7) C dJ1_indexOfChar_4cfef_7 3 rfl ?_
  refine r_iload_n (pc := 9) C dJ1_indexOfChar_4cfef_9 rfl 1 rfl ?_
  refine r_icmp_ge (pc := 10) C 31 dJ1_indexOfChar_4cfef_10 (by decide) h (fun h => ?_) (fun h => ?_)
  · refine r_iconst (v := (-1:Int32)) (pc := 31) C dJ1_indexOfChar_4cfef_31 (by decide) ?_
    exact r_iretP (pc := 32) C dJ1_indexOfChar_4cfef_32 h
  · refine r_aload_n (pc := 13) C dJ1_indexOfChar_4cfef_13 rfl 0 rfl ?_
    refine r_iload (pc := 14) C dJ1_indexOfChar_4cfef_14 3 rfl ?_
    refine r_bald (pc := 16) C dJ1_indexOfChar_4cfef_16 h (fun v1 h => ?_)
    refine r_iload (pc := 17) C dJ1_indexOfChar_4cfef_17 2 rfl ?_
    refine r_icmp_ne (pc := 19) C 25 dJ1_indexOfChar_4cfef_19 (by decide) h (fun h => ?_) (fun h => ?_)
    · refine r_iinc (v := (x5 + (1:Int32))) (L' := [(5, .int (x5 + (1:Int32))), (0, .ref (bytA G x0)), (3, .int x3), (4, .int x4)]) (pc := 25) C dJ1_indexOfChar_4cfef_25 3 rfl rfl (by decide) rfl ?_
      refine r_goto (pc := 28) C 7 dJ1_indexOfChar_4cfef_28 (by decide) ?_
      exact r_sub C [1, 2, 3, 0] rfl (hrec7 _ _ _ _ h)
    · refine r_iload (pc := 22) C dJ1_indexOfChar_4cfef_22 3 rfl ?_
      exact r_iretP (pc := 24) C dJ1_indexOfChar_4cfef_24 h
def f_J1_indexOfChar_4cfef_7 : Int32 → Int32 → Int32 → Int32 → Option (Int32) := lp (fun _ _ _ _ => none) (fun rec => fb_J1_indexOfChar_4cfef_7 rec) FU
theorem b_J1_indexOfChar_4cfef_7 {G : Gv} {V : Vt} {w : Wd} {res : Int32}  (C : CX cJ1_indexOfChar_4cfef RJ1 G SX 6 1 (some FieldType.int) (some (.int res)) w V) : ∀ (x0 : Int32) (x3 : Int32) (x4 : Int32) (x5 : Int32), (f_J1_indexOfChar_4cfef_7) x0 x3 x4 x5 = some res → V w 7 [(0, .ref (bytA G x0)), (3, .int x3), (4, .int x4), (5, .int x5)] [] :=
  lp_ind (P := fun (g : Int32 → Int32 → Int32 → Int32 → Option (Int32)) => ∀ (x0 : Int32) (x3 : Int32) (x4 : Int32) (x5 : Int32), g x0 x3 x4 x5 = some res → V w 7 [(0, .ref (bytA G x0)), (3, .int x3), (4, .int x4), (5, .int x5)] []) (fun _ _ _ _ h => by cases h) (fun g hg _ _ _ _ h => bb_J1_indexOfChar_4cfef_7 C hg h) FU
def f_J1_indexOfChar_4cfef (p0 : Int32) (p1 : Int32) (p2 : Int32) (p3 : Int32) : Option (Int32) := lv ((p1).toInt8.toInt32) (fun v1 => f_J1_indexOfChar_4cfef_7 p0 p3 v1 p2)
set_option maxRecDepth 20000 in
theorem b_J1_indexOfChar_4cfef_E {G : Gv} {V : Vt} {w : Wd} {res : Int32}  (C : CX cJ1_indexOfChar_4cfef RJ1 G SX 6 1 (some FieldType.int) (some (.int res)) w V) {p0 : Int32} {p1 : Int32} {p2 : Int32} {p3 : Int32} (h : f_J1_indexOfChar_4cfef p0 p1 p2 p3 = some res) : V w 0 [(0, .ref (bytA G p0)), (1, .int p1), (2, .int p2), (3, .int p3)] [] := by
  unfold f_J1_indexOfChar_4cfef at h
  refine r_iload_n (pc := 0) C dJ1_indexOfChar_4cfef_0 rfl 1 rfl ?_
  refine r_i2b (pc := 1) C dJ1_indexOfChar_4cfef_1 ?_
  refine r_lv h (fun v1 h => ?_)
  refine r_istore (L' := [(4, .int v1), (0, .ref (bytA G p0)), (1, .int p1), (2, .int p2), (3, .int p3)]) (pc := 2) C dJ1_indexOfChar_4cfef_2 (by decide) rfl ?_
  refine r_iload_n (pc := 4) C dJ1_indexOfChar_4cfef_4 rfl 3 rfl ?_
  refine r_istore (L' := [(5, .int p2), (4, .int v1), (0, .ref (bytA G p0)), (1, .int p1), (2, .int p2), (3, .int p3)]) (pc := 5) C dJ1_indexOfChar_4cfef_5 (by decide) rfl ?_
  exact r_sub C [2, 5, 1, 0] rfl (b_J1_indexOfChar_4cfef_7 C _ _ _ _ h)
theorem c_J1_indexOfChar_4cfef {G : Gv} {p0 : Int32} {p1 : Int32} {p2 : Int32} {p3 : Int32} {w : Wd} {res : Int32} (h : f_J1_indexOfChar_4cfef p0 p1 p2 p3 = some res) (l : Launch) : MC l yJ1_indexOfChar_4cfef cJ1_indexOfChar_4cfef 6 (some FieldType.int) 1 G SX w [.ref (bytA G p0), .int p1, .int p2, .int p3] (some (.int res)) w := mc_of (by decide +kernel) rfl (Nat.le_of_ble_eq_true rfl) rfl (fun V C => b_J1_indexOfChar_4cfef_E C h) l
theorem cv_J1_88 {cc : ByteArray} {G : Gv} {n hc : Nat} {rt : Option FieldType} {rv : Option Value} {w0 : Wd} {V : Vt} {w : Wd} {pc : Nat} {L : List (Nat × Value)} {rest : List Value} {α : Type} {res : α} {p0 : Int32} {K : Int32 → Option α} (C : CX cc RJ1 G SX n hc rt rv w0 V) (hd : decode cc pc = .ok (.invokestatic 88, 3)) (h : bd (f_J1_canEncode_9a6ad p0) K = some res) (hR : 1 + 1 ≤ hc) (hr : (rest.map fun v => v.category).sum ≤ 8) (kk : ∀ q, K q = some res → V w (pc + 3) L (.int q :: rest)) : V w pc L (.int p0 :: rest) := r_callS (As := [.int p0]) (rest := rest) (rvf := fun q => (some (.int q))) (wf := fun q => w) C hd h ql_J1_88 qt_J1_canEncode_9a6ad qn_J1 qc_J1_canEncode_9a6ad ⟨by decide +kernel, by decide +kernel, (by decide +kernel : (parseMethodDescriptor yJ1_canEncode_9a6ad.desc).map (fun d => d.parameters.length) = some 1)⟩ ⟨hR, by decide⟩ (fun q hq l => c_J1_canEncode_9a6ad hq l) rfl hr kk
theorem cv_J1_95 {cc : ByteArray} {G : Gv} {n hc : Nat} {rt : Option FieldType} {rv : Option Value} {w0 : Wd} {V : Vt} {w : Wd} {pc : Nat} {L : List (Nat × Value)} {rest : List Value} {α : Type} {res : α} {p0 : Int32} {p1 : Int32} {p2 : Int32} {p3 : Int32} {K : Int32 → Option α} (C : CX cc RJ1 G SX n hc rt rv w0 V) (hd : decode cc pc = .ok (.invokestatic 95, 3)) (h : bd (f_J1_indexOfChar_4cfef p0 p1 p2 p3) K = some res) (hR : 1 + 1 ≤ hc) (hr : (rest.map fun v => v.category).sum ≤ 8) (kk : ∀ q, K q = some res → V w (pc + 3) L (.int q :: rest)) : V w pc L (.int p3 :: .int p2 :: .int p1 :: .ref (bytA G p0) :: rest) := r_callS (As := [.ref (bytA G p0), .int p1, .int p2, .int p3]) (rest := rest) (rvf := fun q => (some (.int q))) (wf := fun q => w) C hd h ql_J1_95 qt_J1_indexOfChar_4cfef qn_J1 qc_J1_indexOfChar_4cfef ⟨by decide +kernel, by decide +kernel, (by decide +kernel : (parseMethodDescriptor yJ1_indexOfChar_4cfef.desc).map (fun d => d.parameters.length) = some 4)⟩ ⟨hR, by decide⟩ (fun q hq l => c_J1_indexOfChar_4cfef hq l) rfl hr kk
def f_J1_indexOf_4cfef (p0 : Int32) (p1 : Int32) (p2 : Int32) (p3 : Int32) : Option (Int32) := bd (f_J1_canEncode_9a6ad p1) (fun q1 => (if ¬ q1 = 0 then lv (mmax p2 (0:Int32)) (fun v2 => lv (mmin p3 (3:Int32)) (fun v3 => (if v2 < v3 then bd (f_J1_indexOfChar_4cfef p0 p1 v2 v3) (fun q4 => some q4) else some (-1:Int32)))) else some (-1:Int32)))
set_option maxRecDepth 20000 in
theorem b_J1_indexOf_4cfef_E {G : Gv} {V : Vt} {w : Wd} {res : Int32}  (C : CX cJ1_indexOf_4cfef RJ1 G SX 4 2 (some FieldType.int) (some (.int res)) w V) {p0 : Int32} {p1 : Int32} {p2 : Int32} {p3 : Int32} (h : f_J1_indexOf_4cfef p0 p1 p2 p3 = some res) : V w 0 [(0, .ref (bytA G p0)), (1, .int p1), (2, .int p2), (3, .int p3)] [] := by
  unfold f_J1_indexOf_4cfef at h
  refine r_iload_n (pc := 0) C dJ1_indexOf_4cfef_0 rfl 1 rfl ?_
  refine cv_J1_88 (pc := 1) C dJ1_indexOf_4cfef_1  h (by decide) (Nat.le_of_ble_eq_true rfl) (fun q1 h => ?_)
  refine r_if_ne (pc := 4) C 9 dJ1_indexOf_4cfef_4 (by decide) h (fun h => ?_) (fun h => ?_)
  · refine r_iload_n (pc := 9) C dJ1_indexOf_4cfef_9 rfl 2 rfl ?_
    refine r_iconst (v := (0:Int32)) (pc := 10) C dJ1_indexOf_4cfef_10 (by decide) ?_
    refine r_mmax (pc := 11) C dJ1_indexOf_4cfef_11 ql_J1_92 qt_Math_max qn_J9 qc_Math_max (Nat.le_of_ble_eq_true rfl) ?_
    refine r_lv h (fun v2 h => ?_)
    refine r_istore_n (L' := [(2, .int v2), (0, .ref (bytA G p0)), (1, .int p1), (3, .int p3)]) (pc := 14) C dJ1_indexOf_4cfef_14 rfl (by decide) rfl ?_
    refine r_iload_n (pc := 15) C dJ1_indexOf_4cfef_15 rfl 3 rfl ?_
    refine r_aload_n (pc := 16) C dJ1_indexOf_4cfef_16 rfl 1 rfl ?_
    refine r_blen (pc := 17) C dJ1_indexOf_4cfef_17 ?_
    refine r_mmin (pc := 18) C dJ1_indexOf_4cfef_18 ql_J1_38 qt_Math_min qn_J9 qc_Math_min (Nat.le_of_ble_eq_true rfl) ?_
    refine r_lv h (fun v3 h => ?_)
    refine r_istore_n (L' := [(3, .int v3), (2, .int v2), (0, .ref (bytA G p0)), (1, .int p1)]) (pc := 21) C dJ1_indexOf_4cfef_21 rfl (by decide) rfl ?_
    refine r_iload_n (pc := 22) C dJ1_indexOf_4cfef_22 rfl 1 rfl ?_
    refine r_iload_n (pc := 23) C dJ1_indexOf_4cfef_23 rfl 0 rfl ?_
    refine r_icmp_lt (pc := 24) C 29 dJ1_indexOf_4cfef_24 (by decide) h (fun h => ?_) (fun h => ?_)
    · refine r_aload_n (pc := 29) C dJ1_indexOf_4cfef_29 rfl 2 rfl ?_
      refine r_iload_n (pc := 30) C dJ1_indexOf_4cfef_30 rfl 3 rfl ?_
      refine r_iload_n (pc := 31) C dJ1_indexOf_4cfef_31 rfl 1 rfl ?_
      refine r_iload_n (pc := 32) C dJ1_indexOf_4cfef_32 rfl 0 rfl ?_
      refine cv_J1_95 (pc := 33) C dJ1_indexOf_4cfef_33  h (by decide) (Nat.le_of_ble_eq_true rfl) (fun q4 h => ?_)
      exact r_iretP (pc := 36) C dJ1_indexOf_4cfef_36 h
    · refine r_iconst (v := (-1:Int32)) (pc := 27) C dJ1_indexOf_4cfef_27 (by decide) ?_
      exact r_iretP (pc := 28) C dJ1_indexOf_4cfef_28 h
  · refine r_iconst (v := (-1:Int32)) (pc := 7) C dJ1_indexOf_4cfef_7 (by decide) ?_
    exact r_iretP (pc := 8) C dJ1_indexOf_4cfef_8 h
theorem c_J1_indexOf_4cfef {G : Gv} {p0 : Int32} {p1 : Int32} {p2 : Int32} {p3 : Int32} {w : Wd} {res : Int32} (h : f_J1_indexOf_4cfef p0 p1 p2 p3 = some res) (l : Launch) : MC l yJ1_indexOf_4cfef cJ1_indexOf_4cfef 4 (some FieldType.int) 2 G SX w [.ref (bytA G p0), .int p1, .int p2, .int p3] (some (.int res)) w := mc_of (by decide +kernel) rfl (Nat.le_of_ble_eq_true rfl) rfl (fun V C => b_J1_indexOf_4cfef_E C h) l
theorem cv_J0_492 {cc : ByteArray} {G : Gv} {n hc : Nat} {rt : Option FieldType} {rv : Option Value} {w0 : Wd} {V : Vt} {w : Wd} {pc : Nat} {L : List (Nat × Value)} {rest : List Value} {α : Type} {res : α} {b0 : Int32} {K : Int32 → Option α} (C : CX cc RJ0 G SX n hc rt rv w0 V) (hd : decode cc pc = .ok (.invokevirtual 492, 3)) (h : bd (f_J0_isLatin1_aae02 b0) K = some res) (hR : 1 + 1 ≤ hc) (hr : (rest.map fun v => v.category).sum ≤ 8) (kk : ∀ q, K q = some res → V w (pc + 3) L (.int q :: rest)) : V w pc L (.ref (strA G b0) :: rest) := r_callVS (e := b0) (As := []) (rest := rest) (rvf := fun q => (some (.int q))) (wf := fun q => w) C hd h ql_J0_492 qi_J0_isLatin1_aae02 qs_J0_isLatin1_aae02 qn_J0 qc_J0_isLatin1_aae02 ⟨rfl, by decide +kernel, by decide +kernel, (by decide +kernel : (parseMethodDescriptor yJ0_isLatin1_aae02.desc).map (fun d => d.parameters.length) = some 0)⟩ ⟨hR, by decide⟩ (fun q hq l => c_J0_isLatin1_aae02 hq l) rfl hr kk
theorem cv_J0_505 {cc : ByteArray} {G : Gv} {n hc : Nat} {rt : Option FieldType} {rv : Option Value} {w0 : Wd} {V : Vt} {w : Wd} {pc : Nat} {L : List (Nat × Value)} {rest : List Value} {α : Type} {res : α} {b0 : Int32} {K : Int32 → Option α} (C : CX cc RJ0 G SX n hc rt rv w0 V) (hd : decode cc pc = .ok (.invokevirtual 505, 3)) (h : bd (f_J0_length_8abf5 b0) K = some res) (hR : 2 + 1 ≤ hc) (hr : (rest.map fun v => v.category).sum ≤ 8) (kk : ∀ q, K q = some res → V w (pc + 3) L (.int q :: rest)) : V w pc L (.ref (strA G b0) :: rest) := r_callVS (e := b0) (As := []) (rest := rest) (rvf := fun q => (some (.int q))) (wf := fun q => w) C hd h ql_J0_505 qi_J0_length_8abf5 qs_J0_length_8abf5 qn_J0 qc_J0_length_8abf5 ⟨rfl, by decide +kernel, by decide +kernel, (by decide +kernel : (parseMethodDescriptor yJ0_length_8abf5.desc).map (fun d => d.parameters.length) = some 0)⟩ ⟨hR, by decide⟩ (fun q hq l => c_J0_length_8abf5 hq l) rfl hr kk
theorem cv_J0_637 {cc : ByteArray} {G : Gv} {n hc : Nat} {rt : Option FieldType} {rv : Option Value} {w0 : Wd} {V : Vt} {w : Wd} {pc : Nat} {L : List (Nat × Value)} {rest : List Value} {α : Type} {res : α} {p0 : Int32} {p1 : Int32} {p2 : Int32} {p3 : Int32} {K : Int32 → Option α} (C : CX cc RJ0 G SX n hc rt rv w0 V) (hd : decode cc pc = .ok (.invokestatic 637, 3)) (h : bd (f_J1_indexOf_4cfef p0 p1 p2 p3) K = some res) (hR : 2 + 1 ≤ hc) (hr : (rest.map fun v => v.category).sum ≤ 8) (kk : ∀ q, K q = some res → V w (pc + 3) L (.int q :: rest)) : V w pc L (.int p3 :: .int p2 :: .int p1 :: .ref (bytA G p0) :: rest) := r_callS (As := [.ref (bytA G p0), .int p1, .int p2, .int p3]) (rest := rest) (rvf := fun q => (some (.int q))) (wf := fun q => w) C hd h ql_J0_637 qt_J1_indexOf_4cfef qn_J1 qc_J1_indexOf_4cfef ⟨by decide +kernel, by decide +kernel, (by decide +kernel : (parseMethodDescriptor yJ1_indexOf_4cfef.desc).map (fun d => d.parameters.length) = some 4)⟩ ⟨hR, by decide⟩ (fun q hq l => c_J1_indexOf_4cfef hq l) rfl hr kk
def f_J0_indexOf_7cf53 (b0 : Int32) (p1 : Int32) (p2 : Int32) : Option (Int32) := bd (f_J0_length_8abf5 b0) (fun q1 => bd (f_J1_indexOf_4cfef b0 p1 p2 q1) (fun q2 => some q2))
set_option maxRecDepth 20000 in
theorem b_J0_indexOf_7cf53_E {G : Gv} {V : Vt} {w : Wd} {res : Int32}  (C : CX cJ0_indexOf_7cf53 RJ0 G SX 3 3 (some FieldType.int) (some (.int res)) w V) {b0 : Int32} {p1 : Int32} {p2 : Int32} (h : f_J0_indexOf_7cf53 b0 p1 p2 = some res) : V w 0 [(0, .ref (strA G b0)), (1, .int p1), (2, .int p2)] [] := by
  unfold f_J0_indexOf_7cf53 at h
  refine r_aload_n (pc := 0) C dJ0_indexOf_7cf53_0 rfl 0 rfl ?_
  refine cv_J0_492 (K := fun z => if z = (1:Int32) then some () else none) (pc := 1) C dJ0_indexOf_7cf53_1 (rfl : _ = some ()) (by decide) (Nat.le_of_ble_eq_true rfl) (fun q hq => ?_)
  obtain rfl := kq hq
  refine r_if_eq (A := none) (B := some ()) (pc := 4) C 23 dJ0_indexOf_7cf53_4 (by decide) (if_neg (by decide)) (fun e => by cases e) (fun _ => ?_)
  refine r_aload_n (pc := 7) C dJ0_indexOf_7cf53_7 rfl 0 rfl ?_
  refine r_gsval (pc := 8) C dJ0_indexOf_7cf53_8 ?_
  refine r_iload_n (pc := 11) C dJ0_indexOf_7cf53_11 rfl 1 rfl ?_
  refine r_iload_n (pc := 12) C dJ0_indexOf_7cf53_12 rfl 2 rfl ?_
  refine r_aload_n (pc := 13) C dJ0_indexOf_7cf53_13 rfl 0 rfl ?_
  refine cv_J0_505 (pc := 14) C dJ0_indexOf_7cf53_14  h (by decide) (Nat.le_of_ble_eq_true rfl) (fun q1 h => ?_)
  refine cv_J0_637 (pc := 17) C dJ0_indexOf_7cf53_17  h (by decide) (Nat.le_of_ble_eq_true rfl) (fun q2 h => ?_)
  refine r_goto (pc := 20) C 36 dJ0_indexOf_7cf53_20 (by decide) ?_
  exact r_iretP (pc := 36) C dJ0_indexOf_7cf53_36 h
theorem c_J0_indexOf_7cf53 {G : Gv} {b0 : Int32} {p1 : Int32} {p2 : Int32} {w : Wd} {res : Int32} (h : f_J0_indexOf_7cf53 b0 p1 p2 = some res) (l : Launch) : MC l yJ0_indexOf_7cf53 cJ0_indexOf_7cf53 3 (some FieldType.int) 3 G SX w [.ref (strA G b0), .int p1, .int p2] (some (.int res)) w := mc_of (by decide +kernel) rfl (Nat.le_of_ble_eq_true rfl) rfl (fun V C => b_J0_indexOf_7cf53_E C h) l
theorem cv_J0_633 {cc : ByteArray} {G : Gv} {n hc : Nat} {rt : Option FieldType} {rv : Option Value} {w0 : Wd} {V : Vt} {w : Wd} {pc : Nat} {L : List (Nat × Value)} {rest : List Value} {α : Type} {res : α} {b0 : Int32} {p1 : Int32} {p2 : Int32} {K : Int32 → Option α} (C : CX cc RJ0 G SX n hc rt rv w0 V) (hd : decode cc pc = .ok (.invokevirtual 633, 3)) (h : bd (f_J0_indexOf_7cf53 b0 p1 p2) K = some res) (hR : 3 + 1 ≤ hc) (hr : (rest.map fun v => v.category).sum ≤ 8) (kk : ∀ q, K q = some res → V w (pc + 3) L (.int q :: rest)) : V w pc L (.int p2 :: .int p1 :: .ref (strA G b0) :: rest) := r_callVS (e := b0) (As := [.int p1, .int p2]) (rest := rest) (rvf := fun q => (some (.int q))) (wf := fun q => w) C hd h ql_J0_633 qi_J0_indexOf_7cf53 qs_J0_indexOf_7cf53 qn_J0 qc_J0_indexOf_7cf53 ⟨rfl, by decide +kernel, by decide +kernel, (by decide +kernel : (parseMethodDescriptor yJ0_indexOf_7cf53.desc).map (fun d => d.parameters.length) = some 2)⟩ ⟨hR, by decide⟩ (fun q hq l => c_J0_indexOf_7cf53 hq l) rfl hr kk
def f_J0_indexOf_0f7a4 (b0 : Int32) (p1 : Int32) : Option (Int32) := bd (f_J0_indexOf_7cf53 b0 p1 (0:Int32)) (fun q1 => some q1)
set_option maxRecDepth 20000 in
theorem b_J0_indexOf_0f7a4_E {G : Gv} {V : Vt} {w : Wd} {res : Int32}  (C : CX cJ0_indexOf_0f7a4 RJ0 G SX 2 4 (some FieldType.int) (some (.int res)) w V) {b0 : Int32} {p1 : Int32} (h : f_J0_indexOf_0f7a4 b0 p1 = some res) : V w 0 [(0, .ref (strA G b0)), (1, .int p1)] [] := by
  unfold f_J0_indexOf_0f7a4 at h
  refine r_aload_n (pc := 0) C dJ0_indexOf_0f7a4_0 rfl 0 rfl ?_
  refine r_iload_n (pc := 1) C dJ0_indexOf_0f7a4_1 rfl 1 rfl ?_
  refine r_iconst (v := (0:Int32)) (pc := 2) C dJ0_indexOf_0f7a4_2 (by decide) ?_
  refine cv_J0_633 (pc := 3) C dJ0_indexOf_0f7a4_3  h (by decide) (Nat.le_of_ble_eq_true rfl) (fun q1 h => ?_)
  exact r_iretP (pc := 6) C dJ0_indexOf_0f7a4_6 h
theorem c_J0_indexOf_0f7a4 {G : Gv} {b0 : Int32} {p1 : Int32} {w : Wd} {res : Int32} (h : f_J0_indexOf_0f7a4 b0 p1 = some res) (l : Launch) : MC l yJ0_indexOf_0f7a4 cJ0_indexOf_0f7a4 2 (some FieldType.int) 4 G SX w [.ref (strA G b0), .int p1] (some (.int res)) w := mc_of (by decide +kernel) rfl (Nat.le_of_ble_eq_true rfl) rfl (fun V C => b_J0_indexOf_0f7a4_E C h) l
theorem cv_X3_80 {cc : ByteArray} {G : Gv} {n hc : Nat} {rt : Option FieldType} {rv : Option Value} {w0 : Wd} {V : Vt} {w : Wd} {pc : Nat} {L : List (Nat × Value)} {rest : List Value} {α : Type} {res : α} {b0 : Int32} {p1 : Int32} {K : Int32 → Option α} (C : CX cc RX3 G SX n hc rt rv w0 V) (hd : decode cc pc = .ok (.invokevirtual 80, 3)) (h : bd (f_J0_indexOf_0f7a4 b0 p1) K = some res) (hR : 4 + 1 ≤ hc) (hr : (rest.map fun v => v.category).sum ≤ 8) (kk : ∀ q, K q = some res → V w (pc + 3) L (.int q :: rest)) : V w pc L (.int p1 :: .ref (strA G b0) :: rest) := r_callVS (e := b0) (As := [.int p1]) (rest := rest) (rvf := fun q => (some (.int q))) (wf := fun q => w) C hd h ql_X3_80 qi_J0_indexOf_0f7a4 qs_J0_indexOf_0f7a4 qn_J0 qc_J0_indexOf_0f7a4 ⟨rfl, by decide +kernel, by decide +kernel, (by decide +kernel : (parseMethodDescriptor yJ0_indexOf_0f7a4.desc).map (fun d => d.parameters.length) = some 1)⟩ ⟨hR, by decide⟩ (fun q hq l => c_J0_indexOf_0f7a4 hq l) rfl hr kk
def f_X3_readName_17 (t0 : Int32) (w : Wd) : Option (Int32 × Wd) := (if 0 ≤ t0 then wl (updW w 64 1 ((w 64 1) + (1:Int32))) (fun w1 => bd (f_X4_add 65 ((-1:Int32) - t0) w1) (fun q2 => some ((1:Int32), q2))) else some ((0:Int32), w))
set_option maxRecDepth 20000 in
theorem b_X3_readName_17 {G : Gv} {V : Vt} {res : Int32 × Wd}  (C : CX cX3_readName RX3 G SX 3 5 (some FieldType.boolean) (some (.int res.1)) res.2 V) {t0 : Int32} {w : Wd} (h : f_X3_readName_17 t0 w = some res) : V w 17 [(0, .ref (G.2 64))] [.int t0] := by
  unfold f_X3_readName_17 at h
  refine r_istore_n (L' := [(2, .int t0), (0, .ref (G.2 64))]) (pc := 17) C dX3_readName_17 rfl (by decide) rfl ?_
  refine r_iload_n (pc := 18) C dX3_readName_18 rfl 0 rfl ?_
  refine r_if_ge (pc := 19) C 24 dX3_readName_19 (by decide) h (fun h => ?_) (fun h => ?_)
  · refine r_aload_n (pc := 24) C dX3_readName_24 rfl 1 rfl ?_
    refine r_dup (pc := 25) C dX3_readName_25 rfl ?_
    refine gi_X3_35 (pc := 26) C dX3_readName_26 kx_64 rfl ?_
    refine r_iconst (v := (1:Int32)) (pc := 29) C dX3_readName_29 (by decide) ?_
    refine r_iadd (pc := 30) C dX3_readName_30 ?_
    refine pi_X3_35 (pc := 31) C dX3_readName_31 kx_64 rfl h (fun w1 h => ?_)
    refine r_aload_n (pc := 34) C dX3_readName_34 rfl 1 rfl ?_
    refine gr_X3_14 (pc := 35) 65 C dX3_readName_35 kx_64 rfl ?_
    refine r_iconst (v := (-1:Int32)) (pc := 38) C dX3_readName_38 (by decide) ?_
    refine r_iload_n (pc := 39) C dX3_readName_39 rfl 0 rfl ?_
    refine r_isub (pc := 40) C dX3_readName_40 ?_
    refine cv_X3_65 (pc := 41) C dX3_readName_41 isRo_65 h (by decide) (Nat.le_of_ble_eq_true rfl) (fun q2 h => ?_)
    refine r_iconst (v := (1:Int32)) (pc := 44) C dX3_readName_44 (by decide) ?_
    exact r_zretE (pc := 45) C rfl dX3_readName_45 h
  · refine r_iconst (v := (0:Int32)) (pc := 22) C dX3_readName_22 (by decide) ?_
    exact r_zretE (pc := 23) C rfl dX3_readName_23 h
def f_X3_readName (p1 : Int32) (w : Wd) : Option (Int32 × Wd) := (if 0 ≤ p1 then bd (f_J0_indexOf_0f7a4 (w 64 3) (((p1).toUInt32 % 65536).toInt32)) (fun q1 => f_X3_readName_17 q1 w) else f_X3_readName_17 (-1:Int32) w)
set_option maxRecDepth 20000 in
theorem b_X3_readName_E {G : Gv} {V : Vt} {res : Int32 × Wd}  (C : CX cX3_readName RX3 G SX 3 5 (some FieldType.boolean) (some (.int res.1)) res.2 V) {p1 : Int32} {w : Wd} (h : f_X3_readName p1 w = some res) : V w 0 [(0, .ref (G.2 64)), (1, .int p1)] [] := by
  unfold f_X3_readName at h
  refine r_iload_n (pc := 0) C dX3_readName_0 rfl 1 rfl ?_
  refine r_if_ge (pc := 1) C 8 dX3_readName_1 (by decide) h (fun h => ?_) (fun h => ?_)
  · refine r_aload_n (pc := 8) C dX3_readName_8 rfl 0 rfl ?_
    refine gs_X3_25 (pc := 9) C dX3_readName_9 kx_64 rfl ?_
    refine r_iload_n (pc := 12) C dX3_readName_12 rfl 1 rfl ?_
    refine r_i2c (pc := 13) C dX3_readName_13 ?_
    refine cv_X3_80 (pc := 14) C dX3_readName_14  h (by decide) (Nat.le_of_ble_eq_true rfl) (fun q1 h => ?_)
    exact r_sub C [0] rfl (b_X3_readName_17 C h)
  · refine r_iconst (v := (-1:Int32)) (pc := 4) C dX3_readName_4 (by decide) ?_
    refine r_goto (pc := 5) C 17 dX3_readName_5 (by decide) ?_
    exact r_sub C [0] rfl (b_X3_readName_17 C h)
theorem c_X3_readName {G : Gv} {p1 : Int32} {w : Wd} {res : Int32 × Wd} (h : f_X3_readName p1 w = some res) (l : Launch) : MC l yX3_readName cX3_readName 3 (some FieldType.boolean) 5 G SX w [.ref (G.2 64), .int p1] (some (.int res.1)) res.2 := mc_of (by decide +kernel) rfl (Nat.le_of_ble_eq_true rfl) rfl (fun V C => b_X3_readName_E C h) l
theorem cv_X3_61 {cc : ByteArray} {G : Gv} {n hc : Nat} {rt : Option FieldType} {rv : Option Value} {w0 : Wd} {V : Vt} {w : Wd} {pc : Nat} {L : List (Nat × Value)} {rest : List Value} {α : Type} {res : α} {p0 : Int32} {K : Int32 → Option α} (C : CX cc RX3 G SX n hc rt rv w0 V) (hd : decode cc pc = .ok (.invokestatic 61, 3)) (h : bd (f_X3_levelOf p0) K = some res) (hR : 1 + 1 ≤ hc) (hr : (rest.map fun v => v.category).sum ≤ 8) (kk : ∀ q, K q = some res → V w (pc + 3) L (.int q :: rest)) : V w pc L (.int p0 :: rest) := r_callS (As := [.int p0]) (rest := rest) (rvf := fun q => (some (.int q))) (wf := fun q => w) C hd h ql_X3_61 qt_X3_levelOf qn_X3 qc_X3_levelOf ⟨by decide +kernel, by decide +kernel, (by decide +kernel : (parseMethodDescriptor yX3_levelOf.desc).map (fun d => d.parameters.length) = some 1)⟩ ⟨hR, by decide⟩ (fun q hq l => c_X3_levelOf hq l) rfl hr kk
theorem cv_X3_71 {cc : ByteArray} {G : Gv} {n hc : Nat} {rt : Option FieldType} {rv : Option Value} {w0 : Wd} {V : Vt} {w : Wd} {pc : Nat} {L : List (Nat × Value)} {rest : List Value} {α : Type} {res : α} {K : Wd → Option α} (C : CX cc RX3 G SX n hc rt rv w0 V) (hd : decode cc pc = .ok (.invokevirtual 71, 3)) (h : bd (f_X3_readNumber w) K = some res) (hR : 2 + 1 ≤ hc) (hr : (rest.map fun v => v.category).sum ≤ 8) (kk : ∀ q, K q = some res → V q (pc + 3) L (rest)) : V w pc L (.ref (G.2 64) :: rest) := r_callV (As := []) (rest := rest) (rvf := fun q => none) (wf := fun q => q) C hd h ql_X3_71 qi_X3_readNumber qs_X3_readNumber qn_X3 qc_X3_readNumber ⟨rfl, by decide +kernel, by decide +kernel, (by decide +kernel : (parseMethodDescriptor yX3_readNumber.desc).map (fun d => d.parameters.length) = some 0)⟩ ⟨hR, by decide⟩ kx_64 rfl (fun q hq l => c_X3_readNumber hq l) rfl hr kk
theorem cv_X3_77 {cc : ByteArray} {G : Gv} {n hc : Nat} {rt : Option FieldType} {rv : Option Value} {w0 : Wd} {V : Vt} {w : Wd} {pc : Nat} {L : List (Nat × Value)} {rest : List Value} {α : Type} {res : α} {p1 : Int32} {K : Int32 × Wd → Option α} (C : CX cc RX3 G SX n hc rt rv w0 V) (hd : decode cc pc = .ok (.invokevirtual 77, 3)) (h : bd (f_X3_readName p1 w) K = some res) (hR : 5 + 1 ≤ hc) (hr : (rest.map fun v => v.category).sum ≤ 8) (kk : ∀ q, K q = some res → V q.2 (pc + 3) L (.int q.1 :: rest)) : V w pc L (.int p1 :: .ref (G.2 64) :: rest) := r_callV (As := [.int p1]) (rest := rest) (rvf := fun q => (some (.int q.1))) (wf := fun q => q.2) C hd h ql_X3_77 qi_X3_readName qs_X3_readName qn_X3 qc_X3_readName ⟨rfl, by decide +kernel, by decide +kernel, (by decide +kernel : (parseMethodDescriptor yX3_readName.desc).map (fun d => d.parameters.length) = some 1)⟩ ⟨hR, by decide⟩ kx_64 rfl (fun q hq l => c_X3_readName hq l) rfl hr kk
def fb_X3_readLevel_39 (g_readLevel : Int32 → Int32 → Wd → Option (Int32 × Wd)) (g_readSingle : Int32 → Wd → Option (Int32 × Wd)) (g_readOpened : Int32 → Int32 → Wd → Option (Int32 × Wd)) (rec39 : Int32 → Int32 → Int32 → Int32 → Wd → Option (Int32 × Wd)) (x1 : Int32) (x2 : Int32) (x3 : Int32) (x4 : Int32) (w : Wd) : Option (Int32 × Wd) := (if x3 ≤ x4 then some ((1:Int32), w) else bd (f_X3_sign w) (fun q1 => bd (f_X3_levelOf q1) (fun q2 => (if ¬ q2 = x1 then some ((1:Int32), w) else bd (f_X3_sign w) (fun q3 => wl (updW w 64 1 ((w 64 1) + (1:Int32))) (fun w4 => bd (g_readLevel (x1 + (1:Int32)) x2 w4) (fun q5 => (if ¬ q5.1 = 0 then bd (f_X4_add 65 (-q3) q5.2) (fun q6 => rec39 x1 x2 x3 (x4 + (1:Int32)) q6) else some ((0:Int32), q5.2)))))))))
set_option maxRecDepth 20000 in
theorem bb_X3_readLevel_39 {G : Gv} {V : Vt} {d : Nat} {g_readLevel : Int32 → Int32 → Wd → Option (Int32 × Wd)} {g_readSingle : Int32 → Wd → Option (Int32 × Wd)} {g_readOpened : Int32 → Int32 → Wd → Option (Int32 × Wd)} {rec39 : Int32 → Int32 → Int32 → Int32 → Wd → Option (Int32 × Wd)} {res : Int32 × Wd} (hg_readLevel : ∀ (w : Wd) (p1 : Int32) (p2 : Int32) (r : Int32 × Wd), g_readLevel p1 p2 w = some r → ∀ l : Launch, MC l yX3_readLevel cX3_readLevel 6 (some FieldType.boolean) (6 + d) G SX w [.ref (G.2 64), .int p1, .int p2] (some (.int r.1)) r.2) (hg_readSingle : ∀ (w : Wd) (p1 : Int32) (r : Int32 × Wd), g_readSingle p1 w = some r → ∀ l : Launch, MC l yX3_readSingle cX3_readSingle 3 (some FieldType.boolean) (6 + d) G SX w [.ref (G.2 64), .int p1] (some (.int r.1)) r.2) (hg_readOpened : ∀ (w : Wd) (p1 : Int32) (p2 : Int32) (r : Int32 × Wd), g_readOpened p1 p2 w = some r → ∀ l : Launch, MC l yX3_readOpened cX3_readOpened 4 (some FieldType.boolean) (6 + d) G SX w [.ref (G.2 64), .int p1, .int p2] (some (.int r.1)) r.2) (C : CX cX3_readLevel RX3 G SX 6 (6 + d + 1) (some FieldType.boolean) (some (.int res.1)) res.2 V) (hrec39 : ∀ (x1 : Int32) (x2 : Int32) (x3 : Int32) (x4 : Int32) (w : Wd), rec39 x1 x2 x3 x4 w = some res → V w 39 [(0, .ref (G.2 64)), (1, .int x1), (2, .int x2), (3, .int x3), (4, .int x4)] []) {x1 : Int32} {x2 : Int32} {x3 : Int32} {x4 : Int32} {w : Wd} (h : fb_X3_readLevel_39 g_readLevel g_readSingle g_readOpened rec39 x1 x2 x3 x4 w = some res) : V w 39 [(0, .ref (G.2 64)), (1, .int x1), (2, .int x2), (3, .int x3), (4, .int x4)] [] := by
  unfold fb_X3_readLevel_39 at h
  refine r_iload (pc := 39) C dX3_readLevel_39 4 rfl ?_
  refine r_iload_n (pc := 41) C dX3_readLevel_41 rfl 3 rfl ?_
  refine r_icmp_ge (pc := 42) C 101 dX3_readLevel_42 (by decide) h (fun h => ?_) (fun h => ?_)
  · refine r_iconst (v := (1:Int32)) (pc := 101) C dX3_readLevel_101 (by decide) ?_
    exact r_zretE (pc := 102) C rfl dX3_readLevel_102 h
  · refine r_aload_n (pc := 45) C dX3_readLevel_45 rfl 0 rfl ?_
    refine cv_X3_57 (pc := 46) C dX3_readLevel_46  h (by omega) (Nat.le_of_ble_eq_true rfl) (fun q1 h => ?_)
    refine cv_X3_61 (pc := 49) C dX3_readLevel_49  h (by omega) (Nat.le_of_ble_eq_true rfl) (fun q2 h => ?_)
    refine r_iload_n (pc := 52) C dX3_readLevel_52 rfl 1 rfl ?_
    refine r_icmp_ne (pc := 53) C 101 dX3_readLevel_53 (by decide) h (fun h => ?_) (fun h => ?_)
    · refine r_iconst (v := (1:Int32)) (pc := 101) C dX3_readLevel_101 (by decide) ?_
      exact r_zretE (pc := 102) C rfl dX3_readLevel_102 h
    · refine r_aload_n (pc := 56) C dX3_readLevel_56 rfl 0 rfl ?_
      refine cv_X3_57 (pc := 57) C dX3_readLevel_57  h (by omega) (Nat.le_of_ble_eq_true rfl) (fun q3 h => ?_)
      refine r_istore (L' := [(5, .int q3), (0, .ref (G.2 64)), (1, .int x1), (2, .int x2), (3, .int x3), (4, .int x4)]) (pc := 60) C dX3_readLevel_60 (by decide) rfl ?_
      refine r_aload_n (pc := 62) C dX3_readLevel_62 rfl 1 rfl ?_
      refine r_dup (pc := 63) C dX3_readLevel_63 rfl ?_
      refine gi_X3_35 (pc := 64) C dX3_readLevel_64 kx_64 rfl ?_
      refine r_iconst (v := (1:Int32)) (pc := 67) C dX3_readLevel_67 (by decide) ?_
      refine r_iadd (pc := 68) C dX3_readLevel_68 ?_
      refine pi_X3_35 (pc := 69) C dX3_readLevel_69 kx_64 rfl h (fun w4 h => ?_)
      refine r_aload_n (pc := 72) C dX3_readLevel_72 rfl 1 rfl ?_
      refine r_iload_n (pc := 73) C dX3_readLevel_73 rfl 2 rfl ?_
      refine r_iconst (v := (1:Int32)) (pc := 74) C dX3_readLevel_74 (by decide) ?_
      refine r_iadd (pc := 75) C dX3_readLevel_75 ?_
      refine r_iload_n (pc := 76) C dX3_readLevel_76 rfl 3 rfl ?_
      refine r_callV (As := [.int (x1 + (1:Int32)), .int x2]) (rest := []) (rvf := fun q => (some (.int q.1))) (wf := fun q => q.2) (pc := 77) C dX3_readLevel_77 h ql_X3_42 qi_X3_readLevel qs_X3_readLevel qn_X3 qc_X3_readLevel ⟨rfl, by decide +kernel, by decide +kernel, (by decide +kernel : (parseMethodDescriptor yX3_readLevel.desc).map (fun d => d.parameters.length) = some 2)⟩ ⟨Nat.le_refl _, by decide⟩ kx_64 rfl (fun q hq l => hg_readLevel _ _ _ q hq l) rfl (Nat.le_of_ble_eq_true rfl) (fun q5 h => ?_)
      refine r_if_ne (pc := 80) C 85 dX3_readLevel_80 (by decide) h (fun h => ?_) (fun h => ?_)
      · refine r_aload_n (pc := 85) C dX3_readLevel_85 rfl 1 rfl ?_
        refine gr_X3_14 (pc := 86) 65 C dX3_readLevel_86 kx_64 rfl ?_
        refine r_iload (pc := 89) C dX3_readLevel_89 0 rfl ?_
        refine r_ineg (pc := 91) C dX3_readLevel_91 ?_
        refine cv_X3_65 (pc := 92) C dX3_readLevel_92 isRo_65 h (by omega) (Nat.le_of_ble_eq_true rfl) (fun q6 h => ?_)
        refine r_iinc (v := (x4 + (1:Int32))) (L' := [(4, .int (x4 + (1:Int32))), (5, .int q3), (0, .ref (G.2 64)), (1, .int x1), (2, .int x2), (3, .int x3)]) (pc := 95) C dX3_readLevel_95 5 rfl rfl (by decide) rfl ?_
        refine r_goto (pc := 98) C 39 dX3_readLevel_98 (by decide) ?_
        exact r_sub C [2, 3, 4, 5, 0] rfl (hrec39 _ _ _ _ _ h)
      · refine r_iconst (v := (0:Int32)) (pc := 83) C dX3_readLevel_83 (by decide) ?_
        exact r_zretE (pc := 84) C rfl dX3_readLevel_84 h
def f_X3_readLevel_39 (g_readLevel : Int32 → Int32 → Wd → Option (Int32 × Wd)) (g_readSingle : Int32 → Wd → Option (Int32 × Wd)) (g_readOpened : Int32 → Int32 → Wd → Option (Int32 × Wd)) : Int32 → Int32 → Int32 → Int32 → Wd → Option (Int32 × Wd) := lp (fun _ _ _ _ _ => none) (fun rec => fb_X3_readLevel_39 g_readLevel g_readSingle g_readOpened rec) FU
theorem b_X3_readLevel_39 {G : Gv} {V : Vt} {d : Nat} {g_readLevel : Int32 → Int32 → Wd → Option (Int32 × Wd)} {g_readSingle : Int32 → Wd → Option (Int32 × Wd)} {g_readOpened : Int32 → Int32 → Wd → Option (Int32 × Wd)} {res : Int32 × Wd} (hg_readLevel : ∀ (w : Wd) (p1 : Int32) (p2 : Int32) (r : Int32 × Wd), g_readLevel p1 p2 w = some r → ∀ l : Launch, MC l yX3_readLevel cX3_readLevel 6 (some FieldType.boolean) (6 + d) G SX w [.ref (G.2 64), .int p1, .int p2] (some (.int r.1)) r.2) (hg_readSingle : ∀ (w : Wd) (p1 : Int32) (r : Int32 × Wd), g_readSingle p1 w = some r → ∀ l : Launch, MC l yX3_readSingle cX3_readSingle 3 (some FieldType.boolean) (6 + d) G SX w [.ref (G.2 64), .int p1] (some (.int r.1)) r.2) (hg_readOpened : ∀ (w : Wd) (p1 : Int32) (p2 : Int32) (r : Int32 × Wd), g_readOpened p1 p2 w = some r → ∀ l : Launch, MC l yX3_readOpened cX3_readOpened 4 (some FieldType.boolean) (6 + d) G SX w [.ref (G.2 64), .int p1, .int p2] (some (.int r.1)) r.2) (C : CX cX3_readLevel RX3 G SX 6 (6 + d + 1) (some FieldType.boolean) (some (.int res.1)) res.2 V) : ∀ (x1 : Int32) (x2 : Int32) (x3 : Int32) (x4 : Int32) (w : Wd), (f_X3_readLevel_39 g_readLevel g_readSingle g_readOpened) x1 x2 x3 x4 w = some res → V w 39 [(0, .ref (G.2 64)), (1, .int x1), (2, .int x2), (3, .int x3), (4, .int x4)] [] :=
  lp_ind (P := fun (g : Int32 → Int32 → Int32 → Int32 → Wd → Option (Int32 × Wd)) => ∀ (x1 : Int32) (x2 : Int32) (x3 : Int32) (x4 : Int32) (w : Wd), g x1 x2 x3 x4 w = some res → V w 39 [(0, .ref (G.2 64)), (1, .int x1), (2, .int x2), (3, .int x3), (4, .int x4)] []) (fun _ _ _ _ _ h => by cases h) (fun g hg _ _ _ _ _ h => bb_X3_readLevel_39 hg_readLevel hg_readSingle hg_readOpened C hg h) FU
def f_X3_readLevel_35 (g_readLevel : Int32 → Int32 → Wd → Option (Int32 × Wd)) (g_readSingle : Int32 → Wd → Option (Int32 × Wd)) (g_readOpened : Int32 → Int32 → Wd → Option (Int32 × Wd)) (x1 : Int32) (x2 : Int32) (t0 : Int32) (w : Wd) : Option (Int32 × Wd) := f_X3_readLevel_39 g_readLevel g_readSingle g_readOpened x1 x2 t0 (0:Int32) w
set_option maxRecDepth 20000 in
theorem b_X3_readLevel_35 {G : Gv} {V : Vt} {d : Nat} {g_readLevel : Int32 → Int32 → Wd → Option (Int32 × Wd)} {g_readSingle : Int32 → Wd → Option (Int32 × Wd)} {g_readOpened : Int32 → Int32 → Wd → Option (Int32 × Wd)} {res : Int32 × Wd} (hg_readLevel : ∀ (w : Wd) (p1 : Int32) (p2 : Int32) (r : Int32 × Wd), g_readLevel p1 p2 w = some r → ∀ l : Launch, MC l yX3_readLevel cX3_readLevel 6 (some FieldType.boolean) (6 + d) G SX w [.ref (G.2 64), .int p1, .int p2] (some (.int r.1)) r.2) (hg_readSingle : ∀ (w : Wd) (p1 : Int32) (r : Int32 × Wd), g_readSingle p1 w = some r → ∀ l : Launch, MC l yX3_readSingle cX3_readSingle 3 (some FieldType.boolean) (6 + d) G SX w [.ref (G.2 64), .int p1] (some (.int r.1)) r.2) (hg_readOpened : ∀ (w : Wd) (p1 : Int32) (p2 : Int32) (r : Int32 × Wd), g_readOpened p1 p2 w = some r → ∀ l : Launch, MC l yX3_readOpened cX3_readOpened 4 (some FieldType.boolean) (6 + d) G SX w [.ref (G.2 64), .int p1, .int p2] (some (.int r.1)) r.2) (C : CX cX3_readLevel RX3 G SX 6 (6 + d + 1) (some FieldType.boolean) (some (.int res.1)) res.2 V) {x1 : Int32} {x2 : Int32} {t0 : Int32} {w : Wd} (h : f_X3_readLevel_35 g_readLevel g_readSingle g_readOpened x1 x2 t0 w = some res) : V w 35 [(0, .ref (G.2 64)), (1, .int x1), (2, .int x2)] [.int t0] := by
  unfold f_X3_readLevel_35 at h
  refine r_istore_n (L' := [(3, .int t0), (0, .ref (G.2 64)), (1, .int x1), (2, .int x2)]) (pc := 35) C dX3_readLevel_35 rfl (by decide) rfl ?_
  refine r_iconst (v := (0:Int32)) (pc := 36) C dX3_readLevel_36 (by decide) ?_
  refine r_istore (L' := [(4, .int (0:Int32)), (3, .int t0), (0, .ref (G.2 64)), (1, .int x1), (2, .int x2)]) (pc := 37) C dX3_readLevel_37 (by decide) rfl ?_
  exact r_sub C [2, 3, 4, 1, 0] rfl (b_X3_readLevel_39 hg_readLevel hg_readSingle hg_readOpened C _ _ _ _ _ h)
def fg_X3_readLevel (g_readLevel : Int32 → Int32 → Wd → Option (Int32 × Wd)) (g_readSingle : Int32 → Wd → Option (Int32 × Wd)) (g_readOpened : Int32 → Int32 → Wd → Option (Int32 × Wd)) (p1 : Int32) (p2 : Int32) (w : Wd) : Option (Int32 × Wd) := (if p1 < (5:Int32) then bd (g_readLevel (p1 + (1:Int32)) p2 w) (fun q1 => (if ¬ q1.1 = 0 then (if ¬ p1 = (2:Int32) then f_X3_readLevel_35 g_readLevel g_readSingle g_readOpened p1 p2 (50:Int32) q1.2 else f_X3_readLevel_35 g_readLevel g_readSingle g_readOpened p1 p2 (1:Int32) q1.2) else some ((0:Int32), q1.2))) else bd (g_readSingle p2 w) (fun q2 => zk q2.1 (some (q2.1, q2.2))))
set_option maxRecDepth 20000 in
theorem b_X3_readLevel_E {G : Gv} {V : Vt} {d : Nat} {g_readLevel : Int32 → Int32 → Wd → Option (Int32 × Wd)} {g_readSingle : Int32 → Wd → Option (Int32 × Wd)} {g_readOpened : Int32 → Int32 → Wd → Option (Int32 × Wd)} {res : Int32 × Wd} (hg_readLevel : ∀ (w : Wd) (p1 : Int32) (p2 : Int32) (r : Int32 × Wd), g_readLevel p1 p2 w = some r → ∀ l : Launch, MC l yX3_readLevel cX3_readLevel 6 (some FieldType.boolean) (6 + d) G SX w [.ref (G.2 64), .int p1, .int p2] (some (.int r.1)) r.2) (hg_readSingle : ∀ (w : Wd) (p1 : Int32) (r : Int32 × Wd), g_readSingle p1 w = some r → ∀ l : Launch, MC l yX3_readSingle cX3_readSingle 3 (some FieldType.boolean) (6 + d) G SX w [.ref (G.2 64), .int p1] (some (.int r.1)) r.2) (hg_readOpened : ∀ (w : Wd) (p1 : Int32) (p2 : Int32) (r : Int32 × Wd), g_readOpened p1 p2 w = some r → ∀ l : Launch, MC l yX3_readOpened cX3_readOpened 4 (some FieldType.boolean) (6 + d) G SX w [.ref (G.2 64), .int p1, .int p2] (some (.int r.1)) r.2) (C : CX cX3_readLevel RX3 G SX 6 (6 + d + 1) (some FieldType.boolean) (some (.int res.1)) res.2 V) {p1 : Int32} {p2 : Int32} {w : Wd} (h : fg_X3_readLevel g_readLevel g_readSingle g_readOpened p1 p2 w = some res) : V w 0 [(0, .ref (G.2 64)), (1, .int p1), (2, .int p2)] [] := by
  unfold fg_X3_readLevel at h
  refine r_iload_n (pc := 0) C dX3_readLevel_0 rfl 1 rfl ?_
  refine r_iconst (v := (5:Int32)) (pc := 1) C dX3_readLevel_1 (by decide) ?_
  refine r_icmp_lt (pc := 2) C 11 dX3_readLevel_2 (by decide) h (fun h => ?_) (fun h => ?_)
  · refine r_aload_n (pc := 11) C dX3_readLevel_11 rfl 0 rfl ?_
    refine r_iload_n (pc := 12) C dX3_readLevel_12 rfl 1 rfl ?_
    refine r_iconst (v := (1:Int32)) (pc := 13) C dX3_readLevel_13 (by decide) ?_
    refine r_iadd (pc := 14) C dX3_readLevel_14 ?_
    refine r_iload_n (pc := 15) C dX3_readLevel_15 rfl 2 rfl ?_
    refine r_callV (As := [.int (p1 + (1:Int32)), .int p2]) (rest := []) (rvf := fun q => (some (.int q.1))) (wf := fun q => q.2) (pc := 16) C dX3_readLevel_16 h ql_X3_42 qi_X3_readLevel qs_X3_readLevel qn_X3 qc_X3_readLevel ⟨rfl, by decide +kernel, by decide +kernel, (by decide +kernel : (parseMethodDescriptor yX3_readLevel.desc).map (fun d => d.parameters.length) = some 2)⟩ ⟨Nat.le_refl _, by decide⟩ kx_64 rfl (fun q hq l => hg_readLevel _ _ _ q hq l) rfl (Nat.le_of_ble_eq_true rfl) (fun q1 h => ?_)
    refine r_if_ne (pc := 19) C 24 dX3_readLevel_19 (by decide) h (fun h => ?_) (fun h => ?_)
    · refine r_iload_n (pc := 24) C dX3_readLevel_24 rfl 1 rfl ?_
      refine r_iconst (v := (2:Int32)) (pc := 25) C dX3_readLevel_25 (by decide) ?_
      refine r_icmp_ne (pc := 26) C 33 dX3_readLevel_26 (by decide) h (fun h => ?_) (fun h => ?_)
      · refine r_bipush (v := (50:Int32)) (pc := 33) C dX3_readLevel_33 (by decide) ?_
        exact r_sub C [0, 1, 2] rfl (b_X3_readLevel_35 hg_readLevel hg_readSingle hg_readOpened C h)
      · refine r_iconst (v := (1:Int32)) (pc := 29) C dX3_readLevel_29 (by decide) ?_
        refine r_goto (pc := 30) C 35 dX3_readLevel_30 (by decide) ?_
        exact r_sub C [0, 1, 2] rfl (b_X3_readLevel_35 hg_readLevel hg_readSingle hg_readOpened C h)
    · refine r_iconst (v := (0:Int32)) (pc := 22) C dX3_readLevel_22 (by decide) ?_
      exact r_zretE (pc := 23) C rfl dX3_readLevel_23 h
  · refine r_aload_n (pc := 5) C dX3_readLevel_5 rfl 0 rfl ?_
    refine r_iload_n (pc := 6) C dX3_readLevel_6 rfl 2 rfl ?_
    refine r_callV (As := [.int p2]) (rest := []) (rvf := fun q => (some (.int q.1))) (wf := fun q => q.2) (pc := 7) C dX3_readLevel_7 h ql_X3_53 qi_X3_readSingle qs_X3_readSingle qn_X3 qc_X3_readSingle ⟨rfl, by decide +kernel, by decide +kernel, (by decide +kernel : (parseMethodDescriptor yX3_readSingle.desc).map (fun d => d.parameters.length) = some 1)⟩ ⟨Nat.le_refl _, by decide⟩ kx_64 rfl (fun q hq l => hg_readSingle _ _ q hq l) rfl (Nat.le_of_ble_eq_true rfl) (fun q2 h => ?_)
    refine r_zk h (fun hn h => ?_)
    exact r_zretE (pc := 10) C hn dX3_readLevel_10 h
def f_X3_readSingle_30 (g_readLevel : Int32 → Int32 → Wd → Option (Int32 × Wd)) (g_readSingle : Int32 → Wd → Option (Int32 × Wd)) (g_readOpened : Int32 → Int32 → Wd → Option (Int32 × Wd)) (x1 : Int32) (x2 : Int32) (w : Wd) : Option (Int32 × Wd) := (if (5:Int32) ≤ x1 then some ((0:Int32), w) else bd (g_readOpened x2 (x1 + (1:Int32)) w) (fun q1 => (if q1.1 = 0 then some ((0:Int32), q1.2) else some ((1:Int32), q1.2))))
set_option maxRecDepth 20000 in
theorem b_X3_readSingle_30 {G : Gv} {V : Vt} {d : Nat} {g_readLevel : Int32 → Int32 → Wd → Option (Int32 × Wd)} {g_readSingle : Int32 → Wd → Option (Int32 × Wd)} {g_readOpened : Int32 → Int32 → Wd → Option (Int32 × Wd)} {res : Int32 × Wd} (hg_readLevel : ∀ (w : Wd) (p1 : Int32) (p2 : Int32) (r : Int32 × Wd), g_readLevel p1 p2 w = some r → ∀ l : Launch, MC l yX3_readLevel cX3_readLevel 6 (some FieldType.boolean) (6 + d) G SX w [.ref (G.2 64), .int p1, .int p2] (some (.int r.1)) r.2) (hg_readSingle : ∀ (w : Wd) (p1 : Int32) (r : Int32 × Wd), g_readSingle p1 w = some r → ∀ l : Launch, MC l yX3_readSingle cX3_readSingle 3 (some FieldType.boolean) (6 + d) G SX w [.ref (G.2 64), .int p1] (some (.int r.1)) r.2) (hg_readOpened : ∀ (w : Wd) (p1 : Int32) (p2 : Int32) (r : Int32 × Wd), g_readOpened p1 p2 w = some r → ∀ l : Launch, MC l yX3_readOpened cX3_readOpened 4 (some FieldType.boolean) (6 + d) G SX w [.ref (G.2 64), .int p1, .int p2] (some (.int r.1)) r.2) (C : CX cX3_readSingle RX3 G SX 3 (6 + d + 1) (some FieldType.boolean) (some (.int res.1)) res.2 V) {x1 : Int32} {x2 : Int32} {w : Wd} (h : f_X3_readSingle_30 g_readLevel g_readSingle g_readOpened x1 x2 w = some res) : V w 30 [(0, .ref (G.2 64)), (1, .int x1), (2, .int x2)] [] := by
  unfold f_X3_readSingle_30 at h
  refine r_iload_n (pc := 30) C dX3_readSingle_30 rfl 1 rfl ?_
  refine r_iconst (v := (5:Int32)) (pc := 31) C dX3_readSingle_31 (by decide) ?_
  refine r_icmp_ge (pc := 32) C 50 dX3_readSingle_32 (by decide) h (fun h => ?_) (fun h => ?_)
  · refine r_iconst (v := (0:Int32)) (pc := 50) C dX3_readSingle_50 (by decide) ?_
    exact r_zretE (pc := 51) C rfl dX3_readSingle_51 h
  · refine r_aload_n (pc := 35) C dX3_readSingle_35 rfl 0 rfl ?_
    refine r_iload_n (pc := 36) C dX3_readSingle_36 rfl 2 rfl ?_
    refine r_iload_n (pc := 37) C dX3_readSingle_37 rfl 1 rfl ?_
    refine r_iconst (v := (1:Int32)) (pc := 38) C dX3_readSingle_38 (by decide) ?_
    refine r_iadd (pc := 39) C dX3_readSingle_39 ?_
    refine r_callV (As := [.int x2, .int (x1 + (1:Int32))]) (rest := []) (rvf := fun q => (some (.int q.1))) (wf := fun q => q.2) (pc := 40) C dX3_readSingle_40 h ql_X3_74 qi_X3_readOpened qs_X3_readOpened qn_X3 qc_X3_readOpened ⟨rfl, by decide +kernel, by decide +kernel, (by decide +kernel : (parseMethodDescriptor yX3_readOpened.desc).map (fun d => d.parameters.length) = some 2)⟩ ⟨Nat.le_refl _, by decide⟩ kx_64 rfl (fun q hq l => hg_readOpened _ _ _ q hq l) rfl (Nat.le_of_ble_eq_true rfl) (fun q1 h => ?_)
    refine r_if_eq (pc := 43) C 50 dX3_readSingle_43 (by decide) h (fun h => ?_) (fun h => ?_)
    · refine r_iconst (v := (0:Int32)) (pc := 50) C dX3_readSingle_50 (by decide) ?_
      exact r_zretE (pc := 51) C rfl dX3_readSingle_51 h
    · refine r_iconst (v := (1:Int32)) (pc := 46) C dX3_readSingle_46 (by decide) ?_
      refine r_goto (pc := 47) C 51 dX3_readSingle_47 (by decide) ?_
      exact r_zretE (pc := 51) C rfl dX3_readSingle_51 h
def fg_X3_readSingle (g_readLevel : Int32 → Int32 → Wd → Option (Int32 × Wd)) (g_readSingle : Int32 → Wd → Option (Int32 × Wd)) (g_readOpened : Int32 → Int32 → Wd → Option (Int32 × Wd)) (p1 : Int32) (w : Wd) : Option (Int32 × Wd) := bd (f_X3_sign w) (fun q1 => bd (f_X3_isDigit q1) (fun q2 => (if q2 = 0 then (if q1 = (33:Int32) then f_X3_readSingle_30 g_readLevel g_readSingle g_readOpened p1 q1 w else (if ¬ q1 = (40:Int32) then bd (f_X3_readName q1 w) (fun q3 => zk q3.1 (some (q3.1, q3.2))) else f_X3_readSingle_30 g_readLevel g_readSingle g_readOpened p1 q1 w)) else bd (f_X3_readNumber w) (fun q4 => some ((1:Int32), q4)))))
set_option maxRecDepth 20000 in
theorem b_X3_readSingle_E {G : Gv} {V : Vt} {d : Nat} {g_readLevel : Int32 → Int32 → Wd → Option (Int32 × Wd)} {g_readSingle : Int32 → Wd → Option (Int32 × Wd)} {g_readOpened : Int32 → Int32 → Wd → Option (Int32 × Wd)} {res : Int32 × Wd} (hg_readLevel : ∀ (w : Wd) (p1 : Int32) (p2 : Int32) (r : Int32 × Wd), g_readLevel p1 p2 w = some r → ∀ l : Launch, MC l yX3_readLevel cX3_readLevel 6 (some FieldType.boolean) (6 + d) G SX w [.ref (G.2 64), .int p1, .int p2] (some (.int r.1)) r.2) (hg_readSingle : ∀ (w : Wd) (p1 : Int32) (r : Int32 × Wd), g_readSingle p1 w = some r → ∀ l : Launch, MC l yX3_readSingle cX3_readSingle 3 (some FieldType.boolean) (6 + d) G SX w [.ref (G.2 64), .int p1] (some (.int r.1)) r.2) (hg_readOpened : ∀ (w : Wd) (p1 : Int32) (p2 : Int32) (r : Int32 × Wd), g_readOpened p1 p2 w = some r → ∀ l : Launch, MC l yX3_readOpened cX3_readOpened 4 (some FieldType.boolean) (6 + d) G SX w [.ref (G.2 64), .int p1, .int p2] (some (.int r.1)) r.2) (C : CX cX3_readSingle RX3 G SX 3 (6 + d + 1) (some FieldType.boolean) (some (.int res.1)) res.2 V) {p1 : Int32} {w : Wd} (h : fg_X3_readSingle g_readLevel g_readSingle g_readOpened p1 w = some res) : V w 0 [(0, .ref (G.2 64)), (1, .int p1)] [] := by
  unfold fg_X3_readSingle at h
  refine r_aload_n (pc := 0) C dX3_readSingle_0 rfl 0 rfl ?_
  refine cv_X3_57 (pc := 1) C dX3_readSingle_1  h (by omega) (Nat.le_of_ble_eq_true rfl) (fun q1 h => ?_)
  refine r_istore_n (L' := [(2, .int q1), (0, .ref (G.2 64)), (1, .int p1)]) (pc := 4) C dX3_readSingle_4 rfl (by decide) rfl ?_
  refine r_iload_n (pc := 5) C dX3_readSingle_5 rfl 0 rfl ?_
  refine cv_X3_68 (pc := 6) C dX3_readSingle_6  h (by omega) (Nat.le_of_ble_eq_true rfl) (fun q2 h => ?_)
  refine r_if_eq (pc := 9) C 18 dX3_readSingle_9 (by decide) h (fun h => ?_) (fun h => ?_)
  · refine r_iload_n (pc := 18) C dX3_readSingle_18 rfl 0 rfl ?_
    refine r_bipush (v := (33:Int32)) (pc := 19) C dX3_readSingle_19 (by decide) ?_
    refine r_icmp_eq (pc := 21) C 30 dX3_readSingle_21 (by decide) h (fun h => ?_) (fun h => ?_)
    · exact r_sub C [1, 2, 0] rfl (b_X3_readSingle_30 hg_readLevel hg_readSingle hg_readOpened C h)
    · refine r_iload_n (pc := 24) C dX3_readSingle_24 rfl 0 rfl ?_
      refine r_bipush (v := (40:Int32)) (pc := 25) C dX3_readSingle_25 (by decide) ?_
      refine r_icmp_ne (pc := 27) C 52 dX3_readSingle_27 (by decide) h (fun h => ?_) (fun h => ?_)
      · refine r_aload_n (pc := 52) C dX3_readSingle_52 rfl 1 rfl ?_
        refine r_iload_n (pc := 53) C dX3_readSingle_53 rfl 0 rfl ?_
        refine cv_X3_77 (pc := 54) C dX3_readSingle_54  h (by omega) (Nat.le_of_ble_eq_true rfl) (fun q3 h => ?_)
        refine r_zk h (fun hn h => ?_)
        exact r_zretE (pc := 57) C hn dX3_readSingle_57 h
      · exact r_sub C [1, 2, 0] rfl (b_X3_readSingle_30 hg_readLevel hg_readSingle hg_readOpened C h)
  · refine r_aload_n (pc := 12) C dX3_readSingle_12 rfl 1 rfl ?_
    refine cv_X3_71 (pc := 13) C dX3_readSingle_13  h (by omega) (Nat.le_of_ble_eq_true rfl) (fun q4 h => ?_)
    refine r_iconst (v := (1:Int32)) (pc := 16) C dX3_readSingle_16 (by decide) ?_
    exact r_zretE (pc := 17) C rfl dX3_readSingle_17 h
def fg_X3_readOpened (g_readLevel : Int32 → Int32 → Wd → Option (Int32 × Wd)) (g_readSingle : Int32 → Wd → Option (Int32 × Wd)) (g_readOpened : Int32 → Int32 → Wd → Option (Int32 × Wd)) (p1 : Int32) (p2 : Int32) (w : Wd) : Option (Int32 × Wd) := wl (updW w 64 1 ((w 64 1) + (1:Int32))) (fun w1 => (if ¬ p1 = (33:Int32) then bd (g_readLevel (0:Int32) p2 w1) (fun q2 => (if q2.1 = 0 then some ((0:Int32), q2.2) else bd (f_X3_sign q2.2) (fun q3 => (if q3 = (41:Int32) then wl (updW q2.2 64 1 ((q2.2 64 1) + (1:Int32))) (fun w4 => some ((1:Int32), w4)) else some ((0:Int32), q2.2))))) else bd (g_readSingle p2 w1) (fun q5 => bd (f_X4_add 65 (-p1) q5.2) (fun q6 => zk q5.1 (some (q5.1, q6))))))
set_option maxRecDepth 20000 in
theorem b_X3_readOpened_E {G : Gv} {V : Vt} {d : Nat} {g_readLevel : Int32 → Int32 → Wd → Option (Int32 × Wd)} {g_readSingle : Int32 → Wd → Option (Int32 × Wd)} {g_readOpened : Int32 → Int32 → Wd → Option (Int32 × Wd)} {res : Int32 × Wd} (hg_readLevel : ∀ (w : Wd) (p1 : Int32) (p2 : Int32) (r : Int32 × Wd), g_readLevel p1 p2 w = some r → ∀ l : Launch, MC l yX3_readLevel cX3_readLevel 6 (some FieldType.boolean) (6 + d) G SX w [.ref (G.2 64), .int p1, .int p2] (some (.int r.1)) r.2) (hg_readSingle : ∀ (w : Wd) (p1 : Int32) (r : Int32 × Wd), g_readSingle p1 w = some r → ∀ l : Launch, MC l yX3_readSingle cX3_readSingle 3 (some FieldType.boolean) (6 + d) G SX w [.ref (G.2 64), .int p1] (some (.int r.1)) r.2) (hg_readOpened : ∀ (w : Wd) (p1 : Int32) (p2 : Int32) (r : Int32 × Wd), g_readOpened p1 p2 w = some r → ∀ l : Launch, MC l yX3_readOpened cX3_readOpened 4 (some FieldType.boolean) (6 + d) G SX w [.ref (G.2 64), .int p1, .int p2] (some (.int r.1)) r.2) (C : CX cX3_readOpened RX3 G SX 4 (6 + d + 1) (some FieldType.boolean) (some (.int res.1)) res.2 V) {p1 : Int32} {p2 : Int32} {w : Wd} (h : fg_X3_readOpened g_readLevel g_readSingle g_readOpened p1 p2 w = some res) : V w 0 [(0, .ref (G.2 64)), (1, .int p1), (2, .int p2)] [] := by
  unfold fg_X3_readOpened at h
  refine r_aload_n (pc := 0) C dX3_readOpened_0 rfl 0 rfl ?_
  refine r_dup (pc := 1) C dX3_readOpened_1 rfl ?_
  refine gi_X3_35 (pc := 2) C dX3_readOpened_2 kx_64 rfl ?_
  refine r_iconst (v := (1:Int32)) (pc := 5) C dX3_readOpened_5 (by decide) ?_
  refine r_iadd (pc := 6) C dX3_readOpened_6 ?_
  refine pi_X3_35 (pc := 7) C dX3_readOpened_7 kx_64 rfl h (fun w1 h => ?_)
  refine r_iload_n (pc := 10) C dX3_readOpened_10 rfl 1 rfl ?_
  refine r_bipush (v := (33:Int32)) (pc := 11) C dX3_readOpened_11 (by decide) ?_
  refine r_icmp_ne (pc := 13) C 33 dX3_readOpened_13 (by decide) h (fun h => ?_) (fun h => ?_)
  · refine r_aload_n (pc := 33) C dX3_readOpened_33 rfl 0 rfl ?_
    refine r_iconst (v := (0:Int32)) (pc := 34) C dX3_readOpened_34 (by decide) ?_
    refine r_iload_n (pc := 35) C dX3_readOpened_35 rfl 2 rfl ?_
    refine r_callV (As := [.int (0:Int32), .int p2]) (rest := []) (rvf := fun q => (some (.int q.1))) (wf := fun q => q.2) (pc := 36) C dX3_readOpened_36 h ql_X3_42 qi_X3_readLevel qs_X3_readLevel qn_X3 qc_X3_readLevel ⟨rfl, by decide +kernel, by decide +kernel, (by decide +kernel : (parseMethodDescriptor yX3_readLevel.desc).map (fun d => d.parameters.length) = some 2)⟩ ⟨Nat.le_refl _, by decide⟩ kx_64 rfl (fun q hq l => hg_readLevel _ _ _ q hq l) rfl (Nat.le_of_ble_eq_true rfl) (fun q2 h => ?_)
    refine r_if_eq (pc := 39) C 51 dX3_readOpened_39 (by decide) h (fun h => ?_) (fun h => ?_)
    · refine r_iconst (v := (0:Int32)) (pc := 51) C dX3_readOpened_51 (by decide) ?_
      exact r_zretE (pc := 52) C rfl dX3_readOpened_52 h
    · refine r_aload_n (pc := 42) C dX3_readOpened_42 rfl 0 rfl ?_
      refine cv_X3_57 (pc := 43) C dX3_readOpened_43  h (by omega) (Nat.le_of_ble_eq_true rfl) (fun q3 h => ?_)
      refine r_bipush (v := (41:Int32)) (pc := 46) C dX3_readOpened_46 (by decide) ?_
      refine r_icmp_eq (pc := 48) C 53 dX3_readOpened_48 (by decide) h (fun h => ?_) (fun h => ?_)
      · refine r_aload_n (pc := 53) C dX3_readOpened_53 rfl 0 rfl ?_
        refine r_dup (pc := 54) C dX3_readOpened_54 rfl ?_
        refine gi_X3_35 (pc := 55) C dX3_readOpened_55 kx_64 rfl ?_
        refine r_iconst (v := (1:Int32)) (pc := 58) C dX3_readOpened_58 (by decide) ?_
        refine r_iadd (pc := 59) C dX3_readOpened_59 ?_
        refine pi_X3_35 (pc := 60) C dX3_readOpened_60 kx_64 rfl h (fun w4 h => ?_)
        refine r_iconst (v := (1:Int32)) (pc := 63) C dX3_readOpened_63 (by decide) ?_
        exact r_zretE (pc := 64) C rfl dX3_readOpened_64 h
      · refine r_iconst (v := (0:Int32)) (pc := 51) C dX3_readOpened_51 (by decide) ?_
        exact r_zretE (pc := 52) C rfl dX3_readOpened_52 h
  · refine r_aload_n (pc := 16) C dX3_readOpened_16 rfl 0 rfl ?_
    refine r_iload_n (pc := 17) C dX3_readOpened_17 rfl 2 rfl ?_
    refine r_callV (As := [.int p2]) (rest := []) (rvf := fun q => (some (.int q.1))) (wf := fun q => q.2) (pc := 18) C dX3_readOpened_18 h ql_X3_53 qi_X3_readSingle qs_X3_readSingle qn_X3 qc_X3_readSingle ⟨rfl, by decide +kernel, by decide +kernel, (by decide +kernel : (parseMethodDescriptor yX3_readSingle.desc).map (fun d => d.parameters.length) = some 1)⟩ ⟨Nat.le_refl _, by decide⟩ kx_64 rfl (fun q hq l => hg_readSingle _ _ q hq l) rfl (Nat.le_of_ble_eq_true rfl) (fun q5 h => ?_)
    refine r_istore_n (L' := [(3, .int q5.1), (0, .ref (G.2 64)), (1, .int p1), (2, .int p2)]) (pc := 21) C dX3_readOpened_21 rfl (by decide) rfl ?_
    refine r_aload_n (pc := 22) C dX3_readOpened_22 rfl 1 rfl ?_
    refine gr_X3_14 (pc := 23) 65 C dX3_readOpened_23 kx_64 rfl ?_
    refine r_iload_n (pc := 26) C dX3_readOpened_26 rfl 2 rfl ?_
    refine r_ineg (pc := 27) C dX3_readOpened_27 ?_
    refine cv_X3_65 (pc := 28) C dX3_readOpened_28 isRo_65 h (by omega) (Nat.le_of_ble_eq_true rfl) (fun q6 h => ?_)
    refine r_iload_n (pc := 31) C dX3_readOpened_31 rfl 0 rfl ?_
    refine r_zk h (fun hn h => ?_)
    exact r_zretE (pc := 32) C hn dX3_readOpened_32 h
def grp_X3_readLevel : Nat → (Int32 → Int32 → Wd → Option (Int32 × Wd)) × (Int32 → Wd → Option (Int32 × Wd)) × (Int32 → Int32 → Wd → Option (Int32 × Wd)) := lp ((fun _ _ _ => none), (fun _ _ => none), (fun _ _ _ => none)) (fun r => (fg_X3_readLevel r.1 r.2.1 r.2.2, fg_X3_readSingle r.1 r.2.1 r.2.2, fg_X3_readOpened r.1 r.2.1 r.2.2))
def f_X3_readLevel : Int32 → Int32 → Wd → Option (Int32 × Wd) := (grp_X3_readLevel 100).1
def f_X3_readSingle : Int32 → Wd → Option (Int32 × Wd) := (grp_X3_readLevel 100).2.1
def f_X3_readOpened : Int32 → Int32 → Wd → Option (Int32 × Wd) := (grp_X3_readLevel 100).2.2
theorem cg_X3_readLevel {G : Gv} : ∀ d : Nat, (∀ (w : Wd) (p1 : Int32) (p2 : Int32) (r : Int32 × Wd), (grp_X3_readLevel d).1 p1 p2 w = some r → ∀ l : Launch, MC l yX3_readLevel cX3_readLevel 6 (some FieldType.boolean) (6 + d) G SX w [.ref (G.2 64), .int p1, .int p2] (some (.int r.1)) r.2) ∧ (∀ (w : Wd) (p1 : Int32) (r : Int32 × Wd), (grp_X3_readLevel d).2.1 p1 w = some r → ∀ l : Launch, MC l yX3_readSingle cX3_readSingle 3 (some FieldType.boolean) (6 + d) G SX w [.ref (G.2 64), .int p1] (some (.int r.1)) r.2) ∧ (∀ (w : Wd) (p1 : Int32) (p2 : Int32) (r : Int32 × Wd), (grp_X3_readLevel d).2.2 p1 p2 w = some r → ∀ l : Launch, MC l yX3_readOpened cX3_readOpened 4 (some FieldType.boolean) (6 + d) G SX w [.ref (G.2 64), .int p1, .int p2] (some (.int r.1)) r.2) := by
  intro d
  induction d with
  | zero => exact ⟨fun _ _ _ _ h => (by change none = some _ at h; cases h), fun _ _ _ h => (by change none = some _ at h; cases h), fun _ _ _ _ h => (by change none = some _ at h; cases h)⟩
  | succ d ih =>
    obtain ⟨i0, i1, i2⟩ := ih
    exact ⟨fun _ _ _ _ h l => mc_of (by decide +kernel) rfl (Nat.le_of_ble_eq_true rfl) rfl (fun V C => b_X3_readLevel_E i0 i1 i2 C h) l, fun _ _ _ h l => mc_of (by decide +kernel) rfl (Nat.le_of_ble_eq_true rfl) rfl (fun V C => b_X3_readSingle_E i0 i1 i2 C h) l, fun _ _ _ _ h l => mc_of (by decide +kernel) rfl (Nat.le_of_ble_eq_true rfl) rfl (fun V C => b_X3_readOpened_E i0 i1 i2 C h) l⟩
theorem c_X3_readLevel {G : Gv} {p1 : Int32} {p2 : Int32} {w : Wd} {res : Int32 × Wd} (h : f_X3_readLevel p1 p2 w = some res) (l : Launch) : MC l yX3_readLevel cX3_readLevel 6 (some FieldType.boolean) 106 G SX w [.ref (G.2 64), .int p1, .int p2] (some (.int res.1)) res.2 := (cg_X3_readLevel 100).1 w _ _ _ h l
theorem c_X3_readSingle {G : Gv} {p1 : Int32} {w : Wd} {res : Int32 × Wd} (h : f_X3_readSingle p1 w = some res) (l : Launch) : MC l yX3_readSingle cX3_readSingle 3 (some FieldType.boolean) 106 G SX w [.ref (G.2 64), .int p1] (some (.int res.1)) res.2 := (cg_X3_readLevel 100).2.1 w _ _ h l
theorem c_X3_readOpened {G : Gv} {p1 : Int32} {p2 : Int32} {w : Wd} {res : Int32 × Wd} (h : f_X3_readOpened p1 p2 w = some res) (l : Launch) : MC l yX3_readOpened cX3_readOpened 4 (some FieldType.boolean) 106 G SX w [.ref (G.2 64), .int p1, .int p2] (some (.int res.1)) res.2 := (cg_X3_readLevel 100).2.2 w _ _ _ h l
theorem cv_X3_29 {cc : ByteArray} {G : Gv} {n hc : Nat} {rt : Option FieldType} {rv : Option Value} {w0 : Wd} {V : Vt} {w : Wd} {pc : Nat} {L : List (Nat × Value)} {rest : List Value} {α : Type} {res : α} {b0 : Nat} {b1 : Nat} {K : Wd → Option α} (C : CX cc RX3 G SX n hc rt rv w0 V) (hd : decode cc pc = .ok (.invokevirtual 29, 3)) (hb0 : isRo b0 = true) (hb1 : isRo b1 = true) (h : bd (f_X4_copyFrom b0 b1 w) K = some res) (hR : 2 + 1 ≤ hc) (hr : (rest.map fun v => v.category).sum ≤ 8) (kk : ∀ q, K q = some res → V q (pc + 3) L (rest)) : V w pc L (.ref (G.2 b1) :: .ref (G.2 b0) :: rest) := r_callV (As := [.ref (G.2 b1)]) (rest := rest) (rvf := fun q => none) (wf := fun q => q) C hd h ql_X3_29 qi_X4_copyFrom qs_X4_copyFrom qn_X4 qc_X4_copyFrom ⟨rfl, by decide +kernel, by decide +kernel, (by decide +kernel : (parseMethodDescriptor yX4_copyFrom.desc).map (fun d => d.parameters.length) = some 1)⟩ ⟨hR, by decide⟩ (cRo_0 hb0) rfl (fun q hq l => c_X4_copyFrom hb0 hb1 hq l) rfl hr kk
theorem cv_X3_39 {cc : ByteArray} {G : Gv} {n hc : Nat} {rt : Option FieldType} {rv : Option Value} {w0 : Wd} {V : Vt} {w : Wd} {pc : Nat} {L : List (Nat × Value)} {rest : List Value} {α : Type} {res : α} {b0 : Nat} {K : Wd → Option α} (C : CX cc RX3 G SX n hc rt rv w0 V) (hd : decode cc pc = .ok (.invokevirtual 39, 3)) (hb0 : isRo b0 = true) (h : bd (f_X4_clear b0 w) K = some res) (hR : 1 + 1 ≤ hc) (hr : (rest.map fun v => v.category).sum ≤ 8) (kk : ∀ q, K q = some res → V q (pc + 3) L (rest)) : V w pc L (.ref (G.2 b0) :: rest) := r_callV (As := []) (rest := rest) (rvf := fun q => none) (wf := fun q => q) C hd h ql_X3_39 qi_X4_clear qs_X4_clear qn_X4 qc_X4_clear ⟨rfl, by decide +kernel, by decide +kernel, (by decide +kernel : (parseMethodDescriptor yX4_clear.desc).map (fun d => d.parameters.length) = some 0)⟩ ⟨hR, by decide⟩ (cRo_0 hb0) rfl (fun q hq l => c_X4_clear hb0 hq l) rfl hr kk
theorem cv_X3_42 {cc : ByteArray} {G : Gv} {n hc : Nat} {rt : Option FieldType} {rv : Option Value} {w0 : Wd} {V : Vt} {w : Wd} {pc : Nat} {L : List (Nat × Value)} {rest : List Value} {α : Type} {res : α} {p1 : Int32} {p2 : Int32} {K : Int32 × Wd → Option α} (C : CX cc RX3 G SX n hc rt rv w0 V) (hd : decode cc pc = .ok (.invokevirtual 42, 3)) (h : bd (f_X3_readLevel p1 p2 w) K = some res) (hR : 106 + 1 ≤ hc) (hr : (rest.map fun v => v.category).sum ≤ 8) (kk : ∀ q, K q = some res → V q.2 (pc + 3) L (.int q.1 :: rest)) : V w pc L (.int p2 :: .int p1 :: .ref (G.2 64) :: rest) := r_callV (As := [.int p1, .int p2]) (rest := rest) (rvf := fun q => (some (.int q.1))) (wf := fun q => q.2) C hd h ql_X3_42 qi_X3_readLevel qs_X3_readLevel qn_X3 qc_X3_readLevel ⟨rfl, by decide +kernel, by decide +kernel, (by decide +kernel : (parseMethodDescriptor yX3_readLevel.desc).map (fun d => d.parameters.length) = some 2)⟩ ⟨hR, by decide⟩ kx_64 rfl (fun q hq l => c_X3_readLevel hq l) rfl hr kk
def f_X3_reads_20 (b2 : Nat) (t0 : Int32) (w : Wd) : Option (Int32 × Wd) := wl (updW w 64 3 t0) (fun w1 => wl (updW w1 64 1 (0:Int32)) (fun w2 => bd (f_X4_clear 65 w2) (fun q3 => bd (f_X3_readLevel (0:Int32) (0:Int32) q3) (fun q4 => (if q4.1 = 0 then some ((0:Int32), q4.2) else (if ¬ (q4.2 64 1) = (q4.2 81 1) then some ((0:Int32), q4.2) else some ((1:Int32), q4.2)))))))
set_option maxRecDepth 20000 in
theorem b_X3_reads_20 {G : Gv} {V : Vt} {b2 : Nat} {res : Int32 × Wd} (hb2 : isRo b2 = true)  (C : CX cX3_reads RX3 G SX 3 107 (some FieldType.boolean) (some (.int res.1)) res.2 V) {t0 : Int32} {w : Wd} (h : f_X3_reads_20 b2 t0 w = some res) : V w 20 [(0, .ref (G.2 64))] [.ref (strA G t0), .ref (G.2 64)] := by
  unfold f_X3_reads_20 at h
  refine ps_X3_25 (pc := 20) C dX3_reads_20 kx_64 rfl h (fun w1 h => ?_)
  refine r_aload_n (pc := 23) C dX3_reads_23 rfl 0 rfl ?_
  refine r_iconst (v := (0:Int32)) (pc := 24) C dX3_reads_24 (by decide) ?_
  refine pi_X3_35 (pc := 25) C dX3_reads_25 kx_64 rfl h (fun w2 h => ?_)
  refine r_aload_n (pc := 28) C dX3_reads_28 rfl 0 rfl ?_
  refine gr_X3_14 (pc := 29) 65 C dX3_reads_29 kx_64 rfl ?_
  refine cv_X3_39 (pc := 32) C dX3_reads_32 isRo_65 h (by decide) (Nat.le_of_ble_eq_true rfl) (fun q3 h => ?_)
  refine r_aload_n (pc := 35) C dX3_reads_35 rfl 0 rfl ?_
  refine r_iconst (v := (0:Int32)) (pc := 36) C dX3_reads_36 (by decide) ?_
  refine r_iconst (v := (0:Int32)) (pc := 37) C dX3_reads_37 (by decide) ?_
  refine cv_X3_42 (pc := 38) C dX3_reads_38  h (by decide) (Nat.le_of_ble_eq_true rfl) (fun q4 h => ?_)
  refine r_if_eq (pc := 41) C 62 dX3_reads_41 (by decide) h (fun h => ?_) (fun h => ?_)
  · refine r_iconst (v := (0:Int32)) (pc := 62) C dX3_reads_62 (by decide) ?_
    exact r_zretE (pc := 63) C rfl dX3_reads_63 h
  · refine r_aload_n (pc := 44) C dX3_reads_44 rfl 0 rfl ?_
    refine gi_X3_35 (pc := 45) C dX3_reads_45 kx_64 rfl ?_
    refine r_aload_n (pc := 48) C dX3_reads_48 rfl 0 rfl ?_
    refine gr_X3_20 (pc := 49) 81 C dX3_reads_49 kx_64 rfl ?_
    refine gi_X3_46 (pc := 52) C dX3_reads_52 kx_81 rfl ?_
    refine r_icmp_ne (pc := 55) C 62 dX3_reads_55 (by decide) h (fun h => ?_) (fun h => ?_)
    · refine r_iconst (v := (0:Int32)) (pc := 62) C dX3_reads_62 (by decide) ?_
      exact r_zretE (pc := 63) C rfl dX3_reads_63 h
    · refine r_iconst (v := (1:Int32)) (pc := 58) C dX3_reads_58 (by decide) ?_
      refine r_goto (pc := 59) C 63 dX3_reads_59 (by decide) ?_
      exact r_zretE (pc := 63) C rfl dX3_reads_63 h
def f_X3_reads (b2 : Nat) (p1 : Int32) (w : Wd) : Option (Int32 × Wd) := bd (f_X4_copyFrom 81 b2 w) (fun q1 => (if ¬ p1 = 0 then f_X3_reads_20 b2 (1:Int32) q1 else f_X3_reads_20 b2 (0:Int32) q1))
set_option maxRecDepth 20000 in
theorem b_X3_reads_E {G : Gv} {V : Vt} {b2 : Nat} {res : Int32 × Wd} (hb2 : isRo b2 = true)  (C : CX cX3_reads RX3 G SX 3 107 (some FieldType.boolean) (some (.int res.1)) res.2 V) {p1 : Int32} {w : Wd} (h : f_X3_reads b2 p1 w = some res) : V w 0 [(0, .ref (G.2 64)), (1, .int p1), (2, .ref (G.2 b2))] [] := by
  unfold f_X3_reads at h
  refine r_aload_n (pc := 0) C dX3_reads_0 rfl 0 rfl ?_
  refine gr_X3_20 (pc := 1) 81 C dX3_reads_1 kx_64 rfl ?_
  refine r_aload_n (pc := 4) C dX3_reads_4 rfl 2 rfl ?_
  refine cv_X3_29 (pc := 5) C dX3_reads_5 isRo_81 hb2 h (by decide) (Nat.le_of_ble_eq_true rfl) (fun q1 h => ?_)
  refine r_aload_n (pc := 8) C dX3_reads_8 rfl 0 rfl ?_
  refine r_iload_n (pc := 9) C dX3_reads_9 rfl 1 rfl ?_
  refine r_if_ne (pc := 10) C 18 dX3_reads_10 (by decide) h (fun h => ?_) (fun h => ?_)
  · refine r_ldcS1 (pc := 18) C dX3_reads_18 ?_
    exact r_sub C [0] rfl (b_X3_reads_20 hb2 C h)
  · refine r_ldcS0 (pc := 13) C dX3_reads_13 ?_
    refine r_goto (pc := 15) C 20 dX3_reads_15 (by decide) ?_
    exact r_sub C [0] rfl (b_X3_reads_20 hb2 C h)
theorem c_X3_reads {G : Gv} {b2 : Nat} {p1 : Int32} {w : Wd} {res : Int32 × Wd} (hb2 : isRo b2 = true) (h : f_X3_reads b2 p1 w = some res) (l : Launch) : MC l yX3_reads cX3_reads 3 (some FieldType.boolean) 107 G SX w [.ref (G.2 64), .int p1, .ref (G.2 b2)] (some (.int res.1)) res.2 := mc_of (by decide +kernel) rfl (Nat.le_of_ble_eq_true rfl) rfl (fun V C => b_X3_reads_E hb2 C h) l
def f_X5_isMissing (b0 : Nat) (w : Wd) : Option (Int32) := (if ¬ (w b0 0) = 0 then some (0:Int32) else some (1:Int32))
set_option maxRecDepth 20000 in
theorem b_X5_isMissing_E {G : Gv} {V : Vt} {b0 : Nat} {w : Wd} {res : Int32} (hb0 : isSh b0 = true)  (C : CX cX5_isMissing RX5 G SX 1 1 (some FieldType.boolean) (some (.int res)) w V) (h : f_X5_isMissing b0 w = some res) : V w 0 [(0, .ref (G.2 b0))] [] := by
  unfold f_X5_isMissing at h
  refine r_aload_n (pc := 0) C dX5_isMissing_0 rfl 0 rfl ?_
  refine gi_X5_15 (pc := 1) C dX5_isMissing_1 (cSh_0 hb0) rfl ?_
  refine r_if_ne (pc := 4) C 11 dX5_isMissing_4 (by decide) h (fun h => ?_) (fun h => ?_)
  · refine r_iconst (v := (0:Int32)) (pc := 11) C dX5_isMissing_11 (by decide) ?_
    exact r_zretP (pc := 12) C rfl dX5_isMissing_12 h
  · refine r_iconst (v := (1:Int32)) (pc := 7) C dX5_isMissing_7 (by decide) ?_
    refine r_goto (pc := 8) C 12 dX5_isMissing_8 (by decide) ?_
    exact r_zretP (pc := 12) C rfl dX5_isMissing_12 h
theorem c_X5_isMissing {G : Gv} {b0 : Nat} {w : Wd} {res : Int32} (hb0 : isSh b0 = true) (h : f_X5_isMissing b0 w = some res) (l : Launch) : MC l yX5_isMissing cX5_isMissing 1 (some FieldType.boolean) 1 G SX w [.ref (G.2 b0)] (some (.int res)) w := mc_of (by decide +kernel) rfl (Nat.le_of_ble_eq_true rfl) rfl (fun V C => b_X5_isMissing_E hb0 C h) l
def fb_X5_renew_12 (b0 : Nat) (rec12 : Int32 → Wd → Option (Wd)) (x3 : Int32) (w : Wd) : Option (Wd) := (if (40:Int32) ≤ x3 then some w else ast w (b0 + 1) 40 x3 (0:Int32) (fun w1 => rec12 (x3 + (1:Int32)) w1))
set_option maxRecDepth 20000 in
theorem bb_X5_renew_12 {G : Gv} {V : Vt} {b0 : Nat} {rec12 : Int32 → Wd → Option (Wd)} {res : Wd} (hb0 : isSh b0 = true)  (C : CX cX5_renew RX5 G SX 4 1 none none res V) (hrec12 : ∀ (x3 : Int32) (w : Wd), rec12 x3 w = some res → V w 12 [(0, .ref (G.2 b0)), (3, .int x3)] []) {x3 : Int32} {w : Wd} (h : fb_X5_renew_12 b0 rec12 x3 w = some res) : V w 12 [(0, .ref (G.2 b0)), (3, .int x3)] [] := by
  unfold fb_X5_renew_12 at h
  refine r_iload_n (pc := 12) C dX5_renew_12 rfl 1 rfl ?_
  refine r_bipush (v := (40:Int32)) (pc := 13) C dX5_renew_13 (by decide) ?_
  refine r_icmp_ge (pc := 15) C 31 dX5_renew_15 (by decide) h (fun h => ?_) (fun h => ?_)
  · exact r_vretE (pc := 31) C dX5_renew_31 h
  · refine r_aload_n (pc := 18) C dX5_renew_18 rfl 0 rfl ?_
    refine gr_X5_9 (pc := 19) (b0 + 1) C dX5_renew_19 (cSh_0 hb0) rfl ?_
    refine r_iload_n (pc := 22) C dX5_renew_22 rfl 1 rfl ?_
    refine r_iconst (v := (0:Int32)) (pc := 23) C dX5_renew_23 (by decide) ?_
    refine r_ast (pc := 24) C dX5_renew_24 h (cSh_1 hb0) (fun w1 h => ?_)
    refine r_iinc (v := (x3 + (1:Int32))) (L' := [(3, .int (x3 + (1:Int32))), (0, .ref (G.2 b0))]) (pc := 25) C dX5_renew_25 1 rfl rfl (by decide) rfl ?_
    refine r_goto (pc := 28) C 12 dX5_renew_28 (by decide) ?_
    exact r_sub C [1, 0] rfl (hrec12 _ _ h)
def f_X5_renew_12 (b0 : Nat) : Int32 → Wd → Option (Wd) := lp (fun _ _ => none) (fun rec => fb_X5_renew_12 b0 rec) FU
theorem b_X5_renew_12 {G : Gv} {V : Vt} {b0 : Nat} {res : Wd} (hb0 : isSh b0 = true)  (C : CX cX5_renew RX5 G SX 4 1 none none res V) : ∀ (x3 : Int32) (w : Wd), (f_X5_renew_12 b0) x3 w = some res → V w 12 [(0, .ref (G.2 b0)), (3, .int x3)] [] :=
  lp_ind (P := fun (g : Int32 → Wd → Option (Wd)) => ∀ (x3 : Int32) (w : Wd), g x3 w = some res → V w 12 [(0, .ref (G.2 b0)), (3, .int x3)] []) (fun _ _ h => by cases h) (fun g hg _ _ h => bb_X5_renew_12 hb0 C hg h) FU
def f_X5_renew (b0 : Nat) (p1 : Int32) (p2 : Int32) (w : Wd) : Option (Wd) := wl (updW w b0 0 p1) (fun w1 => wl (updW w1 b0 1 p2) (fun w2 => f_X5_renew_12 b0 (0:Int32) w2))
set_option maxRecDepth 20000 in
theorem b_X5_renew_E {G : Gv} {V : Vt} {b0 : Nat} {res : Wd} (hb0 : isSh b0 = true)  (C : CX cX5_renew RX5 G SX 4 1 none none res V) {p1 : Int32} {p2 : Int32} {w : Wd} (h : f_X5_renew b0 p1 p2 w = some res) : V w 0 [(0, .ref (G.2 b0)), (1, .int p1), (2, .int p2)] [] := by
  unfold f_X5_renew at h
  refine r_aload_n (pc := 0) C dX5_renew_0 rfl 0 rfl ?_
  refine r_iload_n (pc := 1) C dX5_renew_1 rfl 1 rfl ?_
  refine pi_X5_15 (pc := 2) C dX5_renew_2 (cSh_0 hb0) rfl h (fun w1 h => ?_)
  refine r_aload_n (pc := 5) C dX5_renew_5 rfl 0 rfl ?_
  refine r_iload_n (pc := 6) C dX5_renew_6 rfl 2 rfl ?_
  refine pi_X5_19 (pc := 7) C dX5_renew_7 (cSh_0 hb0) rfl h (fun w2 h => ?_)
  refine r_iconst (v := (0:Int32)) (pc := 10) C dX5_renew_10 (by decide) ?_
  refine r_istore_n (L' := [(3, .int (0:Int32)), (0, .ref (G.2 b0)), (1, .int p1), (2, .int p2)]) (pc := 11) C dX5_renew_11 rfl (by decide) rfl ?_
  exact r_sub C [1, 0] rfl (b_X5_renew_12 hb0 C _ _ h)
theorem c_X5_renew {G : Gv} {b0 : Nat} {p1 : Int32} {p2 : Int32} {w : Wd} {res : Wd} (hb0 : isSh b0 = true) (h : f_X5_renew b0 p1 p2 w = some res) (l : Launch) : MC l yX5_renew cX5_renew 4 none 1 G SX w [.ref (G.2 b0), .int p1, .int p2] none res := mc_of (by decide +kernel) rfl (Nat.le_of_ble_eq_true rfl) rfl (fun V C => b_X5_renew_E hb0 C h) l
def f_X5_lowest (b0 : Nat) (w : Wd) (p1 : Int32) : Option (Int32) := (if ¬ (w b0 0) = (8:Int32) then (if ¬ (w b0 0) = (16:Int32) then some p1 else some ((p1).toInt16.toInt32)) else some ((p1).toInt8.toInt32))
set_option maxRecDepth 20000 in
theorem b_X5_lowest_E {G : Gv} {V : Vt} {b0 : Nat} {w : Wd} {res : Int32} (hb0 : isSh b0 = true)  (C : CX cX5_lowest RX5 G SX 2 1 (some FieldType.int) (some (.int res)) w V) {p1 : Int32} (h : f_X5_lowest b0 w p1 = some res) : V w 0 [(0, .ref (G.2 b0)), (1, .int p1)] [] := by
  unfold f_X5_lowest at h
  refine r_aload_n (pc := 0) C dX5_lowest_0 rfl 0 rfl ?_
  refine gi_X5_15 (pc := 1) C dX5_lowest_1 (cSh_0 hb0) rfl ?_
  refine r_bipush (v := (8:Int32)) (pc := 4) C dX5_lowest_4 (by decide) ?_
  refine r_icmp_ne (pc := 6) C 14 dX5_lowest_6 (by decide) h (fun h => ?_) (fun h => ?_)
  · refine r_aload_n (pc := 14) C dX5_lowest_14 rfl 0 rfl ?_
    refine gi_X5_15 (pc := 15) C dX5_lowest_15 (cSh_0 hb0) rfl ?_
    refine r_bipush (v := (16:Int32)) (pc := 18) C dX5_lowest_18 (by decide) ?_
    refine r_icmp_ne (pc := 20) C 28 dX5_lowest_20 (by decide) h (fun h => ?_) (fun h => ?_)
    · refine r_iload_n (pc := 28) C dX5_lowest_28 rfl 1 rfl ?_
      exact r_iretP (pc := 29) C dX5_lowest_29 h
    · refine r_iload_n (pc := 23) C dX5_lowest_23 rfl 1 rfl ?_
      refine r_i2s (pc := 24) C dX5_lowest_24 ?_
      refine r_goto (pc := 25) C 29 dX5_lowest_25 (by decide) ?_
      exact r_iretP (pc := 29) C dX5_lowest_29 h
  · refine r_iload_n (pc := 9) C dX5_lowest_9 rfl 1 rfl ?_
    refine r_i2b (pc := 10) C dX5_lowest_10 ?_
    refine r_goto (pc := 11) C 29 dX5_lowest_11 (by decide) ?_
    exact r_iretP (pc := 29) C dX5_lowest_29 h
theorem c_X5_lowest {G : Gv} {b0 : Nat} {p1 : Int32} {w : Wd} {res : Int32} (hb0 : isSh b0 = true) (h : f_X5_lowest b0 w p1 = some res) (l : Launch) : MC l yX5_lowest cX5_lowest 2 (some FieldType.int) 1 G SX w [.ref (G.2 b0), .int p1] (some (.int res)) w := mc_of (by decide +kernel) rfl (Nat.le_of_ble_eq_true rfl) rfl (fun V C => b_X5_lowest_E hb0 C h) l
def f_X5_holds (b0 : Nat) (w : Wd) (p1 : Int32) (p2 : Int32) : Option (Int32) := (if p1 < 0 then some (0:Int32) else (if p2 < 0 then some (0:Int32) else (if (w b0 1) < p2 then some (0:Int32) else (if ((w b0 1) - p2) < p1 then some (0:Int32) else some (1:Int32)))))
set_option maxRecDepth 20000 in
theorem b_X5_holds_E {G : Gv} {V : Vt} {b0 : Nat} {w : Wd} {res : Int32} (hb0 : isSh b0 = true)  (C : CX cX5_holds RX5 G SX 3 1 (some FieldType.boolean) (some (.int res)) w V) {p1 : Int32} {p2 : Int32} (h : f_X5_holds b0 w p1 p2 = some res) : V w 0 [(0, .ref (G.2 b0)), (1, .int p1), (2, .int p2)] [] := by
  unfold f_X5_holds at h
  refine r_iload_n (pc := 0) C dX5_holds_0 rfl 1 rfl ?_
  refine r_if_lt (pc := 1) C 30 dX5_holds_1 (by decide) h (fun h => ?_) (fun h => ?_)
  · refine r_iconst (v := (0:Int32)) (pc := 30) C dX5_holds_30 (by decide) ?_
    exact r_zretP (pc := 31) C rfl dX5_holds_31 h
  · refine r_iload_n (pc := 4) C dX5_holds_4 rfl 2 rfl ?_
    refine r_if_lt (pc := 5) C 30 dX5_holds_5 (by decide) h (fun h => ?_) (fun h => ?_)
    · refine r_iconst (v := (0:Int32)) (pc := 30) C dX5_holds_30 (by decide) ?_
      exact r_zretP (pc := 31) C rfl dX5_holds_31 h
    · refine r_iload_n (pc := 8) C dX5_holds_8 rfl 2 rfl ?_
      refine r_aload_n (pc := 9) C dX5_holds_9 rfl 0 rfl ?_
      refine gi_X5_19 (pc := 10) C dX5_holds_10 (cSh_0 hb0) rfl ?_
      refine r_icmp_gt (pc := 13) C 30 dX5_holds_13 (by decide) h (fun h => ?_) (fun h => ?_)
      · refine r_iconst (v := (0:Int32)) (pc := 30) C dX5_holds_30 (by decide) ?_
        exact r_zretP (pc := 31) C rfl dX5_holds_31 h
      · refine r_iload_n (pc := 16) C dX5_holds_16 rfl 1 rfl ?_
        refine r_aload_n (pc := 17) C dX5_holds_17 rfl 0 rfl ?_
        refine gi_X5_19 (pc := 18) C dX5_holds_18 (cSh_0 hb0) rfl ?_
        refine r_iload_n (pc := 21) C dX5_holds_21 rfl 2 rfl ?_
        refine r_isub (pc := 22) C dX5_holds_22 ?_
        refine r_icmp_gt (pc := 23) C 30 dX5_holds_23 (by decide) h (fun h => ?_) (fun h => ?_)
        · refine r_iconst (v := (0:Int32)) (pc := 30) C dX5_holds_30 (by decide) ?_
          exact r_zretP (pc := 31) C rfl dX5_holds_31 h
        · refine r_iconst (v := (1:Int32)) (pc := 26) C dX5_holds_26 (by decide) ?_
          refine r_goto (pc := 27) C 31 dX5_holds_27 (by decide) ?_
          exact r_zretP (pc := 31) C rfl dX5_holds_31 h
theorem c_X5_holds {G : Gv} {b0 : Nat} {p1 : Int32} {p2 : Int32} {w : Wd} {res : Int32} (hb0 : isSh b0 = true) (h : f_X5_holds b0 w p1 p2 = some res) (l : Launch) : MC l yX5_holds cX5_holds 3 (some FieldType.boolean) 1 G SX w [.ref (G.2 b0), .int p1, .int p2] (some (.int res)) w := mc_of (by decide +kernel) rfl (Nat.le_of_ble_eq_true rfl) rfl (fun V C => b_X5_holds_E hb0 C h) l
def f_X6_hasPart (b0 : Nat) (w : Wd) (p1 : Int32) : Option (Int32) := (if p1 < 0 then some (0:Int32) else (if (w b0 0) ≤ p1 then some (0:Int32) else some (1:Int32)))
set_option maxRecDepth 20000 in
theorem b_X6_hasPart_E {G : Gv} {V : Vt} {b0 : Nat} {w : Wd} {res : Int32} (hb0 : isTr b0 = true)  (C : CX cX6_hasPart RX6 G SX 2 1 (some FieldType.boolean) (some (.int res)) w V) {p1 : Int32} (h : f_X6_hasPart b0 w p1 = some res) : V w 0 [(0, .ref (G.2 b0)), (1, .int p1)] [] := by
  unfold f_X6_hasPart at h
  refine r_iload_n (pc := 0) C dX6_hasPart_0 rfl 1 rfl ?_
  refine r_if_lt (pc := 1) C 16 dX6_hasPart_1 (by decide) h (fun h => ?_) (fun h => ?_)
  · refine r_iconst (v := (0:Int32)) (pc := 16) C dX6_hasPart_16 (by decide) ?_
    exact r_zretP (pc := 17) C rfl dX6_hasPart_17 h
  · refine r_iload_n (pc := 4) C dX6_hasPart_4 rfl 1 rfl ?_
    refine r_aload_n (pc := 5) C dX6_hasPart_5 rfl 0 rfl ?_
    refine gi_X6_36 (pc := 6) C dX6_hasPart_6 (cTr_0 hb0) rfl ?_
    refine r_icmp_ge (pc := 9) C 16 dX6_hasPart_9 (by decide) h (fun h => ?_) (fun h => ?_)
    · refine r_iconst (v := (0:Int32)) (pc := 16) C dX6_hasPart_16 (by decide) ?_
      exact r_zretP (pc := 17) C rfl dX6_hasPart_17 h
    · refine r_iconst (v := (1:Int32)) (pc := 12) C dX6_hasPart_12 (by decide) ?_
      refine r_goto (pc := 13) C 17 dX6_hasPart_13 (by decide) ?_
      exact r_zretP (pc := 17) C rfl dX6_hasPart_17 h
theorem c_X6_hasPart {G : Gv} {b0 : Nat} {p1 : Int32} {w : Wd} {res : Int32} (hb0 : isTr b0 = true) (h : f_X6_hasPart b0 w p1 = some res) (l : Launch) : MC l yX6_hasPart cX6_hasPart 2 (some FieldType.boolean) 1 G SX w [.ref (G.2 b0), .int p1] (some (.int res)) w := mc_of (by decide +kernel) rfl (Nat.le_of_ble_eq_true rfl) rfl (fun V C => b_X6_hasPart_E hb0 C h) l
def f_X6_hasPlayer (b0 : Nat) (w : Wd) (p1 : Int32) : Option (Int32) := (if p1 < 0 then some (0:Int32) else (if (w b0 5) ≤ p1 then some (0:Int32) else some (1:Int32)))
set_option maxRecDepth 20000 in
theorem b_X6_hasPlayer_E {G : Gv} {V : Vt} {b0 : Nat} {w : Wd} {res : Int32} (hb0 : isTr b0 = true)  (C : CX cX6_hasPlayer RX6 G SX 2 1 (some FieldType.boolean) (some (.int res)) w V) {p1 : Int32} (h : f_X6_hasPlayer b0 w p1 = some res) : V w 0 [(0, .ref (G.2 b0)), (1, .int p1)] [] := by
  unfold f_X6_hasPlayer at h
  refine r_iload_n (pc := 0) C dX6_hasPlayer_0 rfl 1 rfl ?_
  refine r_if_lt (pc := 1) C 16 dX6_hasPlayer_1 (by decide) h (fun h => ?_) (fun h => ?_)
  · refine r_iconst (v := (0:Int32)) (pc := 16) C dX6_hasPlayer_16 (by decide) ?_
    exact r_zretP (pc := 17) C rfl dX6_hasPlayer_17 h
  · refine r_iload_n (pc := 4) C dX6_hasPlayer_4 rfl 1 rfl ?_
    refine r_aload_n (pc := 5) C dX6_hasPlayer_5 rfl 0 rfl ?_
    refine gi_X6_46 (pc := 6) C dX6_hasPlayer_6 (cTr_0 hb0) rfl ?_
    refine r_icmp_ge (pc := 9) C 16 dX6_hasPlayer_9 (by decide) h (fun h => ?_) (fun h => ?_)
    · refine r_iconst (v := (0:Int32)) (pc := 16) C dX6_hasPlayer_16 (by decide) ?_
      exact r_zretP (pc := 17) C rfl dX6_hasPlayer_17 h
    · refine r_iconst (v := (1:Int32)) (pc := 12) C dX6_hasPlayer_12 (by decide) ?_
      refine r_goto (pc := 13) C 17 dX6_hasPlayer_13 (by decide) ?_
      exact r_zretP (pc := 17) C rfl dX6_hasPlayer_17 h
theorem c_X6_hasPlayer {G : Gv} {b0 : Nat} {p1 : Int32} {w : Wd} {res : Int32} (hb0 : isTr b0 = true) (h : f_X6_hasPlayer b0 w p1 = some res) (l : Launch) : MC l yX6_hasPlayer cX6_hasPlayer 2 (some FieldType.boolean) 1 G SX w [.ref (G.2 b0), .int p1] (some (.int res)) w := mc_of (by decide +kernel) rfl (Nat.le_of_ble_eq_true rfl) rfl (fun V C => b_X6_hasPlayer_E hb0 C h) l
def f_X6_allParts (b0 : Nat) (w : Wd) : Option (Int32) := some (((1:Int32) <<< ((w b0 0) &&& 31)) - (1:Int32))
set_option maxRecDepth 20000 in
theorem b_X6_allParts_E {G : Gv} {V : Vt} {b0 : Nat} {w : Wd} {res : Int32} (hb0 : isTr b0 = true)  (C : CX cX6_allParts RX6 G SX 1 1 (some FieldType.int) (some (.int res)) w V) (h : f_X6_allParts b0 w = some res) : V w 0 [(0, .ref (G.2 b0))] [] := by
  unfold f_X6_allParts at h
  refine r_iconst (v := (1:Int32)) (pc := 0) C dX6_allParts_0 (by decide) ?_
  refine r_aload_n (pc := 1) C dX6_allParts_1 rfl 0 rfl ?_
  refine gi_X6_36 (pc := 2) C dX6_allParts_2 (cTr_0 hb0) rfl ?_
  refine r_ishl (pc := 5) C dX6_allParts_5 ?_
  refine r_iconst (v := (1:Int32)) (pc := 6) C dX6_allParts_6 (by decide) ?_
  refine r_isub (pc := 7) C dX6_allParts_7 ?_
  exact r_iretP (pc := 8) C dX6_allParts_8 h
theorem c_X6_allParts {G : Gv} {b0 : Nat} {w : Wd} {res : Int32} (hb0 : isTr b0 = true) (h : f_X6_allParts b0 w = some res) (l : Launch) : MC l yX6_allParts cX6_allParts 1 (some FieldType.int) 1 G SX w [.ref (G.2 b0)] (some (.int res)) w := mc_of (by decide +kernel) rfl (Nat.le_of_ble_eq_true rfl) rfl (fun V C => b_X6_allParts_E hb0 C h) l
def f_X6_shape (b0 : Nat) (p1 : Int32) (p2 : Int32) (w : Wd) : Option (Wd) := nz (10:Int32) (ast w (b0 + 1) 5 p1 (p2 / (10:Int32)) (fun w1 => nz (10:Int32) (ast w1 (b0 + 2) 5 p1 (p2 - p2 / (10:Int32) * (10:Int32)) (fun w2 => some w2))))
set_option maxRecDepth 20000 in
theorem b_X6_shape_E {G : Gv} {V : Vt} {b0 : Nat} {res : Wd} (hb0 : isTr b0 = true)  (C : CX cX6_shape RX6 G SX 3 1 none none res V) {p1 : Int32} {p2 : Int32} {w : Wd} (h : f_X6_shape b0 p1 p2 w = some res) : V w 0 [(0, .ref (G.2 b0)), (1, .int p1), (2, .int p2)] [] := by
  unfold f_X6_shape at h
  refine r_aload_n (pc := 0) C dX6_shape_0 rfl 0 rfl ?_
  refine gr_X6_9 (pc := 1) (b0 + 1) C dX6_shape_1 (cTr_0 hb0) rfl ?_
  refine r_iload_n (pc := 4) C dX6_shape_4 rfl 1 rfl ?_
  refine r_iload_n (pc := 5) C dX6_shape_5 rfl 2 rfl ?_
  refine r_bipush (v := (10:Int32)) (pc := 6) C dX6_shape_6 (by decide) ?_
  refine r_nz_div (pc := 8) C dX6_shape_8 h (fun h => ?_)
  refine r_ast (pc := 9) C dX6_shape_9 h (cTr_1 hb0) (fun w1 h => ?_)
  refine r_aload_n (pc := 10) C dX6_shape_10 rfl 0 rfl ?_
  refine gr_X6_15 (pc := 11) (b0 + 2) C dX6_shape_11 (cTr_0 hb0) rfl ?_
  refine r_iload_n (pc := 14) C dX6_shape_14 rfl 1 rfl ?_
  refine r_iload_n (pc := 15) C dX6_shape_15 rfl 2 rfl ?_
  refine r_bipush (v := (10:Int32)) (pc := 16) C dX6_shape_16 (by decide) ?_
  refine r_nz_rem (pc := 18) C dX6_shape_18 h (fun h => ?_)
  refine r_ast (pc := 19) C dX6_shape_19 h (cTr_2 hb0) (fun w2 h => ?_)
  exact r_vretE (pc := 20) C dX6_shape_20 h
theorem c_X6_shape {G : Gv} {b0 : Nat} {p1 : Int32} {p2 : Int32} {w : Wd} {res : Wd} (hb0 : isTr b0 = true) (h : f_X6_shape b0 p1 p2 w = some res) (l : Launch) : MC l yX6_shape cX6_shape 3 none 1 G SX w [.ref (G.2 b0), .int p1, .int p2] none res := mc_of (by decide +kernel) rfl (Nat.le_of_ble_eq_true rfl) rfl (fun V C => b_X6_shape_E hb0 C h) l
theorem cv_X6_58 {cc : ByteArray} {G : Gv} {n hc : Nat} {rt : Option FieldType} {rv : Option Value} {w0 : Wd} {V : Vt} {w : Wd} {pc : Nat} {L : List (Nat × Value)} {rest : List Value} {α : Type} {res : α} {b0 : Nat} {p1 : Int32} {p2 : Int32} {K : Wd → Option α} (C : CX cc RX6 G SX n hc rt rv w0 V) (hd : decode cc pc = .ok (.invokevirtual 58, 3)) (hb0 : isTr b0 = true) (h : bd (f_X6_shape b0 p1 p2 w) K = some res) (hR : 1 + 1 ≤ hc) (hr : (rest.map fun v => v.category).sum ≤ 8) (kk : ∀ q, K q = some res → V q (pc + 3) L (rest)) : V w pc L (.int p2 :: .int p1 :: .ref (G.2 b0) :: rest) := r_callV (As := [.int p1, .int p2]) (rest := rest) (rvf := fun q => none) (wf := fun q => q) C hd h ql_X6_58 qi_X6_shape qs_X6_shape qn_X6 qc_X6_shape ⟨rfl, by decide +kernel, by decide +kernel, (by decide +kernel : (parseMethodDescriptor yX6_shape.desc).map (fun d => d.parameters.length) = some 2)⟩ ⟨hR, by decide⟩ (cTr_0 hb0) rfl (fun q hq l => c_X6_shape hb0 hq l) rfl hr kk
def f_X6_addPart (b0 : Nat) (p1 : Int32) (p2 : Int32) (w : Wd) : Option (Int32 × Wd) := lv (w b0 0) (fun v1 => (if (5:Int32) ≤ v1 then some (v1, w) else bd (f_X6_shape b0 v1 p1 w) (fun q2 => ast q2 (b0 + 3) 5 v1 p2 (fun w3 => wl (updW w3 b0 0 ((w3 b0 0) + (1:Int32))) (fun w4 => some (v1, w4))))))
set_option maxRecDepth 20000 in
theorem b_X6_addPart_E {G : Gv} {V : Vt} {b0 : Nat} {res : Int32 × Wd} (hb0 : isTr b0 = true)  (C : CX cX6_addPart RX6 G SX 4 2 (some FieldType.int) (some (.int res.1)) res.2 V) {p1 : Int32} {p2 : Int32} {w : Wd} (h : f_X6_addPart b0 p1 p2 w = some res) : V w 0 [(0, .ref (G.2 b0)), (1, .int p1), (2, .int p2)] [] := by
  unfold f_X6_addPart at h
  refine r_aload_n (pc := 0) C dX6_addPart_0 rfl 0 rfl ?_
  refine gi_X6_36 (pc := 1) C dX6_addPart_1 (cTr_0 hb0) rfl ?_
  refine r_lv h (fun v1 h => ?_)
  refine r_istore_n (L' := [(3, .int v1), (0, .ref (G.2 b0)), (1, .int p1), (2, .int p2)]) (pc := 4) C dX6_addPart_4 rfl (by decide) rfl ?_
  refine r_iload_n (pc := 5) C dX6_addPart_5 rfl 0 rfl ?_
  refine r_iconst (v := (5:Int32)) (pc := 6) C dX6_addPart_6 (by decide) ?_
  refine r_icmp_ge (pc := 7) C 33 dX6_addPart_7 (by decide) h (fun h => ?_) (fun h => ?_)
  · refine r_iload_n (pc := 33) C dX6_addPart_33 rfl 0 rfl ?_
    exact r_iretE (pc := 34) C dX6_addPart_34 h
  · refine r_aload_n (pc := 10) C dX6_addPart_10 rfl 1 rfl ?_
    refine r_iload_n (pc := 11) C dX6_addPart_11 rfl 0 rfl ?_
    refine r_iload_n (pc := 12) C dX6_addPart_12 rfl 2 rfl ?_
    refine cv_X6_58 (pc := 13) C dX6_addPart_13 hb0 h (by decide) (Nat.le_of_ble_eq_true rfl) (fun q2 h => ?_)
    refine r_aload_n (pc := 16) C dX6_addPart_16 rfl 1 rfl ?_
    refine gr_X6_18 (pc := 17) (b0 + 3) C dX6_addPart_17 (cTr_0 hb0) rfl ?_
    refine r_iload_n (pc := 20) C dX6_addPart_20 rfl 0 rfl ?_
    refine r_iload_n (pc := 21) C dX6_addPart_21 rfl 3 rfl ?_
    refine r_ast (pc := 22) C dX6_addPart_22 h (cTr_3 hb0) (fun w3 h => ?_)
    refine r_aload_n (pc := 23) C dX6_addPart_23 rfl 1 rfl ?_
    refine r_dup (pc := 24) C dX6_addPart_24 rfl ?_
    refine gi_X6_36 (pc := 25) C dX6_addPart_25 (cTr_0 hb0) rfl ?_
    refine r_iconst (v := (1:Int32)) (pc := 28) C dX6_addPart_28 (by decide) ?_
    refine r_iadd (pc := 29) C dX6_addPart_29 ?_
    refine pi_X6_36 (pc := 30) C dX6_addPart_30 (cTr_0 hb0) rfl h (fun w4 h => ?_)
    refine r_iload_n (pc := 33) C dX6_addPart_33 rfl 0 rfl ?_
    exact r_iretE (pc := 34) C dX6_addPart_34 h
theorem c_X6_addPart {G : Gv} {b0 : Nat} {p1 : Int32} {p2 : Int32} {w : Wd} {res : Int32 × Wd} (hb0 : isTr b0 = true) (h : f_X6_addPart b0 p1 p2 w = some res) (l : Launch) : MC l yX6_addPart cX6_addPart 4 (some FieldType.int) 2 G SX w [.ref (G.2 b0), .int p1, .int p2] (some (.int res.1)) res.2 := mc_of (by decide +kernel) rfl (Nat.le_of_ble_eq_true rfl) rfl (fun V C => b_X6_addPart_E hb0 C h) l
def f_X6_addPlayer (b0 : Nat) (p1 : Int32) (p2 : Int32) (w : Wd) : Option (Int32 × Wd) := lv (w b0 5) (fun v1 => (if (6:Int32) ≤ v1 then some (v1, w) else ast w (b0 + 7) 6 v1 p1 (fun w2 => ast w2 (b0 + 5) 6 v1 p2 (fun w3 => wl (updW w3 b0 5 ((w3 b0 5) + (1:Int32))) (fun w4 => some (v1, w4))))))
set_option maxRecDepth 20000 in
theorem b_X6_addPlayer_E {G : Gv} {V : Vt} {b0 : Nat} {res : Int32 × Wd} (hb0 : isTr b0 = true)  (C : CX cX6_addPlayer RX6 G SX 4 1 (some FieldType.int) (some (.int res.1)) res.2 V) {p1 : Int32} {p2 : Int32} {w : Wd} (h : f_X6_addPlayer b0 p1 p2 w = some res) : V w 0 [(0, .ref (G.2 b0)), (1, .int p1), (2, .int p2)] [] := by
  unfold f_X6_addPlayer at h
  refine r_aload_n (pc := 0) C dX6_addPlayer_0 rfl 0 rfl ?_
  refine gi_X6_46 (pc := 1) C dX6_addPlayer_1 (cTr_0 hb0) rfl ?_
  refine r_lv h (fun v1 h => ?_)
  refine r_istore_n (L' := [(3, .int v1), (0, .ref (G.2 b0)), (1, .int p1), (2, .int p2)]) (pc := 4) C dX6_addPlayer_4 rfl (by decide) rfl ?_
  refine r_iload_n (pc := 5) C dX6_addPlayer_5 rfl 0 rfl ?_
  refine r_bipush (v := (6:Int32)) (pc := 6) C dX6_addPlayer_6 (by decide) ?_
  refine r_icmp_ge (pc := 8) C 35 dX6_addPlayer_8 (by decide) h (fun h => ?_) (fun h => ?_)
  · refine r_iload_n (pc := 35) C dX6_addPlayer_35 rfl 0 rfl ?_
    exact r_iretE (pc := 36) C dX6_addPlayer_36 h
  · refine r_aload_n (pc := 11) C dX6_addPlayer_11 rfl 1 rfl ?_
    refine gr_X6_30 (pc := 12) (b0 + 7) C dX6_addPlayer_12 (cTr_0 hb0) rfl ?_
    refine r_iload_n (pc := 15) C dX6_addPlayer_15 rfl 0 rfl ?_
    refine r_iload_n (pc := 16) C dX6_addPlayer_16 rfl 2 rfl ?_
    refine r_ast (pc := 17) C dX6_addPlayer_17 h (cTr_7 hb0) (fun w2 h => ?_)
    refine r_aload_n (pc := 18) C dX6_addPlayer_18 rfl 1 rfl ?_
    refine gr_X6_24 (pc := 19) (b0 + 5) C dX6_addPlayer_19 (cTr_0 hb0) rfl ?_
    refine r_iload_n (pc := 22) C dX6_addPlayer_22 rfl 0 rfl ?_
    refine r_iload_n (pc := 23) C dX6_addPlayer_23 rfl 3 rfl ?_
    refine r_ast (pc := 24) C dX6_addPlayer_24 h (cTr_5 hb0) (fun w3 h => ?_)
    refine r_aload_n (pc := 25) C dX6_addPlayer_25 rfl 1 rfl ?_
    refine r_dup (pc := 26) C dX6_addPlayer_26 rfl ?_
    refine gi_X6_46 (pc := 27) C dX6_addPlayer_27 (cTr_0 hb0) rfl ?_
    refine r_iconst (v := (1:Int32)) (pc := 30) C dX6_addPlayer_30 (by decide) ?_
    refine r_iadd (pc := 31) C dX6_addPlayer_31 ?_
    refine pi_X6_46 (pc := 32) C dX6_addPlayer_32 (cTr_0 hb0) rfl h (fun w4 h => ?_)
    refine r_iload_n (pc := 35) C dX6_addPlayer_35 rfl 0 rfl ?_
    exact r_iretE (pc := 36) C dX6_addPlayer_36 h
theorem c_X6_addPlayer {G : Gv} {b0 : Nat} {p1 : Int32} {p2 : Int32} {w : Wd} {res : Int32 × Wd} (hb0 : isTr b0 = true) (h : f_X6_addPlayer b0 p1 p2 w = some res) (l : Launch) : MC l yX6_addPlayer cX6_addPlayer 4 (some FieldType.int) 1 G SX w [.ref (G.2 b0), .int p1, .int p2] (some (.int res.1)) res.2 := mc_of (by decide +kernel) rfl (Nat.le_of_ble_eq_true rfl) rfl (fun V C => b_X6_addPlayer_E hb0 C h) l
def f_X6_swapIll (b0 : Nat) (p1 : Int32) (p2 : Int32) (w : Wd) : Option (Int32 × Wd) := lv (((w b0 10) >>> (p1 &&& 31)) &&& (1:Int32)) (fun v1 => wl (updW w b0 10 (((w b0 10) &&& (((1:Int32) <<< (p1 &&& 31)) ^^^ (-1:Int32))) ||| (p2 <<< (p1 &&& 31)))) (fun w2 => some (v1, w2)))
set_option maxRecDepth 20000 in
theorem b_X6_swapIll_E {G : Gv} {V : Vt} {b0 : Nat} {res : Int32 × Wd} (hb0 : isTr b0 = true)  (C : CX cX6_swapIll RX6 G SX 4 1 (some FieldType.int) (some (.int res.1)) res.2 V) {p1 : Int32} {p2 : Int32} {w : Wd} (h : f_X6_swapIll b0 p1 p2 w = some res) : V w 0 [(0, .ref (G.2 b0)), (1, .int p1), (2, .int p2)] [] := by
  unfold f_X6_swapIll at h
  refine r_aload_n (pc := 0) C dX6_swapIll_0 rfl 0 rfl ?_
  refine gi_X6_49 (pc := 1) C dX6_swapIll_1 (cTr_0 hb0) rfl ?_
  refine r_iload_n (pc := 4) C dX6_swapIll_4 rfl 1 rfl ?_
  refine r_ishr (pc := 5) C dX6_swapIll_5 ?_
  refine r_iconst (v := (1:Int32)) (pc := 6) C dX6_swapIll_6 (by decide) ?_
  refine r_iand (pc := 7) C dX6_swapIll_7 ?_
  refine r_lv h (fun v1 h => ?_)
  refine r_istore_n (L' := [(3, .int v1), (0, .ref (G.2 b0)), (1, .int p1), (2, .int p2)]) (pc := 8) C dX6_swapIll_8 rfl (by decide) rfl ?_
  refine r_aload_n (pc := 9) C dX6_swapIll_9 rfl 1 rfl ?_
  refine r_aload_n (pc := 10) C dX6_swapIll_10 rfl 1 rfl ?_
  refine gi_X6_49 (pc := 11) C dX6_swapIll_11 (cTr_0 hb0) rfl ?_
  refine r_iconst (v := (1:Int32)) (pc := 14) C dX6_swapIll_14 (by decide) ?_
  refine r_iload_n (pc := 15) C dX6_swapIll_15 rfl 2 rfl ?_
  refine r_ishl (pc := 16) C dX6_swapIll_16 ?_
  refine r_iconst (v := (-1:Int32)) (pc := 17) C dX6_swapIll_17 (by decide) ?_
  refine r_ixor (pc := 18) C dX6_swapIll_18 ?_
  refine r_iand (pc := 19) C dX6_swapIll_19 ?_
  refine r_iload_n (pc := 20) C dX6_swapIll_20 rfl 3 rfl ?_
  refine r_iload_n (pc := 21) C dX6_swapIll_21 rfl 2 rfl ?_
  refine r_ishl (pc := 22) C dX6_swapIll_22 ?_
  refine r_ior (pc := 23) C dX6_swapIll_23 ?_
  refine pi_X6_49 (pc := 24) C dX6_swapIll_24 (cTr_0 hb0) rfl h (fun w2 h => ?_)
  refine r_iload_n (pc := 27) C dX6_swapIll_27 rfl 0 rfl ?_
  exact r_iretE (pc := 28) C dX6_swapIll_28 h
theorem c_X6_swapIll {G : Gv} {b0 : Nat} {p1 : Int32} {p2 : Int32} {w : Wd} {res : Int32 × Wd} (hb0 : isTr b0 = true) (h : f_X6_swapIll b0 p1 p2 w = some res) (l : Launch) : MC l yX6_swapIll cX6_swapIll 4 (some FieldType.int) 1 G SX w [.ref (G.2 b0), .int p1, .int p2] (some (.int res.1)) res.2 := mc_of (by decide +kernel) rfl (Nat.le_of_ble_eq_true rfl) rfl (fun V C => b_X6_swapIll_E hb0 C h) l
def f_X6_whoKnow (b0 : Nat) (w : Wd) (p1 : Int32) : Option (Int32) := bd (f_X6_whoHold b0 (b0 + 5) w p1) (fun q1 => some q1)
set_option maxRecDepth 20000 in
theorem b_X6_whoKnow_E {G : Gv} {V : Vt} {b0 : Nat} {w : Wd} {res : Int32} (hb0 : isTr b0 = true)  (C : CX cX6_whoKnow RX6 G SX 2 2 (some FieldType.int) (some (.int res)) w V) {p1 : Int32} (h : f_X6_whoKnow b0 w p1 = some res) : V w 0 [(0, .ref (G.2 b0)), (1, .int p1)] [] := by
  unfold f_X6_whoKnow at h
  refine r_aload_n (pc := 0) C dX6_whoKnow_0 rfl 0 rfl ?_
  refine r_aload_n (pc := 1) C dX6_whoKnow_1 rfl 0 rfl ?_
  refine gr_X6_24 (pc := 2) (b0 + 5) C dX6_whoKnow_2 (cTr_0 hb0) rfl ?_
  refine r_iload_n (pc := 5) C dX6_whoKnow_5 rfl 1 rfl ?_
  refine cv_X6_62 (pc := 6) C dX6_whoKnow_6 hb0 (sTr_5 hb0) h (by decide) (Nat.le_of_ble_eq_true rfl) (fun q1 h => ?_)
  exact r_iretP (pc := 9) C dX6_whoKnow_9 h
theorem c_X6_whoKnow {G : Gv} {b0 : Nat} {p1 : Int32} {w : Wd} {res : Int32} (hb0 : isTr b0 = true) (h : f_X6_whoKnow b0 w p1 = some res) (l : Launch) : MC l yX6_whoKnow cX6_whoKnow 2 (some FieldType.int) 2 G SX w [.ref (G.2 b0), .int p1] (some (.int res)) w := mc_of (by decide +kernel) rfl (Nat.le_of_ble_eq_true rfl) rfl (fun V C => b_X6_whoKnow_E hb0 C h) l
theorem cv_X6_85 {cc : ByteArray} {G : Gv} {n hc : Nat} {rt : Option FieldType} {rv : Option Value} {w0 : Wd} {V : Vt} {w : Wd} {pc : Nat} {L : List (Nat × Value)} {rest : List Value} {α : Type} {res : α} {b0 : Nat} {p1 : Int32} {K : Int32 → Option α} (C : CX cc RX6 G SX n hc rt rv w0 V) (hd : decode cc pc = .ok (.invokevirtual 85, 3)) (hb0 : isTr b0 = true) (h : bd (f_X6_whoMay b0 w p1) K = some res) (hR : 3 + 1 ≤ hc) (hr : (rest.map fun v => v.category).sum ≤ 8) (kk : ∀ q, K q = some res → V w (pc + 3) L (.int q :: rest)) : V w pc L (.int p1 :: .ref (G.2 b0) :: rest) := r_callV (As := [.int p1]) (rest := rest) (rvf := fun q => (some (.int q))) (wf := fun q => w) C hd h ql_X6_85 qi_X6_whoMay qs_X6_whoMay qn_X6 qc_X6_whoMay ⟨rfl, by decide +kernel, by decide +kernel, (by decide +kernel : (parseMethodDescriptor yX6_whoMay.desc).map (fun d => d.parameters.length) = some 1)⟩ ⟨hR, by decide⟩ (cTr_0 hb0) rfl (fun q hq l => c_X6_whoMay hb0 hq l) rfl hr kk
def fb_X6_whatMay_4 (b0 : Nat) (w : Wd) (rec4 : Int32 → Int32 → Int32 → Option (Int32)) (x1 : Int32) (x2 : Int32) (x3 : Int32) : Option (Int32) := (if (w b0 0) ≤ x3 then some x2 else bd (f_X6_whoMay b0 w x3) (fun q1 => lv (x2 ||| (((q1 >>> (x1 &&& 31)) &&& (1:Int32)) <<< (x3 &&& 31))) (fun v2 => rec4 x1 v2 (x3 + (1:Int32)))))
set_option maxRecDepth 20000 in
theorem bb_X6_whatMay_4 {G : Gv} {V : Vt} {b0 : Nat} {w : Wd} {rec4 : Int32 → Int32 → Int32 → Option (Int32)} {res : Int32} (hb0 : isTr b0 = true)  (C : CX cX6_whatMay RX6 G SX 4 4 (some FieldType.int) (some (.int res)) w V) (hrec4 : ∀ (x1 : Int32) (x2 : Int32) (x3 : Int32), rec4 x1 x2 x3 = some res → V w 4 [(0, .ref (G.2 b0)), (1, .int x1), (2, .int x2), (3, .int x3)] []) {x1 : Int32} {x2 : Int32} {x3 : Int32} (h : fb_X6_whatMay_4 b0 w rec4 x1 x2 x3 = some res) : V w 4 [(0, .ref (G.2 b0)), (1, .int x1), (2, .int x2), (3, .int x3)] [] := by
  unfold fb_X6_whatMay_4 at h
  refine r_iload_n (pc := 4) C dX6_whatMay_4 rfl 3 rfl ?_
  refine r_aload_n (pc := 5) C dX6_whatMay_5 rfl 0 rfl ?_
  refine gi_X6_36 (pc := 6) C dX6_whatMay_6 (cTr_0 hb0) rfl ?_
  refine r_icmp_ge (pc := 9) C 32 dX6_whatMay_9 (by decide) h (fun h => ?_) (fun h => ?_)
  · refine r_iload_n (pc := 32) C dX6_whatMay_32 rfl 2 rfl ?_
    exact r_iretP (pc := 33) C dX6_whatMay_33 h
  · refine r_iload_n (pc := 12) C dX6_whatMay_12 rfl 2 rfl ?_
    refine r_aload_n (pc := 13) C dX6_whatMay_13 rfl 0 rfl ?_
    refine r_iload_n (pc := 14) C dX6_whatMay_14 rfl 3 rfl ?_
    refine cv_X6_85 (pc := 15) C dX6_whatMay_15 hb0 h (by decide) (Nat.le_of_ble_eq_true rfl) (fun q1 h => ?_)
    refine r_iload_n (pc := 18) C dX6_whatMay_18 rfl 1 rfl ?_
    refine r_ishr (pc := 19) C dX6_whatMay_19 ?_
    refine r_iconst (v := (1:Int32)) (pc := 20) C dX6_whatMay_20 (by decide) ?_
    refine r_iand (pc := 21) C dX6_whatMay_21 ?_
    refine r_iload_n (pc := 22) C dX6_whatMay_22 rfl 3 rfl ?_
    refine r_ishl (pc := 23) C dX6_whatMay_23 ?_
    refine r_ior (pc := 24) C dX6_whatMay_24 ?_
    refine r_lv h (fun v2 h => ?_)
    refine r_istore_n (L' := [(2, .int v2), (0, .ref (G.2 b0)), (1, .int x1), (3, .int x3)]) (pc := 25) C dX6_whatMay_25 rfl (by decide) rfl ?_
    refine r_iinc (v := (x3 + (1:Int32))) (L' := [(3, .int (x3 + (1:Int32))), (2, .int v2), (0, .ref (G.2 b0)), (1, .int x1)]) (pc := 26) C dX6_whatMay_26 3 rfl rfl (by decide) rfl ?_
    refine r_goto (pc := 29) C 4 dX6_whatMay_29 (by decide) ?_
    exact r_sub C [2, 3, 1, 0] rfl (hrec4 _ _ _ h)
def f_X6_whatMay_4 (b0 : Nat) (w : Wd) : Int32 → Int32 → Int32 → Option (Int32) := lp (fun _ _ _ => none) (fun rec => fb_X6_whatMay_4 b0 w rec) FU
theorem b_X6_whatMay_4 {G : Gv} {V : Vt} {b0 : Nat} {w : Wd} {res : Int32} (hb0 : isTr b0 = true)  (C : CX cX6_whatMay RX6 G SX 4 4 (some FieldType.int) (some (.int res)) w V) : ∀ (x1 : Int32) (x2 : Int32) (x3 : Int32), (f_X6_whatMay_4 b0 w) x1 x2 x3 = some res → V w 4 [(0, .ref (G.2 b0)), (1, .int x1), (2, .int x2), (3, .int x3)] [] :=
  lp_ind (P := fun (g : Int32 → Int32 → Int32 → Option (Int32)) => ∀ (x1 : Int32) (x2 : Int32) (x3 : Int32), g x1 x2 x3 = some res → V w 4 [(0, .ref (G.2 b0)), (1, .int x1), (2, .int x2), (3, .int x3)] []) (fun _ _ _ h => by cases h) (fun g hg _ _ _ h => bb_X6_whatMay_4 hb0 C hg h) FU
def f_X6_whatMay (b0 : Nat) (w : Wd) (p1 : Int32) : Option (Int32) := f_X6_whatMay_4 b0 w p1 (0:Int32) (0:Int32)
set_option maxRecDepth 20000 in
theorem b_X6_whatMay_E {G : Gv} {V : Vt} {b0 : Nat} {w : Wd} {res : Int32} (hb0 : isTr b0 = true)  (C : CX cX6_whatMay RX6 G SX 4 4 (some FieldType.int) (some (.int res)) w V) {p1 : Int32} (h : f_X6_whatMay b0 w p1 = some res) : V w 0 [(0, .ref (G.2 b0)), (1, .int p1)] [] := by
  unfold f_X6_whatMay at h
  refine r_iconst (v := (0:Int32)) (pc := 0) C dX6_whatMay_0 (by decide) ?_
  refine r_istore_n (L' := [(2, .int (0:Int32)), (0, .ref (G.2 b0)), (1, .int p1)]) (pc := 1) C dX6_whatMay_1 rfl (by decide) rfl ?_
  refine r_iconst (v := (0:Int32)) (pc := 2) C dX6_whatMay_2 (by decide) ?_
  refine r_istore_n (L' := [(3, .int (0:Int32)), (2, .int (0:Int32)), (0, .ref (G.2 b0)), (1, .int p1)]) (pc := 3) C dX6_whatMay_3 rfl (by decide) rfl ?_
  exact r_sub C [2, 3, 1, 0] rfl (b_X6_whatMay_4 hb0 C _ _ _ h)
theorem c_X6_whatMay {G : Gv} {b0 : Nat} {p1 : Int32} {w : Wd} {res : Int32} (hb0 : isTr b0 = true) (h : f_X6_whatMay b0 w p1 = some res) (l : Launch) : MC l yX6_whatMay cX6_whatMay 4 (some FieldType.int) 4 G SX w [.ref (G.2 b0), .int p1] (some (.int res)) w := mc_of (by decide +kernel) rfl (Nat.le_of_ble_eq_true rfl) rfl (fun V C => b_X6_whatMay_E hb0 C h) l
def fb_X6_allPurses_4 (b0 : Nat) (w : Wd) (rec4 : Int32 → Int32 → Option (Int32)) (x1 : Int32) (x2 : Int32) : Option (Int32) := (if (w b0 5) ≤ x2 then some x1 else ald w (b0 + 8) 6 x2 (fun v1 => lv (x1 + v1) (fun v2 => rec4 v2 (x2 + (1:Int32)))))
set_option maxRecDepth 20000 in
theorem bb_X6_allPurses_4 {G : Gv} {V : Vt} {b0 : Nat} {w : Wd} {rec4 : Int32 → Int32 → Option (Int32)} {res : Int32} (hb0 : isTr b0 = true)  (C : CX cX6_allPurses RX6 G SX 3 1 (some FieldType.int) (some (.int res)) w V) (hrec4 : ∀ (x1 : Int32) (x2 : Int32), rec4 x1 x2 = some res → V w 4 [(0, .ref (G.2 b0)), (1, .int x1), (2, .int x2)] []) {x1 : Int32} {x2 : Int32} (h : fb_X6_allPurses_4 b0 w rec4 x1 x2 = some res) : V w 4 [(0, .ref (G.2 b0)), (1, .int x1), (2, .int x2)] [] := by
  unfold fb_X6_allPurses_4 at h
  refine r_iload_n (pc := 4) C dX6_allPurses_4 rfl 2 rfl ?_
  refine r_aload_n (pc := 5) C dX6_allPurses_5 rfl 0 rfl ?_
  refine gi_X6_46 (pc := 6) C dX6_allPurses_6 (cTr_0 hb0) rfl ?_
  refine r_icmp_ge (pc := 9) C 27 dX6_allPurses_9 (by decide) h (fun h => ?_) (fun h => ?_)
  · refine r_iload_n (pc := 27) C dX6_allPurses_27 rfl 1 rfl ?_
    exact r_iretP (pc := 28) C dX6_allPurses_28 h
  · refine r_iload_n (pc := 12) C dX6_allPurses_12 rfl 1 rfl ?_
    refine r_aload_n (pc := 13) C dX6_allPurses_13 rfl 0 rfl ?_
    refine gr_X6_33 (pc := 14) (b0 + 8) C dX6_allPurses_14 (cTr_0 hb0) rfl ?_
    refine r_iload_n (pc := 17) C dX6_allPurses_17 rfl 2 rfl ?_
    refine r_ald (pc := 18) C dX6_allPurses_18 h (cTr_8 hb0) (fun v1 h => ?_)
    refine r_iadd (pc := 19) C dX6_allPurses_19 ?_
    refine r_lv h (fun v2 h => ?_)
    refine r_istore_n (L' := [(1, .int v2), (0, .ref (G.2 b0)), (2, .int x2)]) (pc := 20) C dX6_allPurses_20 rfl (by decide) rfl ?_
    refine r_iinc (v := (x2 + (1:Int32))) (L' := [(2, .int (x2 + (1:Int32))), (1, .int v2), (0, .ref (G.2 b0))]) (pc := 21) C dX6_allPurses_21 2 rfl rfl (by decide) rfl ?_
    refine r_goto (pc := 24) C 4 dX6_allPurses_24 (by decide) ?_
    exact r_sub C [2, 1, 0] rfl (hrec4 _ _ h)
def f_X6_allPurses_4 (b0 : Nat) (w : Wd) : Int32 → Int32 → Option (Int32) := lp (fun _ _ => none) (fun rec => fb_X6_allPurses_4 b0 w rec) FU
theorem b_X6_allPurses_4 {G : Gv} {V : Vt} {b0 : Nat} {w : Wd} {res : Int32} (hb0 : isTr b0 = true)  (C : CX cX6_allPurses RX6 G SX 3 1 (some FieldType.int) (some (.int res)) w V) : ∀ (x1 : Int32) (x2 : Int32), (f_X6_allPurses_4 b0 w) x1 x2 = some res → V w 4 [(0, .ref (G.2 b0)), (1, .int x1), (2, .int x2)] [] :=
  lp_ind (P := fun (g : Int32 → Int32 → Option (Int32)) => ∀ (x1 : Int32) (x2 : Int32), g x1 x2 = some res → V w 4 [(0, .ref (G.2 b0)), (1, .int x1), (2, .int x2)] []) (fun _ _ h => by cases h) (fun g hg _ _ h => bb_X6_allPurses_4 hb0 C hg h) FU
def f_X6_allPurses (b0 : Nat) (w : Wd) : Option (Int32) := f_X6_allPurses_4 b0 w (0:Int32) (0:Int32)
set_option maxRecDepth 20000 in
theorem b_X6_allPurses_E {G : Gv} {V : Vt} {b0 : Nat} {w : Wd} {res : Int32} (hb0 : isTr b0 = true)  (C : CX cX6_allPurses RX6 G SX 3 1 (some FieldType.int) (some (.int res)) w V) (h : f_X6_allPurses b0 w = some res) : V w 0 [(0, .ref (G.2 b0))] [] := by
  unfold f_X6_allPurses at h
  refine r_iconst (v := (0:Int32)) (pc := 0) C dX6_allPurses_0 (by decide) ?_
  refine r_istore_n (L' := [(1, .int (0:Int32)), (0, .ref (G.2 b0))]) (pc := 1) C dX6_allPurses_1 rfl (by decide) rfl ?_
  refine r_iconst (v := (0:Int32)) (pc := 2) C dX6_allPurses_2 (by decide) ?_
  refine r_istore_n (L' := [(2, .int (0:Int32)), (1, .int (0:Int32)), (0, .ref (G.2 b0))]) (pc := 3) C dX6_allPurses_3 rfl (by decide) rfl ?_
  exact r_sub C [2, 1, 0] rfl (b_X6_allPurses_4 hb0 C _ _ h)
theorem c_X6_allPurses {G : Gv} {b0 : Nat} {w : Wd} {res : Int32} (hb0 : isTr b0 = true) (h : f_X6_allPurses b0 w = some res) (l : Launch) : MC l yX6_allPurses cX6_allPurses 3 (some FieldType.int) 1 G SX w [.ref (G.2 b0)] (some (.int res)) w := mc_of (by decide +kernel) rfl (Nat.le_of_ble_eq_true rfl) rfl (fun V C => b_X6_allPurses_E hb0 C h) l
def fb_X6_allApplause_4 (b0 : Nat) (w : Wd) (rec4 : Int32 → Int32 → Option (Int32)) (x1 : Int32) (x2 : Int32) : Option (Int32) := (if (w b0 0) ≤ x2 then some x1 else ald w (b0 + 4) 5 x2 (fun v1 => lv (x1 + v1) (fun v2 => rec4 v2 (x2 + (1:Int32)))))
set_option maxRecDepth 20000 in
theorem bb_X6_allApplause_4 {G : Gv} {V : Vt} {b0 : Nat} {w : Wd} {rec4 : Int32 → Int32 → Option (Int32)} {res : Int32} (hb0 : isTr b0 = true)  (C : CX cX6_allApplause RX6 G SX 3 1 (some FieldType.int) (some (.int res)) w V) (hrec4 : ∀ (x1 : Int32) (x2 : Int32), rec4 x1 x2 = some res → V w 4 [(0, .ref (G.2 b0)), (1, .int x1), (2, .int x2)] []) {x1 : Int32} {x2 : Int32} (h : fb_X6_allApplause_4 b0 w rec4 x1 x2 = some res) : V w 4 [(0, .ref (G.2 b0)), (1, .int x1), (2, .int x2)] [] := by
  unfold fb_X6_allApplause_4 at h
  refine r_iload_n (pc := 4) C dX6_allApplause_4 rfl 2 rfl ?_
  refine r_aload_n (pc := 5) C dX6_allApplause_5 rfl 0 rfl ?_
  refine gi_X6_36 (pc := 6) C dX6_allApplause_6 (cTr_0 hb0) rfl ?_
  refine r_icmp_ge (pc := 9) C 27 dX6_allApplause_9 (by decide) h (fun h => ?_) (fun h => ?_)
  · refine r_iload_n (pc := 27) C dX6_allApplause_27 rfl 1 rfl ?_
    exact r_iretP (pc := 28) C dX6_allApplause_28 h
  · refine r_iload_n (pc := 12) C dX6_allApplause_12 rfl 1 rfl ?_
    refine r_aload_n (pc := 13) C dX6_allApplause_13 rfl 0 rfl ?_
    refine gr_X6_21 (pc := 14) (b0 + 4) C dX6_allApplause_14 (cTr_0 hb0) rfl ?_
    refine r_iload_n (pc := 17) C dX6_allApplause_17 rfl 2 rfl ?_
    refine r_ald (pc := 18) C dX6_allApplause_18 h (cTr_4 hb0) (fun v1 h => ?_)
    refine r_iadd (pc := 19) C dX6_allApplause_19 ?_
    refine r_lv h (fun v2 h => ?_)
    refine r_istore_n (L' := [(1, .int v2), (0, .ref (G.2 b0)), (2, .int x2)]) (pc := 20) C dX6_allApplause_20 rfl (by decide) rfl ?_
    refine r_iinc (v := (x2 + (1:Int32))) (L' := [(2, .int (x2 + (1:Int32))), (1, .int v2), (0, .ref (G.2 b0))]) (pc := 21) C dX6_allApplause_21 2 rfl rfl (by decide) rfl ?_
    refine r_goto (pc := 24) C 4 dX6_allApplause_24 (by decide) ?_
    exact r_sub C [2, 1, 0] rfl (hrec4 _ _ h)
def f_X6_allApplause_4 (b0 : Nat) (w : Wd) : Int32 → Int32 → Option (Int32) := lp (fun _ _ => none) (fun rec => fb_X6_allApplause_4 b0 w rec) FU
theorem b_X6_allApplause_4 {G : Gv} {V : Vt} {b0 : Nat} {w : Wd} {res : Int32} (hb0 : isTr b0 = true)  (C : CX cX6_allApplause RX6 G SX 3 1 (some FieldType.int) (some (.int res)) w V) : ∀ (x1 : Int32) (x2 : Int32), (f_X6_allApplause_4 b0 w) x1 x2 = some res → V w 4 [(0, .ref (G.2 b0)), (1, .int x1), (2, .int x2)] [] :=
  lp_ind (P := fun (g : Int32 → Int32 → Option (Int32)) => ∀ (x1 : Int32) (x2 : Int32), g x1 x2 = some res → V w 4 [(0, .ref (G.2 b0)), (1, .int x1), (2, .int x2)] []) (fun _ _ h => by cases h) (fun g hg _ _ h => bb_X6_allApplause_4 hb0 C hg h) FU
def f_X6_allApplause (b0 : Nat) (w : Wd) : Option (Int32) := f_X6_allApplause_4 b0 w (0:Int32) (0:Int32)
set_option maxRecDepth 20000 in
theorem b_X6_allApplause_E {G : Gv} {V : Vt} {b0 : Nat} {w : Wd} {res : Int32} (hb0 : isTr b0 = true)  (C : CX cX6_allApplause RX6 G SX 3 1 (some FieldType.int) (some (.int res)) w V) (h : f_X6_allApplause b0 w = some res) : V w 0 [(0, .ref (G.2 b0))] [] := by
  unfold f_X6_allApplause at h
  refine r_iconst (v := (0:Int32)) (pc := 0) C dX6_allApplause_0 (by decide) ?_
  refine r_istore_n (L' := [(1, .int (0:Int32)), (0, .ref (G.2 b0))]) (pc := 1) C dX6_allApplause_1 rfl (by decide) rfl ?_
  refine r_iconst (v := (0:Int32)) (pc := 2) C dX6_allApplause_2 (by decide) ?_
  refine r_istore_n (L' := [(2, .int (0:Int32)), (1, .int (0:Int32)), (0, .ref (G.2 b0))]) (pc := 3) C dX6_allApplause_3 rfl (by decide) rfl ?_
  exact r_sub C [2, 1, 0] rfl (b_X6_allApplause_4 hb0 C _ _ h)
theorem c_X6_allApplause {G : Gv} {b0 : Nat} {w : Wd} {res : Int32} (hb0 : isTr b0 = true) (h : f_X6_allApplause b0 w = some res) (l : Launch) : MC l yX6_allApplause cX6_allApplause 3 (some FieldType.int) 1 G SX w [.ref (G.2 b0)] (some (.int res)) w := mc_of (by decide +kernel) rfl (Nat.le_of_ble_eq_true rfl) rfl (fun V C => b_X6_allApplause_E hb0 C h) l
theorem cv_X6_88 {cc : ByteArray} {G : Gv} {n hc : Nat} {rt : Option FieldType} {rv : Option Value} {w0 : Wd} {V : Vt} {w : Wd} {pc : Nat} {L : List (Nat × Value)} {rest : List Value} {α : Type} {res : α} {b0 : Nat} {p1 : Int32} {K : Int32 → Option α} (C : CX cc RX6 G SX n hc rt rv w0 V) (hd : decode cc pc = .ok (.invokevirtual 88, 3)) (hb0 : isTr b0 = true) (h : bd (f_X6_whoKnow b0 w p1) K = some res) (hR : 2 + 1 ≤ hc) (hr : (rest.map fun v => v.category).sum ≤ 8) (kk : ∀ q, K q = some res → V w (pc + 3) L (.int q :: rest)) : V w pc L (.int p1 :: .ref (G.2 b0) :: rest) := r_callV (As := [.int p1]) (rest := rest) (rvf := fun q => (some (.int q))) (wf := fun q => w) C hd h ql_X6_88 qi_X6_whoKnow qs_X6_whoKnow qn_X6 qc_X6_whoKnow ⟨rfl, by decide +kernel, by decide +kernel, (by decide +kernel : (parseMethodDescriptor yX6_whoKnow.desc).map (fun d => d.parameters.length) = some 1)⟩ ⟨hR, by decide⟩ (cTr_0 hb0) rfl (fun q hq l => c_X6_whoKnow hb0 hq l) rfl hr kk
theorem cv_X6_91 {cc : ByteArray} {G : Gv} {n hc : Nat} {rt : Option FieldType} {rv : Option Value} {w0 : Wd} {V : Vt} {w : Wd} {pc : Nat} {L : List (Nat × Value)} {rest : List Value} {α : Type} {res : α} {p0 : Int32} {K : Int32 → Option α} (C : CX cc RX6 G SX n hc rt rv w0 V) (hd : decode cc pc = .ok (.invokestatic 91, 3)) (h : bd (f_J6_bitCount_0f7a4 p0) K = some res) (hR : 1 + 1 ≤ hc) (hr : (rest.map fun v => v.category).sum ≤ 8) (kk : ∀ q, K q = some res → V w (pc + 3) L (.int q :: rest)) : V w pc L (.int p0 :: rest) := r_callS (As := [.int p0]) (rest := rest) (rvf := fun q => (some (.int q))) (wf := fun q => w) C hd h ql_X6_91 qt_J6_bitCount_0f7a4 qn_J6 qc_J6_bitCount_0f7a4 ⟨by decide +kernel, by decide +kernel, (by decide +kernel : (parseMethodDescriptor yJ6_bitCount_0f7a4.desc).map (fun d => d.parameters.length) = some 1)⟩ ⟨hR, by decide⟩ (fun q hq l => c_J6_bitCount_0f7a4 hq l) rfl hr kk
theorem cv_X6_96 {cc : ByteArray} {G : Gv} {n hc : Nat} {rt : Option FieldType} {rv : Option Value} {w0 : Wd} {V : Vt} {w : Wd} {pc : Nat} {L : List (Nat × Value)} {rest : List Value} {α : Type} {res : α} {b0 : Nat} {p1 : Int32} {p2 : Int32} {p3 : Int32} {K : Int32 × Wd → Option α} (C : CX cc RX6 G SX n hc rt rv w0 V) (hd : decode cc pc = .ok (.invokevirtual 96, 3)) (hb0 : isLa b0 = true) (h : bd (f_X2_gives b0 p1 p2 p3 w) K = some res) (hR : 3 + 1 ≤ hc) (hr : (rest.map fun v => v.category).sum ≤ 8) (kk : ∀ q, K q = some res → V q.2 (pc + 3) L (.int q.1 :: rest)) : V w pc L (.int p3 :: .int p2 :: .int p1 :: .ref (G.2 b0) :: rest) := r_callV (As := [.int p1, .int p2, .int p3]) (rest := rest) (rvf := fun q => (some (.int q.1))) (wf := fun q => q.2) C hd h ql_X6_96 qi_X2_gives qs_X2_gives qn_X2 qc_X2_gives ⟨rfl, by decide +kernel, by decide +kernel, (by decide +kernel : (parseMethodDescriptor yX2_gives.desc).map (fun d => d.parameters.length) = some 3)⟩ ⟨hR, by decide⟩ (cLa_0 hb0) rfl (fun q hq l => c_X2_gives hb0 hq l) rfl hr kk
def f_X6_clapsFor (b0 : Nat) (b2 : Nat) (p1 : Int32) (w : Wd) : Option (Int32 × Wd) := ald w (b0 + 3) 5 p1 (fun v1 => ald w (b0 + 2) 5 p1 (fun v2 => bd (f_X6_whoKnow b0 w p1) (fun q3 => bd (f_J6_bitCount_0f7a4 q3) (fun q4 => bd (f_X2_gives b2 v1 v2 q4 w) (fun q5 => some (q5.1, q5.2))))))
set_option maxRecDepth 20000 in
theorem b_X6_clapsFor_E {G : Gv} {V : Vt} {b0 : Nat} {b2 : Nat} {res : Int32 × Wd} (hb0 : isTr b0 = true) (hb2 : isLa b2 = true)  (C : CX cX6_clapsFor RX6 G SX 3 4 (some FieldType.int) (some (.int res.1)) res.2 V) {p1 : Int32} {w : Wd} (h : f_X6_clapsFor b0 b2 p1 w = some res) : V w 0 [(0, .ref (G.2 b0)), (1, .int p1), (2, .ref (G.2 b2))] [] := by
  unfold f_X6_clapsFor at h
  refine r_aload_n (pc := 0) C dX6_clapsFor_0 rfl 2 rfl ?_
  refine r_aload_n (pc := 1) C dX6_clapsFor_1 rfl 0 rfl ?_
  refine gr_X6_18 (pc := 2) (b0 + 3) C dX6_clapsFor_2 (cTr_0 hb0) rfl ?_
  refine r_iload_n (pc := 5) C dX6_clapsFor_5 rfl 1 rfl ?_
  refine r_ald (pc := 6) C dX6_clapsFor_6 h (cTr_3 hb0) (fun v1 h => ?_)
  refine r_aload_n (pc := 7) C dX6_clapsFor_7 rfl 0 rfl ?_
  refine gr_X6_15 (pc := 8) (b0 + 2) C dX6_clapsFor_8 (cTr_0 hb0) rfl ?_
  refine r_iload_n (pc := 11) C dX6_clapsFor_11 rfl 1 rfl ?_
  refine r_ald (pc := 12) C dX6_clapsFor_12 h (cTr_2 hb0) (fun v2 h => ?_)
  refine r_aload_n (pc := 13) C dX6_clapsFor_13 rfl 0 rfl ?_
  refine r_iload_n (pc := 14) C dX6_clapsFor_14 rfl 1 rfl ?_
  refine cv_X6_88 (pc := 15) C dX6_clapsFor_15 hb0 h (by decide) (Nat.le_of_ble_eq_true rfl) (fun q3 h => ?_)
  refine cv_X6_91 (pc := 18) C dX6_clapsFor_18  h (by decide) (Nat.le_of_ble_eq_true rfl) (fun q4 h => ?_)
  refine cv_X6_96 (pc := 21) C dX6_clapsFor_21 hb2 h (by decide) (Nat.le_of_ble_eq_true rfl) (fun q5 h => ?_)
  exact r_iretE (pc := 24) C dX6_clapsFor_24 h
theorem c_X6_clapsFor {G : Gv} {b0 : Nat} {b2 : Nat} {p1 : Int32} {w : Wd} {res : Int32 × Wd} (hb0 : isTr b0 = true) (hb2 : isLa b2 = true) (h : f_X6_clapsFor b0 b2 p1 w = some res) (l : Launch) : MC l yX6_clapsFor cX6_clapsFor 3 (some FieldType.int) 4 G SX w [.ref (G.2 b0), .int p1, .ref (G.2 b2)] (some (.int res.1)) res.2 := mc_of (by decide +kernel) rfl (Nat.le_of_ble_eq_true rfl) rfl (fun V C => b_X6_clapsFor_E hb0 hb2 C h) l
def f_X6_wageFor (b0 : Nat) (b3 : Nat) (p1 : Int32) (p2 : Int32) (w : Wd) : Option (Int32 × Wd) := ald w (b0 + 3) 5 p1 (fun v1 => ald w (b0 + 6) 6 p2 (fun v2 => bd (f_J6_bitCount_0f7a4 v2) (fun q3 => bd (f_X2_gives b3 v1 q3 (w b0 12) w) (fun q4 => some (q4.1, q4.2)))))
set_option maxRecDepth 20000 in
theorem b_X6_wageFor_E {G : Gv} {V : Vt} {b0 : Nat} {b3 : Nat} {res : Int32 × Wd} (hb0 : isTr b0 = true) (hb3 : isLa b3 = true)  (C : CX cX6_wageFor RX6 G SX 4 4 (some FieldType.int) (some (.int res.1)) res.2 V) {p1 : Int32} {p2 : Int32} {w : Wd} (h : f_X6_wageFor b0 b3 p1 p2 w = some res) : V w 0 [(0, .ref (G.2 b0)), (1, .int p1), (2, .int p2), (3, .ref (G.2 b3))] [] := by
  unfold f_X6_wageFor at h
  refine r_aload_n (pc := 0) C dX6_wageFor_0 rfl 3 rfl ?_
  refine r_aload_n (pc := 1) C dX6_wageFor_1 rfl 0 rfl ?_
  refine gr_X6_18 (pc := 2) (b0 + 3) C dX6_wageFor_2 (cTr_0 hb0) rfl ?_
  refine r_iload_n (pc := 5) C dX6_wageFor_5 rfl 1 rfl ?_
  refine r_ald (pc := 6) C dX6_wageFor_6 h (cTr_3 hb0) (fun v1 h => ?_)
  refine r_aload_n (pc := 7) C dX6_wageFor_7 rfl 0 rfl ?_
  refine gr_X6_27 (pc := 8) (b0 + 6) C dX6_wageFor_8 (cTr_0 hb0) rfl ?_
  refine r_iload_n (pc := 11) C dX6_wageFor_11 rfl 2 rfl ?_
  refine r_ald (pc := 12) C dX6_wageFor_12 h (cTr_6 hb0) (fun v2 h => ?_)
  refine cv_X6_91 (pc := 13) C dX6_wageFor_13  h (by decide) (Nat.le_of_ble_eq_true rfl) (fun q3 h => ?_)
  refine r_aload_n (pc := 16) C dX6_wageFor_16 rfl 0 rfl ?_
  refine gi_X6_55 (pc := 17) C dX6_wageFor_17 (cTr_0 hb0) rfl ?_
  refine cv_X6_96 (pc := 20) C dX6_wageFor_20 hb3 h (by decide) (Nat.le_of_ble_eq_true rfl) (fun q4 h => ?_)
  exact r_iretE (pc := 23) C dX6_wageFor_23 h
theorem c_X6_wageFor {G : Gv} {b0 : Nat} {b3 : Nat} {p1 : Int32} {p2 : Int32} {w : Wd} {res : Int32 × Wd} (hb0 : isTr b0 = true) (hb3 : isLa b3 = true) (h : f_X6_wageFor b0 b3 p1 p2 w = some res) (l : Launch) : MC l yX6_wageFor cX6_wageFor 4 (some FieldType.int) 4 G SX w [.ref (G.2 b0), .int p1, .int p2, .ref (G.2 b3)] (some (.int res.1)) res.2 := mc_of (by decide +kernel) rfl (Nat.le_of_ble_eq_true rfl) rfl (fun V C => b_X6_wageFor_E hb0 hb3 C h) l
def f_X6_partsIn_29 (b0 : Nat) (b1 : Nat) (w : Wd) (rec5 : Int32 → Int32 → Int32 → Option (Int32)) (x2 : Int32) (x3 : Int32) (x4 : Int32) : Option (Int32) := rec5 x2 x3 (x4 + (1:Int32))
set_option maxRecDepth 20000 in
theorem b_X6_partsIn_29 {G : Gv} {V : Vt} {b0 : Nat} {b1 : Nat} {w : Wd} {rec5 : Int32 → Int32 → Int32 → Option (Int32)} {res : Int32} (hb0 : isTr b0 = true) (hb1 : isAr b1 = true)  (C : CX cX6_partsIn RX6 G SX 5 1 (some FieldType.int) (some (.int res)) w V) (hrec5 : ∀ (x2 : Int32) (x3 : Int32) (x4 : Int32), rec5 x2 x3 x4 = some res → V w 5 [(0, .ref (G.2 b0)), (1, .ref (G.2 b1)), (2, .int x2), (3, .int x3), (4, .int x4)] []) {x2 : Int32} {x3 : Int32} {x4 : Int32} (h : f_X6_partsIn_29 b0 b1 w rec5 x2 x3 x4 = some res) : V w 29 [(0, .ref (G.2 b0)), (1, .ref (G.2 b1)), (2, .int x2), (3, .int x3), (4, .int x4)] [] := by
  unfold f_X6_partsIn_29 at h
  refine r_iinc (v := (x4 + (1:Int32))) (L' := [(4, .int (x4 + (1:Int32))), (0, .ref (G.2 b0)), (1, .ref (G.2 b1)), (2, .int x2), (3, .int x3)]) (pc := 29) C dX6_partsIn_29 4 rfl rfl (by decide) rfl ?_
  refine r_goto (pc := 32) C 5 dX6_partsIn_32 (by decide) ?_
  exact r_sub C [1, 2, 3, 4, 0] rfl (hrec5 _ _ _ h)
def fb_X6_partsIn_5 (b0 : Nat) (b1 : Nat) (w : Wd) (rec5 : Int32 → Int32 → Int32 → Option (Int32)) (x2 : Int32) (x3 : Int32) (x4 : Int32) : Option (Int32) := (if (w b0 0) ≤ x4 then some x3 else ald w b1 (lenX b1) x4 (fun v1 => (if ¬ v1 = x2 then f_X6_partsIn_29 b0 b1 w rec5 x2 x3 x4 else lv (x3 ||| ((1:Int32) <<< (x4 &&& 31))) (fun v2 => f_X6_partsIn_29 b0 b1 w rec5 x2 v2 x4))))
set_option maxRecDepth 20000 in
theorem bb_X6_partsIn_5 {G : Gv} {V : Vt} {b0 : Nat} {b1 : Nat} {w : Wd} {rec5 : Int32 → Int32 → Int32 → Option (Int32)} {res : Int32} (hb0 : isTr b0 = true) (hb1 : isAr b1 = true)  (C : CX cX6_partsIn RX6 G SX 5 1 (some FieldType.int) (some (.int res)) w V) (hrec5 : ∀ (x2 : Int32) (x3 : Int32) (x4 : Int32), rec5 x2 x3 x4 = some res → V w 5 [(0, .ref (G.2 b0)), (1, .ref (G.2 b1)), (2, .int x2), (3, .int x3), (4, .int x4)] []) {x2 : Int32} {x3 : Int32} {x4 : Int32} (h : fb_X6_partsIn_5 b0 b1 w rec5 x2 x3 x4 = some res) : V w 5 [(0, .ref (G.2 b0)), (1, .ref (G.2 b1)), (2, .int x2), (3, .int x3), (4, .int x4)] [] := by
  unfold fb_X6_partsIn_5 at h
  refine r_iload (pc := 5) C dX6_partsIn_5 4 rfl ?_
  refine r_aload_n (pc := 7) C dX6_partsIn_7 rfl 0 rfl ?_
  refine gi_X6_36 (pc := 8) C dX6_partsIn_8 (cTr_0 hb0) rfl ?_
  refine r_icmp_ge (pc := 11) C 35 dX6_partsIn_11 (by decide) h (fun h => ?_) (fun h => ?_)
  · refine r_iload_n (pc := 35) C dX6_partsIn_35 rfl 3 rfl ?_
    exact r_iretP (pc := 36) C dX6_partsIn_36 h
  · refine r_aload_n (pc := 14) C dX6_partsIn_14 rfl 1 rfl ?_
    refine r_iload (pc := 15) C dX6_partsIn_15 4 rfl ?_
    refine r_ald (pc := 17) C dX6_partsIn_17 h (cAr_0 hb1) (fun v1 h => ?_)
    refine r_iload_n (pc := 18) C dX6_partsIn_18 rfl 2 rfl ?_
    refine r_icmp_ne (pc := 19) C 29 dX6_partsIn_19 (by decide) h (fun h => ?_) (fun h => ?_)
    · exact r_sub C [0, 1, 2, 3, 4] rfl (b_X6_partsIn_29 hb0 hb1 C hrec5 h)
    · refine r_iload_n (pc := 22) C dX6_partsIn_22 rfl 3 rfl ?_
      refine r_iconst (v := (1:Int32)) (pc := 23) C dX6_partsIn_23 (by decide) ?_
      refine r_iload (pc := 24) C dX6_partsIn_24 4 rfl ?_
      refine r_ishl (pc := 26) C dX6_partsIn_26 ?_
      refine r_ior (pc := 27) C dX6_partsIn_27 ?_
      refine r_lv h (fun v2 h => ?_)
      refine r_istore_n (L' := [(3, .int v2), (0, .ref (G.2 b0)), (1, .ref (G.2 b1)), (2, .int x2), (4, .int x4)]) (pc := 28) C dX6_partsIn_28 rfl (by decide) rfl ?_
      exact r_sub C [1, 2, 3, 0, 4] rfl (b_X6_partsIn_29 hb0 hb1 C hrec5 h)
def f_X6_partsIn_5 (b0 : Nat) (b1 : Nat) (w : Wd) : Int32 → Int32 → Int32 → Option (Int32) := lp (fun _ _ _ => none) (fun rec => fb_X6_partsIn_5 b0 b1 w rec) FU
theorem b_X6_partsIn_5 {G : Gv} {V : Vt} {b0 : Nat} {b1 : Nat} {w : Wd} {res : Int32} (hb0 : isTr b0 = true) (hb1 : isAr b1 = true)  (C : CX cX6_partsIn RX6 G SX 5 1 (some FieldType.int) (some (.int res)) w V) : ∀ (x2 : Int32) (x3 : Int32) (x4 : Int32), (f_X6_partsIn_5 b0 b1 w) x2 x3 x4 = some res → V w 5 [(0, .ref (G.2 b0)), (1, .ref (G.2 b1)), (2, .int x2), (3, .int x3), (4, .int x4)] [] :=
  lp_ind (P := fun (g : Int32 → Int32 → Int32 → Option (Int32)) => ∀ (x2 : Int32) (x3 : Int32) (x4 : Int32), g x2 x3 x4 = some res → V w 5 [(0, .ref (G.2 b0)), (1, .ref (G.2 b1)), (2, .int x2), (3, .int x3), (4, .int x4)] []) (fun _ _ _ h => by cases h) (fun g hg _ _ _ h => bb_X6_partsIn_5 hb0 hb1 C hg h) FU
def f_X6_partsIn (b0 : Nat) (b1 : Nat) (w : Wd) (p2 : Int32) : Option (Int32) := f_X6_partsIn_5 b0 b1 w p2 (0:Int32) (0:Int32)
set_option maxRecDepth 20000 in
theorem b_X6_partsIn_E {G : Gv} {V : Vt} {b0 : Nat} {b1 : Nat} {w : Wd} {res : Int32} (hb0 : isTr b0 = true) (hb1 : isAr b1 = true)  (C : CX cX6_partsIn RX6 G SX 5 1 (some FieldType.int) (some (.int res)) w V) {p2 : Int32} (h : f_X6_partsIn b0 b1 w p2 = some res) : V w 0 [(0, .ref (G.2 b0)), (1, .ref (G.2 b1)), (2, .int p2)] [] := by
  unfold f_X6_partsIn at h
  refine r_iconst (v := (0:Int32)) (pc := 0) C dX6_partsIn_0 (by decide) ?_
  refine r_istore_n (L' := [(3, .int (0:Int32)), (0, .ref (G.2 b0)), (1, .ref (G.2 b1)), (2, .int p2)]) (pc := 1) C dX6_partsIn_1 rfl (by decide) rfl ?_
  refine r_iconst (v := (0:Int32)) (pc := 2) C dX6_partsIn_2 (by decide) ?_
  refine r_istore (L' := [(4, .int (0:Int32)), (3, .int (0:Int32)), (0, .ref (G.2 b0)), (1, .ref (G.2 b1)), (2, .int p2)]) (pc := 3) C dX6_partsIn_3 (by decide) rfl ?_
  exact r_sub C [2, 3, 4, 1, 0] rfl (b_X6_partsIn_5 hb0 hb1 C _ _ _ h)
theorem c_X6_partsIn {G : Gv} {b0 : Nat} {b1 : Nat} {p2 : Int32} {w : Wd} {res : Int32} (hb0 : isTr b0 = true) (hb1 : isAr b1 = true) (h : f_X6_partsIn b0 b1 w p2 = some res) (l : Launch) : MC l yX6_partsIn cX6_partsIn 5 (some FieldType.int) 1 G SX w [.ref (G.2 b0), .ref (G.2 b1), .int p2] (some (.int res)) w := mc_of (by decide +kernel) rfl (Nat.le_of_ble_eq_true rfl) rfl (fun V C => b_X6_partsIn_E hb0 hb1 C h) l
theorem cv_X6_126 {cc : ByteArray} {G : Gv} {n hc : Nat} {rt : Option FieldType} {rv : Option Value} {w0 : Wd} {V : Vt} {w : Wd} {pc : Nat} {L : List (Nat × Value)} {rest : List Value} {α : Type} {res : α} {b0 : Nat} {K : Int32 → Option α} (C : CX cc RX6 G SX n hc rt rv w0 V) (hd : decode cc pc = .ok (.invokevirtual 126, 3)) (hb0 : isTr b0 = true) (h : bd (f_X6_allParts b0 w) K = some res) (hR : 1 + 1 ≤ hc) (hr : (rest.map fun v => v.category).sum ≤ 8) (kk : ∀ q, K q = some res → V w (pc + 3) L (.int q :: rest)) : V w pc L (.ref (G.2 b0) :: rest) := r_callV (As := []) (rest := rest) (rvf := fun q => (some (.int q))) (wf := fun q => w) C hd h ql_X6_126 qi_X6_allParts qs_X6_allParts qn_X6 qc_X6_allParts ⟨rfl, by decide +kernel, by decide +kernel, (by decide +kernel : (parseMethodDescriptor yX6_allParts.desc).map (fun d => d.parameters.length) = some 0)⟩ ⟨hR, by decide⟩ (cTr_0 hb0) rfl (fun q hq l => c_X6_allParts hb0 hq l) rfl hr kk
def f_X6_learnFrom (b0 : Nat) (p1 : Int32) (p2 : Int32) (w : Wd) : Option (Wd) := ald w (b0 + 6) 6 p1 (fun v1 => ast w (b0 + 6) 6 p1 (v1 ||| p2) (fun w2 => ald w2 (b0 + 5) 6 p1 (fun v3 => bd (f_X6_allParts b0 w2) (fun q4 => ast w2 (b0 + 5) 6 p1 (v3 ||| (((p2 <<< ((1:Int32) &&& 31)) ||| (p2 >>> ((1:Int32) &&& 31))) &&& q4)) (fun w5 => some w5)))))
set_option maxRecDepth 20000 in
theorem b_X6_learnFrom_E {G : Gv} {V : Vt} {b0 : Nat} {res : Wd} (hb0 : isTr b0 = true)  (C : CX cX6_learnFrom RX6 G SX 3 2 none none res V) {p1 : Int32} {p2 : Int32} {w : Wd} (h : f_X6_learnFrom b0 p1 p2 w = some res) : V w 0 [(0, .ref (G.2 b0)), (1, .int p1), (2, .int p2)] [] := by
  unfold f_X6_learnFrom at h
  refine r_aload_n (pc := 0) C dX6_learnFrom_0 rfl 0 rfl ?_
  refine gr_X6_27 (pc := 1) (b0 + 6) C dX6_learnFrom_1 (cTr_0 hb0) rfl ?_
  refine r_iload_n (pc := 4) C dX6_learnFrom_4 rfl 1 rfl ?_
  refine r_dup2 (pc := 5) C dX6_learnFrom_5 rfl rfl ?_
  refine r_ald (pc := 6) C dX6_learnFrom_6 h (cTr_6 hb0) (fun v1 h => ?_)
  refine r_iload_n (pc := 7) C dX6_learnFrom_7 rfl 2 rfl ?_
  refine r_ior (pc := 8) C dX6_learnFrom_8 ?_
  refine r_ast (pc := 9) C dX6_learnFrom_9 h (cTr_6 hb0) (fun w2 h => ?_)
  refine r_aload_n (pc := 10) C dX6_learnFrom_10 rfl 0 rfl ?_
  refine gr_X6_24 (pc := 11) (b0 + 5) C dX6_learnFrom_11 (cTr_0 hb0) rfl ?_
  refine r_iload_n (pc := 14) C dX6_learnFrom_14 rfl 1 rfl ?_
  refine r_dup2 (pc := 15) C dX6_learnFrom_15 rfl rfl ?_
  refine r_ald (pc := 16) C dX6_learnFrom_16 h (cTr_5 hb0) (fun v3 h => ?_)
  refine r_iload_n (pc := 17) C dX6_learnFrom_17 rfl 2 rfl ?_
  refine r_iconst (v := (1:Int32)) (pc := 18) C dX6_learnFrom_18 (by decide) ?_
  refine r_ishl (pc := 19) C dX6_learnFrom_19 ?_
  refine r_iload_n (pc := 20) C dX6_learnFrom_20 rfl 2 rfl ?_
  refine r_iconst (v := (1:Int32)) (pc := 21) C dX6_learnFrom_21 (by decide) ?_
  refine r_ishr (pc := 22) C dX6_learnFrom_22 ?_
  refine r_ior (pc := 23) C dX6_learnFrom_23 ?_
  refine r_aload_n (pc := 24) C dX6_learnFrom_24 rfl 0 rfl ?_
  refine cv_X6_126 (pc := 25) C dX6_learnFrom_25 hb0 h (by decide) (Nat.le_of_ble_eq_true rfl) (fun q4 h => ?_)
  refine r_iand (pc := 28) C dX6_learnFrom_28 ?_
  refine r_ior (pc := 29) C dX6_learnFrom_29 ?_
  refine r_ast (pc := 30) C dX6_learnFrom_30 h (cTr_5 hb0) (fun w5 h => ?_)
  exact r_vretE (pc := 31) C dX6_learnFrom_31 h
theorem c_X6_learnFrom {G : Gv} {b0 : Nat} {p1 : Int32} {p2 : Int32} {w : Wd} {res : Wd} (hb0 : isTr b0 = true) (h : f_X6_learnFrom b0 p1 p2 w = some res) (l : Launch) : MC l yX6_learnFrom cX6_learnFrom 3 none 2 G SX w [.ref (G.2 b0), .int p1, .int p2] none res := mc_of (by decide +kernel) rfl (Nat.le_of_ble_eq_true rfl) rfl (fun V C => b_X6_learnFrom_E hb0 C h) l
theorem cv_X6_102 {cc : ByteArray} {G : Gv} {n hc : Nat} {rt : Option FieldType} {rv : Option Value} {w0 : Wd} {V : Vt} {w : Wd} {pc : Nat} {L : List (Nat × Value)} {rest : List Value} {α : Type} {res : α} {b0 : Nat} {p1 : Int32} {K : Int32 → Option α} (C : CX cc RX6 G SX n hc rt rv w0 V) (hd : decode cc pc = .ok (.invokevirtual 102, 3)) (hb0 : isTr b0 = true) (h : bd (f_X6_hasPlayer b0 w p1) K = some res) (hR : 1 + 1 ≤ hc) (hr : (rest.map fun v => v.category).sum ≤ 8) (kk : ∀ q, K q = some res → V w (pc + 3) L (.int q :: rest)) : V w pc L (.int p1 :: .ref (G.2 b0) :: rest) := r_callV (As := [.int p1]) (rest := rest) (rvf := fun q => (some (.int q))) (wf := fun q => w) C hd h ql_X6_102 qi_X6_hasPlayer qs_X6_hasPlayer qn_X6 qc_X6_hasPlayer ⟨rfl, by decide +kernel, by decide +kernel, (by decide +kernel : (parseMethodDescriptor yX6_hasPlayer.desc).map (fun d => d.parameters.length) = some 1)⟩ ⟨hR, by decide⟩ (cTr_0 hb0) rfl (fun q hq l => c_X6_hasPlayer hb0 hq l) rfl hr kk
theorem cv_X6_105 {cc : ByteArray} {G : Gv} {n hc : Nat} {rt : Option FieldType} {rv : Option Value} {w0 : Wd} {V : Vt} {w : Wd} {pc : Nat} {L : List (Nat × Value)} {rest : List Value} {α : Type} {res : α} {b0 : Nat} {b2 : Nat} {p1 : Int32} {K : Int32 × Wd → Option α} (C : CX cc RX6 G SX n hc rt rv w0 V) (hd : decode cc pc = .ok (.invokevirtual 105, 3)) (hb0 : isTr b0 = true) (hb2 : isLa b2 = true) (h : bd (f_X6_clapsFor b0 b2 p1 w) K = some res) (hR : 4 + 1 ≤ hc) (hr : (rest.map fun v => v.category).sum ≤ 8) (kk : ∀ q, K q = some res → V q.2 (pc + 3) L (.int q.1 :: rest)) : V w pc L (.ref (G.2 b2) :: .int p1 :: .ref (G.2 b0) :: rest) := r_callV (As := [.int p1, .ref (G.2 b2)]) (rest := rest) (rvf := fun q => (some (.int q.1))) (wf := fun q => q.2) C hd h ql_X6_105 qi_X6_clapsFor qs_X6_clapsFor qn_X6 qc_X6_clapsFor ⟨rfl, by decide +kernel, by decide +kernel, (by decide +kernel : (parseMethodDescriptor yX6_clapsFor.desc).map (fun d => d.parameters.length) = some 2)⟩ ⟨hR, by decide⟩ (cTr_0 hb0) rfl (fun q hq l => c_X6_clapsFor hb0 hb2 hq l) rfl hr kk
theorem cv_X6_116 {cc : ByteArray} {G : Gv} {n hc : Nat} {rt : Option FieldType} {rv : Option Value} {w0 : Wd} {V : Vt} {w : Wd} {pc : Nat} {L : List (Nat × Value)} {rest : List Value} {α : Type} {res : α} {b0 : Nat} {b3 : Nat} {p1 : Int32} {p2 : Int32} {K : Int32 × Wd → Option α} (C : CX cc RX6 G SX n hc rt rv w0 V) (hd : decode cc pc = .ok (.invokevirtual 116, 3)) (hb0 : isTr b0 = true) (hb3 : isLa b3 = true) (h : bd (f_X6_wageFor b0 b3 p1 p2 w) K = some res) (hR : 4 + 1 ≤ hc) (hr : (rest.map fun v => v.category).sum ≤ 8) (kk : ∀ q, K q = some res → V q.2 (pc + 3) L (.int q.1 :: rest)) : V w pc L (.ref (G.2 b3) :: .int p2 :: .int p1 :: .ref (G.2 b0) :: rest) := r_callV (As := [.int p1, .int p2, .ref (G.2 b3)]) (rest := rest) (rvf := fun q => (some (.int q.1))) (wf := fun q => q.2) C hd h ql_X6_116 qi_X6_wageFor qs_X6_wageFor qn_X6 qc_X6_wageFor ⟨rfl, by decide +kernel, by decide +kernel, (by decide +kernel : (parseMethodDescriptor yX6_wageFor.desc).map (fun d => d.parameters.length) = some 3)⟩ ⟨hR, by decide⟩ (cTr_0 hb0) rfl (fun q hq l => c_X6_wageFor hb0 hb3 hq l) rfl hr kk
theorem cv_X6_120 {cc : ByteArray} {G : Gv} {n hc : Nat} {rt : Option FieldType} {rv : Option Value} {w0 : Wd} {V : Vt} {w : Wd} {pc : Nat} {L : List (Nat × Value)} {rest : List Value} {α : Type} {res : α} {b0 : Nat} {b1 : Nat} {p2 : Int32} {K : Int32 → Option α} (C : CX cc RX6 G SX n hc rt rv w0 V) (hd : decode cc pc = .ok (.invokevirtual 120, 3)) (hb0 : isTr b0 = true) (hb1 : isAr b1 = true) (h : bd (f_X6_partsIn b0 b1 w p2) K = some res) (hR : 1 + 1 ≤ hc) (hr : (rest.map fun v => v.category).sum ≤ 8) (kk : ∀ q, K q = some res → V w (pc + 3) L (.int q :: rest)) : V w pc L (.int p2 :: .ref (G.2 b1) :: .ref (G.2 b0) :: rest) := r_callV (As := [.ref (G.2 b1), .int p2]) (rest := rest) (rvf := fun q => (some (.int q))) (wf := fun q => w) C hd h ql_X6_120 qi_X6_partsIn qs_X6_partsIn qn_X6 qc_X6_partsIn ⟨rfl, by decide +kernel, by decide +kernel, (by decide +kernel : (parseMethodDescriptor yX6_partsIn.desc).map (fun d => d.parameters.length) = some 2)⟩ ⟨hR, by decide⟩ (cTr_0 hb0) rfl (fun q hq l => c_X6_partsIn hb0 hb1 hq l) rfl hr kk
theorem cv_X6_123 {cc : ByteArray} {G : Gv} {n hc : Nat} {rt : Option FieldType} {rv : Option Value} {w0 : Wd} {V : Vt} {w : Wd} {pc : Nat} {L : List (Nat × Value)} {rest : List Value} {α : Type} {res : α} {b0 : Nat} {p1 : Int32} {p2 : Int32} {K : Wd → Option α} (C : CX cc RX6 G SX n hc rt rv w0 V) (hd : decode cc pc = .ok (.invokevirtual 123, 3)) (hb0 : isTr b0 = true) (h : bd (f_X6_learnFrom b0 p1 p2 w) K = some res) (hR : 2 + 1 ≤ hc) (hr : (rest.map fun v => v.category).sum ≤ 8) (kk : ∀ q, K q = some res → V q (pc + 3) L (rest)) : V w pc L (.int p2 :: .int p1 :: .ref (G.2 b0) :: rest) := r_callV (As := [.int p1, .int p2]) (rest := rest) (rvf := fun q => none) (wf := fun q => q) C hd h ql_X6_123 qi_X6_learnFrom qs_X6_learnFrom qn_X6 qc_X6_learnFrom ⟨rfl, by decide +kernel, by decide +kernel, (by decide +kernel : (parseMethodDescriptor yX6_learnFrom.desc).map (fun d => d.parameters.length) = some 2)⟩ ⟨hR, by decide⟩ (cTr_0 hb0) rfl (fun q hq l => c_X6_learnFrom hb0 hq l) rfl hr kk
def f_X6_play_121 (b0 : Nat) (b1 : Nat) (b2 : Nat) (b3 : Nat) (w : Wd) : Option (Wd) := wl (updW w b0 11 (0:Int32)) (fun w1 => wl (updW w1 b0 12 ((w1 b0 12) + (1:Int32))) (fun w2 => some w2))
set_option maxRecDepth 20000 in
theorem b_X6_play_121 {G : Gv} {V : Vt} {b0 : Nat} {b1 : Nat} {b2 : Nat} {b3 : Nat} {res : Wd} (hb0 : isTr b0 = true) (hb1 : isAr b1 = true) (hb2 : isLa b2 = true) (hb3 : isLa b3 = true)  (C : CX cX6_play RX6 G SX 6 5 none none res V) {w : Wd} (h : f_X6_play_121 b0 b1 b2 b3 w = some res) : V w 121 [(0, .ref (G.2 b0))] [] := by
  unfold f_X6_play_121 at h
  refine r_aload_n (pc := 121) C dX6_play_121 rfl 0 rfl ?_
  refine r_iconst (v := (0:Int32)) (pc := 122) C dX6_play_122 (by decide) ?_
  refine pi_X6_52 (pc := 123) C dX6_play_123 (cTr_0 hb0) rfl h (fun w1 h => ?_)
  refine r_aload_n (pc := 126) C dX6_play_126 rfl 0 rfl ?_
  refine r_dup (pc := 127) C dX6_play_127 rfl ?_
  refine gi_X6_55 (pc := 128) C dX6_play_128 (cTr_0 hb0) rfl ?_
  refine r_iconst (v := (1:Int32)) (pc := 131) C dX6_play_131 (by decide) ?_
  refine r_iadd (pc := 132) C dX6_play_132 ?_
  refine pi_X6_55 (pc := 133) C dX6_play_133 (cTr_0 hb0) rfl h (fun w2 h => ?_)
  exact r_vretE (pc := 136) C dX6_play_136 h
def fb_X6_play_93 (b0 : Nat) (b1 : Nat) (b2 : Nat) (b3 : Nat) (rec93 : Int32 → Wd → Option (Wd)) (x4 : Int32) (w : Wd) : Option (Wd) := (if (w b0 5) ≤ x4 then f_X6_play_121 b0 b1 b2 b3 w else bd (f_X6_partsIn b0 b1 w x4) (fun q1 => bd (f_X6_learnFrom b0 x4 q1 w) (fun q2 => rec93 (x4 + (1:Int32)) q2)))
set_option maxRecDepth 20000 in
theorem bb_X6_play_93 {G : Gv} {V : Vt} {b0 : Nat} {b1 : Nat} {b2 : Nat} {b3 : Nat} {rec93 : Int32 → Wd → Option (Wd)} {res : Wd} (hb0 : isTr b0 = true) (hb1 : isAr b1 = true) (hb2 : isLa b2 = true) (hb3 : isLa b3 = true)  (C : CX cX6_play RX6 G SX 6 5 none none res V) (hrec93 : ∀ (x4 : Int32) (w : Wd), rec93 x4 w = some res → V w 93 [(0, .ref (G.2 b0)), (1, .ref (G.2 b1)), (4, .int x4)] []) {x4 : Int32} {w : Wd} (h : fb_X6_play_93 b0 b1 b2 b3 rec93 x4 w = some res) : V w 93 [(0, .ref (G.2 b0)), (1, .ref (G.2 b1)), (4, .int x4)] [] := by
  unfold fb_X6_play_93 at h
  refine r_iload (pc := 93) C dX6_play_93 2 rfl ?_
  refine r_aload_n (pc := 95) C dX6_play_95 rfl 0 rfl ?_
  refine gi_X6_46 (pc := 96) C dX6_play_96 (cTr_0 hb0) rfl ?_
  refine r_icmp_ge (pc := 99) C 121 dX6_play_99 (by decide) h (fun h => ?_) (fun h => ?_)
  · exact r_sub C [0] rfl (b_X6_play_121 hb0 hb1 hb2 hb3 C h)
  · refine r_aload_n (pc := 102) C dX6_play_102 rfl 0 rfl ?_
    refine r_iload (pc := 103) C dX6_play_103 2 rfl ?_
    refine r_aload_n (pc := 105) C dX6_play_105 rfl 0 rfl ?_
    refine r_aload_n (pc := 106) C dX6_play_106 rfl 1 rfl ?_
    refine r_iload (pc := 107) C dX6_play_107 2 rfl ?_
    refine cv_X6_120 (pc := 109) C dX6_play_109 hb0 hb1 h (by decide) (Nat.le_of_ble_eq_true rfl) (fun q1 h => ?_)
    refine cv_X6_123 (pc := 112) C dX6_play_112 hb0 h (by decide) (Nat.le_of_ble_eq_true rfl) (fun q2 h => ?_)
    refine r_iinc (v := (x4 + (1:Int32))) (L' := [(4, .int (x4 + (1:Int32))), (0, .ref (G.2 b0)), (1, .ref (G.2 b1))]) (pc := 115) C dX6_play_115 2 rfl rfl (by decide) rfl ?_
    refine r_goto (pc := 118) C 93 dX6_play_118 (by decide) ?_
    exact r_sub C [1, 2, 0] rfl (hrec93 _ _ h)
def f_X6_play_93 (b0 : Nat) (b1 : Nat) (b2 : Nat) (b3 : Nat) : Int32 → Wd → Option (Wd) := lp (fun _ _ => none) (fun rec => fb_X6_play_93 b0 b1 b2 b3 rec) FU
theorem b_X6_play_93 {G : Gv} {V : Vt} {b0 : Nat} {b1 : Nat} {b2 : Nat} {b3 : Nat} {res : Wd} (hb0 : isTr b0 = true) (hb1 : isAr b1 = true) (hb2 : isLa b2 = true) (hb3 : isLa b3 = true)  (C : CX cX6_play RX6 G SX 6 5 none none res V) : ∀ (x4 : Int32) (w : Wd), (f_X6_play_93 b0 b1 b2 b3) x4 w = some res → V w 93 [(0, .ref (G.2 b0)), (1, .ref (G.2 b1)), (4, .int x4)] [] :=
  lp_ind (P := fun (g : Int32 → Wd → Option (Wd)) => ∀ (x4 : Int32) (w : Wd), g x4 w = some res → V w 93 [(0, .ref (G.2 b0)), (1, .ref (G.2 b1)), (4, .int x4)] []) (fun _ _ h => by cases h) (fun g hg _ _ h => bb_X6_play_93 hb0 hb1 hb2 hb3 C hg h) FU
def f_X6_play_90 (b0 : Nat) (b1 : Nat) (b2 : Nat) (b3 : Nat) (w : Wd) : Option (Wd) := f_X6_play_93 b0 b1 b2 b3 (0:Int32) w
set_option maxRecDepth 20000 in
theorem b_X6_play_90 {G : Gv} {V : Vt} {b0 : Nat} {b1 : Nat} {b2 : Nat} {b3 : Nat} {res : Wd} (hb0 : isTr b0 = true) (hb1 : isAr b1 = true) (hb2 : isLa b2 = true) (hb3 : isLa b3 = true)  (C : CX cX6_play RX6 G SX 6 5 none none res V) {w : Wd} (h : f_X6_play_90 b0 b1 b2 b3 w = some res) : V w 90 [(0, .ref (G.2 b0)), (1, .ref (G.2 b1))] [] := by
  unfold f_X6_play_90 at h
  refine r_iconst (v := (0:Int32)) (pc := 90) C dX6_play_90 (by decide) ?_
  refine r_istore (L' := [(4, .int (0:Int32)), (0, .ref (G.2 b0)), (1, .ref (G.2 b1))]) (pc := 91) C dX6_play_91 (by decide) rfl ?_
  exact r_sub C [1, 2, 0] rfl (b_X6_play_93 hb0 hb1 hb2 hb3 C _ _ h)
def f_X6_play_84 (b0 : Nat) (b1 : Nat) (b2 : Nat) (b3 : Nat) (rec3 : Int32 → Wd → Option (Wd)) (x4 : Int32) (w : Wd) : Option (Wd) := rec3 (x4 + (1:Int32)) w
set_option maxRecDepth 20000 in
theorem b_X6_play_84 {G : Gv} {V : Vt} {b0 : Nat} {b1 : Nat} {b2 : Nat} {b3 : Nat} {rec3 : Int32 → Wd → Option (Wd)} {res : Wd} (hb0 : isTr b0 = true) (hb1 : isAr b1 = true) (hb2 : isLa b2 = true) (hb3 : isLa b3 = true)  (C : CX cX6_play RX6 G SX 6 5 none none res V) (hrec3 : ∀ (x4 : Int32) (w : Wd), rec3 x4 w = some res → V w 3 [(0, .ref (G.2 b0)), (1, .ref (G.2 b1)), (2, .ref (G.2 b2)), (3, .ref (G.2 b3)), (4, .int x4)] []) {x4 : Int32} {w : Wd} (h : f_X6_play_84 b0 b1 b2 b3 rec3 x4 w = some res) : V w 84 [(0, .ref (G.2 b0)), (1, .ref (G.2 b1)), (2, .ref (G.2 b2)), (3, .ref (G.2 b3)), (4, .int x4)] [] := by
  unfold f_X6_play_84 at h
  refine r_iinc (v := (x4 + (1:Int32))) (L' := [(4, .int (x4 + (1:Int32))), (0, .ref (G.2 b0)), (1, .ref (G.2 b1)), (2, .ref (G.2 b2)), (3, .ref (G.2 b3))]) (pc := 84) C dX6_play_84 4 rfl rfl (by decide) rfl ?_
  refine r_goto (pc := 87) C 3 dX6_play_87 (by decide) ?_
  exact r_sub C [1, 2, 3, 4, 0] rfl (hrec3 _ _ h)
def fb_X6_play_3 (b0 : Nat) (b1 : Nat) (b2 : Nat) (b3 : Nat) (rec3 : Int32 → Wd → Option (Wd)) (x4 : Int32) (w : Wd) : Option (Wd) := (if (w b0 0) ≤ x4 then f_X6_play_90 b0 b1 b2 b3 w else ald w b1 (lenX b1) x4 (fun v1 => bd (f_X6_hasPlayer b0 w v1) (fun q2 => (if q2 = 0 then f_X6_play_84 b0 b1 b2 b3 rec3 x4 w else ald w (b0 + 4) 5 x4 (fun v3 => bd (f_X6_clapsFor b0 b2 x4 w) (fun q4 => ast q4.2 (b0 + 4) 5 x4 (mmin (v3 + q4.1) (99999:Int32)) (fun w5 => ald w5 (b0 + 8) 6 v1 (fun v6 => bd (f_X6_wageFor b0 b3 x4 v1 w5) (fun q7 => ast q7.2 (b0 + 8) 6 v1 (mmin (v6 + q7.1) (9999:Int32)) (fun w8 => f_X6_play_84 b0 b1 b2 b3 rec3 x4 w8))))))))))
set_option maxRecDepth 20000 in
theorem bb_X6_play_3 {G : Gv} {V : Vt} {b0 : Nat} {b1 : Nat} {b2 : Nat} {b3 : Nat} {rec3 : Int32 → Wd → Option (Wd)} {res : Wd} (hb0 : isTr b0 = true) (hb1 : isAr b1 = true) (hb2 : isLa b2 = true) (hb3 : isLa b3 = true)  (C : CX cX6_play RX6 G SX 6 5 none none res V) (hrec3 : ∀ (x4 : Int32) (w : Wd), rec3 x4 w = some res → V w 3 [(0, .ref (G.2 b0)), (1, .ref (G.2 b1)), (2, .ref (G.2 b2)), (3, .ref (G.2 b3)), (4, .int x4)] []) {x4 : Int32} {w : Wd} (h : fb_X6_play_3 b0 b1 b2 b3 rec3 x4 w = some res) : V w 3 [(0, .ref (G.2 b0)), (1, .ref (G.2 b1)), (2, .ref (G.2 b2)), (3, .ref (G.2 b3)), (4, .int x4)] [] := by
  unfold fb_X6_play_3 at h
  refine r_iload (pc := 3) C dX6_play_3 4 rfl ?_
  refine r_aload_n (pc := 5) C dX6_play_5 rfl 0 rfl ?_
  refine gi_X6_36 (pc := 6) C dX6_play_6 (cTr_0 hb0) rfl ?_
  refine r_icmp_ge (pc := 9) C 90 dX6_play_9 (by decide) h (fun h => ?_) (fun h => ?_)
  · exact r_sub C [0, 1] rfl (b_X6_play_90 hb0 hb1 hb2 hb3 C h)
  · refine r_aload_n (pc := 12) C dX6_play_12 rfl 1 rfl ?_
    refine r_iload (pc := 13) C dX6_play_13 4 rfl ?_
    refine r_ald (pc := 15) C dX6_play_15 h (cAr_0 hb1) (fun v1 h => ?_)
    refine r_istore (L' := [(5, .int v1), (0, .ref (G.2 b0)), (1, .ref (G.2 b1)), (2, .ref (G.2 b2)), (3, .ref (G.2 b3)), (4, .int x4)]) (pc := 16) C dX6_play_16 (by decide) rfl ?_
    refine r_aload_n (pc := 18) C dX6_play_18 rfl 1 rfl ?_
    refine r_iload (pc := 19) C dX6_play_19 0 rfl ?_
    refine cv_X6_102 (pc := 21) C dX6_play_21 hb0 h (by decide) (Nat.le_of_ble_eq_true rfl) (fun q2 h => ?_)
    refine r_if_eq (pc := 24) C 84 dX6_play_24 (by decide) h (fun h => ?_) (fun h => ?_)
    · exact r_sub C [1, 2, 3, 4, 5] rfl (b_X6_play_84 hb0 hb1 hb2 hb3 C hrec3 h)
    · refine r_aload_n (pc := 27) C dX6_play_27 rfl 1 rfl ?_
      refine gr_X6_21 (pc := 28) (b0 + 4) C dX6_play_28 (cTr_0 hb0) rfl ?_
      refine r_iload (pc := 31) C dX6_play_31 5 rfl ?_
      refine r_aload_n (pc := 33) C dX6_play_33 rfl 1 rfl ?_
      refine gr_X6_21 (pc := 34) (b0 + 4) C dX6_play_34 (cTr_0 hb0) rfl ?_
      refine r_iload (pc := 37) C dX6_play_37 5 rfl ?_
      refine r_ald (pc := 39) C dX6_play_39 h (cTr_4 hb0) (fun v3 h => ?_)
      refine r_aload_n (pc := 40) C dX6_play_40 rfl 1 rfl ?_
      refine r_iload (pc := 41) C dX6_play_41 5 rfl ?_
      refine r_aload_n (pc := 43) C dX6_play_43 rfl 3 rfl ?_
      refine cv_X6_105 (pc := 44) C dX6_play_44 hb0 hb2 h (by decide) (Nat.le_of_ble_eq_true rfl) (fun q4 h => ?_)
      refine r_iadd (pc := 47) C dX6_play_47 ?_
      refine r_ldc (pc := 48) C dX6_play_48 qk_X6_109 ?_
      refine r_mmin (pc := 50) C dX6_play_50 ql_X6_110 qt_Math_min qn_J9 qc_Math_min (Nat.le_of_ble_eq_true rfl) ?_
      refine r_ast (pc := 53) C dX6_play_53 h (cTr_4 hb0) (fun w5 h => ?_)
      refine r_aload_n (pc := 54) C dX6_play_54 rfl 1 rfl ?_
      refine gr_X6_33 (pc := 55) (b0 + 8) C dX6_play_55 (cTr_0 hb0) rfl ?_
      refine r_iload (pc := 58) C dX6_play_58 0 rfl ?_
      refine r_aload_n (pc := 60) C dX6_play_60 rfl 1 rfl ?_
      refine gr_X6_33 (pc := 61) (b0 + 8) C dX6_play_61 (cTr_0 hb0) rfl ?_
      refine r_iload (pc := 64) C dX6_play_64 0 rfl ?_
      refine r_ald (pc := 66) C dX6_play_66 h (cTr_8 hb0) (fun v6 h => ?_)
      refine r_aload_n (pc := 67) C dX6_play_67 rfl 1 rfl ?_
      refine r_iload (pc := 68) C dX6_play_68 5 rfl ?_
      refine r_iload (pc := 70) C dX6_play_70 0 rfl ?_
      refine r_aload_n (pc := 72) C dX6_play_72 rfl 4 rfl ?_
      refine cv_X6_116 (pc := 73) C dX6_play_73 hb0 hb3 h (by decide) (Nat.le_of_ble_eq_true rfl) (fun q7 h => ?_)
      refine r_iadd (pc := 76) C dX6_play_76 ?_
      refine r_sipush (v := (9999:Int32)) (pc := 77) C dX6_play_77 (by decide) ?_
      refine r_mmin (pc := 80) C dX6_play_80 ql_X6_110 qt_Math_min qn_J9 qc_Math_min (Nat.le_of_ble_eq_true rfl) ?_
      refine r_ast (pc := 83) C dX6_play_83 h (cTr_8 hb0) (fun w8 h => ?_)
      exact r_sub C [1, 2, 3, 4, 5] rfl (b_X6_play_84 hb0 hb1 hb2 hb3 C hrec3 h)
def f_X6_play_3 (b0 : Nat) (b1 : Nat) (b2 : Nat) (b3 : Nat) : Int32 → Wd → Option (Wd) := lp (fun _ _ => none) (fun rec => fb_X6_play_3 b0 b1 b2 b3 rec) FU
theorem b_X6_play_3 {G : Gv} {V : Vt} {b0 : Nat} {b1 : Nat} {b2 : Nat} {b3 : Nat} {res : Wd} (hb0 : isTr b0 = true) (hb1 : isAr b1 = true) (hb2 : isLa b2 = true) (hb3 : isLa b3 = true)  (C : CX cX6_play RX6 G SX 6 5 none none res V) : ∀ (x4 : Int32) (w : Wd), (f_X6_play_3 b0 b1 b2 b3) x4 w = some res → V w 3 [(0, .ref (G.2 b0)), (1, .ref (G.2 b1)), (2, .ref (G.2 b2)), (3, .ref (G.2 b3)), (4, .int x4)] [] :=
  lp_ind (P := fun (g : Int32 → Wd → Option (Wd)) => ∀ (x4 : Int32) (w : Wd), g x4 w = some res → V w 3 [(0, .ref (G.2 b0)), (1, .ref (G.2 b1)), (2, .ref (G.2 b2)), (3, .ref (G.2 b3)), (4, .int x4)] []) (fun _ _ h => by cases h) (fun g hg _ _ h => bb_X6_play_3 hb0 hb1 hb2 hb3 C hg h) FU
def f_X6_play (b0 : Nat) (b1 : Nat) (b2 : Nat) (b3 : Nat) (w : Wd) : Option (Wd) := f_X6_play_3 b0 b1 b2 b3 (0:Int32) w
set_option maxRecDepth 20000 in
theorem b_X6_play_E {G : Gv} {V : Vt} {b0 : Nat} {b1 : Nat} {b2 : Nat} {b3 : Nat} {res : Wd} (hb0 : isTr b0 = true) (hb1 : isAr b1 = true) (hb2 : isLa b2 = true) (hb3 : isLa b3 = true)  (C : CX cX6_play RX6 G SX 6 5 none none res V) {w : Wd} (h : f_X6_play b0 b1 b2 b3 w = some res) : V w 0 [(0, .ref (G.2 b0)), (1, .ref (G.2 b1)), (2, .ref (G.2 b2)), (3, .ref (G.2 b3))] [] := by
  unfold f_X6_play at h
  refine r_iconst (v := (0:Int32)) (pc := 0) C dX6_play_0 (by decide) ?_
  refine r_istore (L' := [(4, .int (0:Int32)), (0, .ref (G.2 b0)), (1, .ref (G.2 b1)), (2, .ref (G.2 b2)), (3, .ref (G.2 b3))]) (pc := 1) C dX6_play_1 (by decide) rfl ?_
  exact r_sub C [1, 2, 3, 4, 0] rfl (b_X6_play_3 hb0 hb1 hb2 hb3 C _ _ h)
theorem c_X6_play {G : Gv} {b0 : Nat} {b1 : Nat} {b2 : Nat} {b3 : Nat} {w : Wd} {res : Wd} (hb0 : isTr b0 = true) (hb1 : isAr b1 = true) (hb2 : isLa b2 = true) (hb3 : isLa b3 = true) (h : f_X6_play b0 b1 b2 b3 w = some res) (l : Launch) : MC l yX6_play cX6_play 6 none 5 G SX w [.ref (G.2 b0), .ref (G.2 b1), .ref (G.2 b2), .ref (G.2 b3)] none res := mc_of (by decide +kernel) rfl (Nat.le_of_ble_eq_true rfl) rfl (fun V C => b_X6_play_E hb0 hb1 hb2 hb3 C h) l
theorem cv_X7_51 {cc : ByteArray} {G : Gv} {n hc : Nat} {rt : Option FieldType} {rv : Option Value} {w0 : Wd} {V : Vt} {w : Wd} {pc : Nat} {L : List (Nat × Value)} {rest : List Value} {α : Type} {res : α} {b0 : Nat} {p1 : Int32} {K : Wd → Option α} (C : CX cc RX7 G SX n hc rt rv w0 V) (hd : decode cc pc = .ok (.invokevirtual 51, 3)) (hb0 : isRo b0 = true) (h : bd (f_X4_add b0 p1 w) K = some res) (hR : 1 + 1 ≤ hc) (hr : (rest.map fun v => v.category).sum ≤ 8) (kk : ∀ q, K q = some res → V q (pc + 3) L (rest)) : V w pc L (.int p1 :: .ref (G.2 b0) :: rest) := r_callV (As := [.int p1]) (rest := rest) (rvf := fun q => none) (wf := fun q => q) C hd h ql_X7_51 qi_X4_add qs_X4_add qn_X4 qc_X4_add ⟨rfl, by decide +kernel, by decide +kernel, (by decide +kernel : (parseMethodDescriptor yX4_add.desc).map (fun d => d.parameters.length) = some 1)⟩ ⟨hR, by decide⟩ (cRo_0 hb0) rfl (fun q hq l => c_X4_add hb0 hq l) rfl hr kk
def fg_X7_own (g_own : Int32 → Int32 → Int32 → Wd → Option (Int32 × Wd)) (g_from : Int32 → Int32 → Int32 → Int32 → Wd → Option (Int32 × Wd)) (g_begun : Int32 → Int32 → Int32 → Int32 → Wd → Option (Int32 × Wd)) (p1 : Int32) (p2 : Int32) (p3 : Int32) (w : Wd) : Option (Int32 × Wd) := bd (g_from (w 67 1) p1 p2 p3 w) (fun q1 => some (q1.1, q1.2))
set_option maxRecDepth 20000 in
theorem b_X7_own_E {G : Gv} {V : Vt} {d : Nat} {g_own : Int32 → Int32 → Int32 → Wd → Option (Int32 × Wd)} {g_from : Int32 → Int32 → Int32 → Int32 → Wd → Option (Int32 × Wd)} {g_begun : Int32 → Int32 → Int32 → Int32 → Wd → Option (Int32 × Wd)} {res : Int32 × Wd} (hg_own : ∀ (w : Wd) (p1 : Int32) (p2 : Int32) (p3 : Int32) (r : Int32 × Wd), g_own p1 p2 p3 w = some r → ∀ l : Launch, MC l yX7_own cX7_own 4 (some FieldType.int) (2 + d) G SX w [.ref (G.2 67), .int p1, .int p2, .int p3] (some (.int r.1)) r.2) (hg_from : ∀ (w : Wd) (p1 : Int32) (p2 : Int32) (p3 : Int32) (p4 : Int32) (r : Int32 × Wd), g_from p1 p2 p3 p4 w = some r → ∀ l : Launch, MC l yX7_from cX7_from 8 (some FieldType.int) (2 + d) G SX w [.ref (G.2 67), .int p1, .int p2, .int p3, .int p4] (some (.int r.1)) r.2) (hg_begun : ∀ (w : Wd) (p1 : Int32) (p2 : Int32) (p3 : Int32) (p4 : Int32) (r : Int32 × Wd), g_begun p1 p2 p3 p4 w = some r → ∀ l : Launch, MC l yX7_begun cX7_begun 6 (some FieldType.int) (2 + d) G SX w [.ref (G.2 67), .int p1, .int p2, .int p3, .int p4] (some (.int r.1)) r.2) (C : CX cX7_own RX7 G SX 4 (2 + d + 1) (some FieldType.int) (some (.int res.1)) res.2 V) {p1 : Int32} {p2 : Int32} {p3 : Int32} {w : Wd} (h : fg_X7_own g_own g_from g_begun p1 p2 p3 w = some res) : V w 0 [(0, .ref (G.2 67)), (1, .int p1), (2, .int p2), (3, .int p3)] [] := by
  unfold fg_X7_own at h
  refine r_aload_n (pc := 0) C dX7_own_0 rfl 0 rfl ?_
  refine r_aload_n (pc := 1) C dX7_own_1 rfl 0 rfl ?_
  refine gi_X7_20 (pc := 2) C dX7_own_2 kx_67 rfl ?_
  refine r_iload_n (pc := 5) C dX7_own_5 rfl 1 rfl ?_
  refine r_iload_n (pc := 6) C dX7_own_6 rfl 2 rfl ?_
  refine r_iload_n (pc := 7) C dX7_own_7 rfl 3 rfl ?_
  refine r_callV (As := [.int (w 67 1), .int p1, .int p2, .int p3]) (rest := []) (rvf := fun q => (some (.int q.1))) (wf := fun q => q.2) (pc := 8) C dX7_own_8 h ql_X7_37 qi_X7_from qs_X7_from qn_X7 qc_X7_from ⟨rfl, by decide +kernel, by decide +kernel, (by decide +kernel : (parseMethodDescriptor yX7_from.desc).map (fun d => d.parameters.length) = some 4)⟩ ⟨Nat.le_refl _, by decide⟩ kx_67 rfl (fun q hq l => hg_from _ _ _ _ _ q hq l) rfl (Nat.le_of_ble_eq_true rfl) (fun q1 h => ?_)
  exact r_iretE (pc := 11) C dX7_own_11 h
def f_X7_from_35 (g_own : Int32 → Int32 → Int32 → Wd → Option (Int32 × Wd)) (g_from : Int32 → Int32 → Int32 → Int32 → Wd → Option (Int32 × Wd)) (g_begun : Int32 → Int32 → Int32 → Int32 → Wd → Option (Int32 × Wd)) (x3 : Int32) (x4 : Int32) (x5 : Int32) (x7 : Int32) (w : Wd) : Option (Int32 × Wd) := bd (g_begun x7 x5 x3 (x4 + (1:Int32)) w) (fun q1 => some (q1.1, q1.2))
set_option maxRecDepth 20000 in
theorem b_X7_from_35 {G : Gv} {V : Vt} {d : Nat} {g_own : Int32 → Int32 → Int32 → Wd → Option (Int32 × Wd)} {g_from : Int32 → Int32 → Int32 → Int32 → Wd → Option (Int32 × Wd)} {g_begun : Int32 → Int32 → Int32 → Int32 → Wd → Option (Int32 × Wd)} {res : Int32 × Wd} (hg_own : ∀ (w : Wd) (p1 : Int32) (p2 : Int32) (p3 : Int32) (r : Int32 × Wd), g_own p1 p2 p3 w = some r → ∀ l : Launch, MC l yX7_own cX7_own 4 (some FieldType.int) (2 + d) G SX w [.ref (G.2 67), .int p1, .int p2, .int p3] (some (.int r.1)) r.2) (hg_from : ∀ (w : Wd) (p1 : Int32) (p2 : Int32) (p3 : Int32) (p4 : Int32) (r : Int32 × Wd), g_from p1 p2 p3 p4 w = some r → ∀ l : Launch, MC l yX7_from cX7_from 8 (some FieldType.int) (2 + d) G SX w [.ref (G.2 67), .int p1, .int p2, .int p3, .int p4] (some (.int r.1)) r.2) (hg_begun : ∀ (w : Wd) (p1 : Int32) (p2 : Int32) (p3 : Int32) (p4 : Int32) (r : Int32 × Wd), g_begun p1 p2 p3 p4 w = some r → ∀ l : Launch, MC l yX7_begun cX7_begun 6 (some FieldType.int) (2 + d) G SX w [.ref (G.2 67), .int p1, .int p2, .int p3, .int p4] (some (.int r.1)) r.2) (C : CX cX7_from RX7 G SX 8 (2 + d + 1) (some FieldType.int) (some (.int res.1)) res.2 V) {x3 : Int32} {x4 : Int32} {x5 : Int32} {x7 : Int32} {w : Wd} (h : f_X7_from_35 g_own g_from g_begun x3 x4 x5 x7 w = some res) : V w 35 [(0, .ref (G.2 67)), (3, .int x3), (4, .int x4), (5, .int x5), (7, .int x7)] [] := by
  unfold f_X7_from_35 at h
  refine r_aload_n (pc := 35) C dX7_from_35 rfl 0 rfl ?_
  refine r_iload (pc := 36) C dX7_from_36 4 rfl ?_
  refine r_iload (pc := 38) C dX7_from_38 3 rfl ?_
  refine r_iload_n (pc := 40) C dX7_from_40 rfl 1 rfl ?_
  refine r_iload (pc := 41) C dX7_from_41 2 rfl ?_
  refine r_iconst (v := (1:Int32)) (pc := 43) C dX7_from_43 (by decide) ?_
  refine r_iadd (pc := 44) C dX7_from_44 ?_
  refine r_callV (As := [.int x7, .int x5, .int x3, .int (x4 + (1:Int32))]) (rest := []) (rvf := fun q => (some (.int q.1))) (wf := fun q => q.2) (pc := 45) C dX7_from_45 h ql_X7_45 qi_X7_begun qs_X7_begun qn_X7 qc_X7_begun ⟨rfl, by decide +kernel, by decide +kernel, (by decide +kernel : (parseMethodDescriptor yX7_begun.desc).map (fun d => d.parameters.length) = some 4)⟩ ⟨Nat.le_refl _, by decide⟩ kx_67 rfl (fun q hq l => hg_begun _ _ _ _ _ q hq l) rfl (Nat.le_of_ble_eq_true rfl) (fun q1 h => ?_)
  exact r_iretE (pc := 48) C dX7_from_48 h
def fb_X7_from_6 (g_own : Int32 → Int32 → Int32 → Wd → Option (Int32 × Wd)) (g_from : Int32 → Int32 → Int32 → Int32 → Wd → Option (Int32 × Wd)) (g_begun : Int32 → Int32 → Int32 → Int32 → Wd → Option (Int32 × Wd)) (rec6 : Int32 → Int32 → Int32 → Int32 → Int32 → Wd → Option (Int32 × Wd)) (x2 : Int32) (x3 : Int32) (x4 : Int32) (x5 : Int32) (x6 : Int32) (w : Wd) : Option (Int32 × Wd) := (if (7:Int32) ≤ x6 then some ((0:Int32), w) else (if x5 < 0 then some ((0:Int32), w) else tld tblB 28 ((x5 * (4:Int32)) + x2) (fun v1 => (if v1 = 0 then tld tblA 7 x5 (fun v2 => rec6 x2 x3 x4 v2 (x6 + (1:Int32)) w) else f_X7_from_35 g_own g_from g_begun x3 x4 x5 v1 w))))
set_option maxRecDepth 20000 in
theorem bb_X7_from_6 {G : Gv} {V : Vt} {d : Nat} {g_own : Int32 → Int32 → Int32 → Wd → Option (Int32 × Wd)} {g_from : Int32 → Int32 → Int32 → Int32 → Wd → Option (Int32 × Wd)} {g_begun : Int32 → Int32 → Int32 → Int32 → Wd → Option (Int32 × Wd)} {rec6 : Int32 → Int32 → Int32 → Int32 → Int32 → Wd → Option (Int32 × Wd)} {res : Int32 × Wd} (hg_own : ∀ (w : Wd) (p1 : Int32) (p2 : Int32) (p3 : Int32) (r : Int32 × Wd), g_own p1 p2 p3 w = some r → ∀ l : Launch, MC l yX7_own cX7_own 4 (some FieldType.int) (2 + d) G SX w [.ref (G.2 67), .int p1, .int p2, .int p3] (some (.int r.1)) r.2) (hg_from : ∀ (w : Wd) (p1 : Int32) (p2 : Int32) (p3 : Int32) (p4 : Int32) (r : Int32 × Wd), g_from p1 p2 p3 p4 w = some r → ∀ l : Launch, MC l yX7_from cX7_from 8 (some FieldType.int) (2 + d) G SX w [.ref (G.2 67), .int p1, .int p2, .int p3, .int p4] (some (.int r.1)) r.2) (hg_begun : ∀ (w : Wd) (p1 : Int32) (p2 : Int32) (p3 : Int32) (p4 : Int32) (r : Int32 × Wd), g_begun p1 p2 p3 p4 w = some r → ∀ l : Launch, MC l yX7_begun cX7_begun 6 (some FieldType.int) (2 + d) G SX w [.ref (G.2 67), .int p1, .int p2, .int p3, .int p4] (some (.int r.1)) r.2) (C : CX cX7_from RX7 G SX 8 (2 + d + 1) (some FieldType.int) (some (.int res.1)) res.2 V) (hrec6 : ∀ (x2 : Int32) (x3 : Int32) (x4 : Int32) (x5 : Int32) (x6 : Int32) (w : Wd), rec6 x2 x3 x4 x5 x6 w = some res → V w 6 [(0, .ref (G.2 67)), (2, .int x2), (3, .int x3), (4, .int x4), (5, .int x5), (6, .int x6)] []) {x2 : Int32} {x3 : Int32} {x4 : Int32} {x5 : Int32} {x6 : Int32} {w : Wd} (h : fb_X7_from_6 g_own g_from g_begun rec6 x2 x3 x4 x5 x6 w = some res) : V w 6 [(0, .ref (G.2 67)), (2, .int x2), (3, .int x3), (4, .int x4), (5, .int x5), (6, .int x6)] [] := by
  unfold fb_X7_from_6 at h
  refine r_iload (pc := 6) C dX7_from_6 5 rfl ?_
  refine r_bipush (v := (7:Int32)) (pc := 8) C dX7_from_8 (by decide) ?_
  refine r_icmp_ge (pc := 10) C 63 dX7_from_10 (by decide) h (fun h => ?_) (fun h => ?_)
  · refine r_iconst (v := (0:Int32)) (pc := 63) C dX7_from_63 (by decide) ?_
    exact r_iretE (pc := 64) C dX7_from_64 h
  · refine r_iload (pc := 13) C dX7_from_13 4 rfl ?_
    refine r_if_lt (pc := 15) C 63 dX7_from_15 (by decide) h (fun h => ?_) (fun h => ?_)
    · refine r_iconst (v := (0:Int32)) (pc := 63) C dX7_from_63 (by decide) ?_
      exact r_iretE (pc := 64) C dX7_from_64 h
    · refine r_getsB (pc := 18) C dX7_from_18 qf_X7_41 ?_
      refine r_iload (pc := 21) C dX7_from_21 4 rfl ?_
      refine r_iconst (v := (4:Int32)) (pc := 23) C dX7_from_23 (by decide) ?_
      refine r_imul (pc := 24) C dX7_from_24 ?_
      refine r_iload_n (pc := 25) C dX7_from_25 rfl 1 rfl ?_
      refine r_iadd (pc := 26) C dX7_from_26 ?_
      refine r_tldB (pc := 27) C dX7_from_27 h (fun v1 h => ?_)
      refine r_istore (L' := [(7, .int v1), (0, .ref (G.2 67)), (2, .int x2), (3, .int x3), (4, .int x4), (5, .int x5), (6, .int x6)]) (pc := 28) C dX7_from_28 (by decide) rfl ?_
      refine r_iload (pc := 30) C dX7_from_30 0 rfl ?_
      refine r_if_eq (pc := 32) C 49 dX7_from_32 (by decide) h (fun h => ?_) (fun h => ?_)
      · refine r_getsAN (pc := 49) C dX7_from_49 ?_
        refine r_iload (pc := 52) C dX7_from_52 5 rfl ?_
        refine r_tldA (pc := 54) C dX7_from_54 h (fun v2 h => ?_)
        refine r_istore (L' := [(5, .int v2), (7, .int v1), (0, .ref (G.2 67)), (2, .int x2), (3, .int x3), (4, .int x4), (6, .int x6)]) (pc := 55) C dX7_from_55 (by decide) rfl ?_
        refine r_iinc (v := (x6 + (1:Int32))) (L' := [(6, .int (x6 + (1:Int32))), (5, .int v2), (7, .int v1), (0, .ref (G.2 67)), (2, .int x2), (3, .int x3), (4, .int x4)]) (pc := 57) C dX7_from_57 6 rfl rfl (by decide) rfl ?_
        refine r_goto (pc := 60) C 6 dX7_from_60 (by decide) ?_
        exact r_sub C [3, 4, 5, 6, 1, 0] rfl (hrec6 _ _ _ _ _ _ h)
      · exact r_sub C [1, 3, 4, 5, 0] rfl (b_X7_from_35 hg_own hg_from hg_begun C h)
def f_X7_from_6 (g_own : Int32 → Int32 → Int32 → Wd → Option (Int32 × Wd)) (g_from : Int32 → Int32 → Int32 → Int32 → Wd → Option (Int32 × Wd)) (g_begun : Int32 → Int32 → Int32 → Int32 → Wd → Option (Int32 × Wd)) : Int32 → Int32 → Int32 → Int32 → Int32 → Wd → Option (Int32 × Wd) := lp (fun _ _ _ _ _ _ => none) (fun rec => fb_X7_from_6 g_own g_from g_begun rec) FU
theorem b_X7_from_6 {G : Gv} {V : Vt} {d : Nat} {g_own : Int32 → Int32 → Int32 → Wd → Option (Int32 × Wd)} {g_from : Int32 → Int32 → Int32 → Int32 → Wd → Option (Int32 × Wd)} {g_begun : Int32 → Int32 → Int32 → Int32 → Wd → Option (Int32 × Wd)} {res : Int32 × Wd} (hg_own : ∀ (w : Wd) (p1 : Int32) (p2 : Int32) (p3 : Int32) (r : Int32 × Wd), g_own p1 p2 p3 w = some r → ∀ l : Launch, MC l yX7_own cX7_own 4 (some FieldType.int) (2 + d) G SX w [.ref (G.2 67), .int p1, .int p2, .int p3] (some (.int r.1)) r.2) (hg_from : ∀ (w : Wd) (p1 : Int32) (p2 : Int32) (p3 : Int32) (p4 : Int32) (r : Int32 × Wd), g_from p1 p2 p3 p4 w = some r → ∀ l : Launch, MC l yX7_from cX7_from 8 (some FieldType.int) (2 + d) G SX w [.ref (G.2 67), .int p1, .int p2, .int p3, .int p4] (some (.int r.1)) r.2) (hg_begun : ∀ (w : Wd) (p1 : Int32) (p2 : Int32) (p3 : Int32) (p4 : Int32) (r : Int32 × Wd), g_begun p1 p2 p3 p4 w = some r → ∀ l : Launch, MC l yX7_begun cX7_begun 6 (some FieldType.int) (2 + d) G SX w [.ref (G.2 67), .int p1, .int p2, .int p3, .int p4] (some (.int r.1)) r.2) (C : CX cX7_from RX7 G SX 8 (2 + d + 1) (some FieldType.int) (some (.int res.1)) res.2 V) : ∀ (x2 : Int32) (x3 : Int32) (x4 : Int32) (x5 : Int32) (x6 : Int32) (w : Wd), (f_X7_from_6 g_own g_from g_begun) x2 x3 x4 x5 x6 w = some res → V w 6 [(0, .ref (G.2 67)), (2, .int x2), (3, .int x3), (4, .int x4), (5, .int x5), (6, .int x6)] [] :=
  lp_ind (P := fun (g : Int32 → Int32 → Int32 → Int32 → Int32 → Wd → Option (Int32 × Wd)) => ∀ (x2 : Int32) (x3 : Int32) (x4 : Int32) (x5 : Int32) (x6 : Int32) (w : Wd), g x2 x3 x4 x5 x6 w = some res → V w 6 [(0, .ref (G.2 67)), (2, .int x2), (3, .int x3), (4, .int x4), (5, .int x5), (6, .int x6)] []) (fun _ _ _ _ _ _ h => by cases h) (fun g hg _ _ _ _ _ _ h => bb_X7_from_6 hg_own hg_from hg_begun C hg h) FU
def fg_X7_from (g_own : Int32 → Int32 → Int32 → Wd → Option (Int32 × Wd)) (g_from : Int32 → Int32 → Int32 → Int32 → Wd → Option (Int32 × Wd)) (g_begun : Int32 → Int32 → Int32 → Int32 → Wd → Option (Int32 × Wd)) (p1 : Int32) (p2 : Int32) (p3 : Int32) (p4 : Int32) (w : Wd) : Option (Int32 × Wd) := f_X7_from_6 g_own g_from g_begun p2 p3 p4 p1 (0:Int32) w
set_option maxRecDepth 20000 in
theorem b_X7_from_E {G : Gv} {V : Vt} {d : Nat} {g_own : Int32 → Int32 → Int32 → Wd → Option (Int32 × Wd)} {g_from : Int32 → Int32 → Int32 → Int32 → Wd → Option (Int32 × Wd)} {g_begun : Int32 → Int32 → Int32 → Int32 → Wd → Option (Int32 × Wd)} {res : Int32 × Wd} (hg_own : ∀ (w : Wd) (p1 : Int32) (p2 : Int32) (p3 : Int32) (r : Int32 × Wd), g_own p1 p2 p3 w = some r → ∀ l : Launch, MC l yX7_own cX7_own 4 (some FieldType.int) (2 + d) G SX w [.ref (G.2 67), .int p1, .int p2, .int p3] (some (.int r.1)) r.2) (hg_from : ∀ (w : Wd) (p1 : Int32) (p2 : Int32) (p3 : Int32) (p4 : Int32) (r : Int32 × Wd), g_from p1 p2 p3 p4 w = some r → ∀ l : Launch, MC l yX7_from cX7_from 8 (some FieldType.int) (2 + d) G SX w [.ref (G.2 67), .int p1, .int p2, .int p3, .int p4] (some (.int r.1)) r.2) (hg_begun : ∀ (w : Wd) (p1 : Int32) (p2 : Int32) (p3 : Int32) (p4 : Int32) (r : Int32 × Wd), g_begun p1 p2 p3 p4 w = some r → ∀ l : Launch, MC l yX7_begun cX7_begun 6 (some FieldType.int) (2 + d) G SX w [.ref (G.2 67), .int p1, .int p2, .int p3, .int p4] (some (.int r.1)) r.2) (C : CX cX7_from RX7 G SX 8 (2 + d + 1) (some FieldType.int) (some (.int res.1)) res.2 V) {p1 : Int32} {p2 : Int32} {p3 : Int32} {p4 : Int32} {w : Wd} (h : fg_X7_from g_own g_from g_begun p1 p2 p3 p4 w = some res) : V w 0 [(0, .ref (G.2 67)), (1, .int p1), (2, .int p2), (3, .int p3), (4, .int p4)] [] := by
  unfold fg_X7_from at h
  refine r_iload_n (pc := 0) C dX7_from_0 rfl 1 rfl ?_
  refine r_istore (L' := [(5, .int p1), (0, .ref (G.2 67)), (1, .int p1), (2, .int p2), (3, .int p3), (4, .int p4)]) (pc := 1) C dX7_from_1 (by decide) rfl ?_
  refine r_iconst (v := (0:Int32)) (pc := 3) C dX7_from_3 (by decide) ?_
  refine r_istore (L' := [(6, .int (0:Int32)), (5, .int p1), (0, .ref (G.2 67)), (1, .int p1), (2, .int p2), (3, .int p3), (4, .int p4)]) (pc := 4) C dX7_from_4 (by decide) rfl ?_
  exact r_sub C [2, 4, 5, 6, 1, 0] rfl (b_X7_from_6 hg_own hg_from hg_begun C _ _ _ _ _ _ h)
def fg_X7_begun (g_own : Int32 → Int32 → Int32 → Wd → Option (Int32 × Wd)) (g_from : Int32 → Int32 → Int32 → Int32 → Wd → Option (Int32 × Wd)) (g_begun : Int32 → Int32 → Int32 → Int32 → Wd → Option (Int32 × Wd)) (p1 : Int32) (p2 : Int32) (p3 : Int32) (p4 : Int32) (w : Wd) : Option (Int32 × Wd) := (if p4 ≤ (40:Int32) then bd (f_X4_add 68 p1 w) (fun q1 => tld tblA 7 p2 (fun v2 => (if p1 = (10:Int32) then some ((p3 + (q1 67 2)), q1) else (if p1 = (11:Int32) then bd (g_own (0:Int32) p3 p4 q1) (fun q3 => some ((q3.1 * (2:Int32)), q3.2)) else (if p1 = (12:Int32) then some ((p3 - (q1 67 3)), q1) else (if p1 = (13:Int32) then bd (g_own (1:Int32) p3 p4 q1) (fun q4 => bd (g_own (2:Int32) p3 p4 q4.2) (fun q5 => some ((q4.1 ^^^ q5.1), q5.2))) else (if p1 = (20:Int32) then bd (g_from v2 (1:Int32) p3 p4 q1) (fun q6 => bd (g_own (2:Int32) (1:Int32) p4 q6.2) (fun q7 => some ((q6.1 - q7.1), q7.2))) else (if p1 = (30:Int32) then bd (g_from v2 (0:Int32) p3 p4 q1) (fun q8 => some ((q8.1 * (3:Int32)), q8.2)) else (if p1 = (40:Int32) then bd (g_from v2 (2:Int32) p3 p4 q1) (fun q9 => some ((-q9.1), q9.2)) else (if p1 = (50:Int32) then bd (g_from v2 (1:Int32) (p3 + (1:Int32)) p4 q1) (fun q10 => some (q10.1, q10.2)) else (if p1 = (60:Int32) then bd (g_from v2 (3:Int32) p3 p4 q1) (fun q11 => bd (g_own (0:Int32) (2:Int32) p4 q11.2) (fun q12 => some ((q11.1 - q12.1), q12.2))) else (if p1 = (70:Int32) then bd (g_from v2 (2:Int32) p3 p4 q1) (fun q13 => some ((q13.1 ^^^ (q13.2 67 2)), q13.2)) else (if p1 = (71:Int32) then bd (g_own (1:Int32) p3 p4 q1) (fun q14 => bd (g_from v2 (3:Int32) p3 p4 q14.2) (fun q15 => some ((q14.1 - q15.1), q15.2))) else some ((0:Int32), q1)))))))))))))) else some ((0:Int32), w))
set_option maxRecDepth 20000 in
theorem b_X7_begun_E {G : Gv} {V : Vt} {d : Nat} {g_own : Int32 → Int32 → Int32 → Wd → Option (Int32 × Wd)} {g_from : Int32 → Int32 → Int32 → Int32 → Wd → Option (Int32 × Wd)} {g_begun : Int32 → Int32 → Int32 → Int32 → Wd → Option (Int32 × Wd)} {res : Int32 × Wd} (hg_own : ∀ (w : Wd) (p1 : Int32) (p2 : Int32) (p3 : Int32) (r : Int32 × Wd), g_own p1 p2 p3 w = some r → ∀ l : Launch, MC l yX7_own cX7_own 4 (some FieldType.int) (2 + d) G SX w [.ref (G.2 67), .int p1, .int p2, .int p3] (some (.int r.1)) r.2) (hg_from : ∀ (w : Wd) (p1 : Int32) (p2 : Int32) (p3 : Int32) (p4 : Int32) (r : Int32 × Wd), g_from p1 p2 p3 p4 w = some r → ∀ l : Launch, MC l yX7_from cX7_from 8 (some FieldType.int) (2 + d) G SX w [.ref (G.2 67), .int p1, .int p2, .int p3, .int p4] (some (.int r.1)) r.2) (hg_begun : ∀ (w : Wd) (p1 : Int32) (p2 : Int32) (p3 : Int32) (p4 : Int32) (r : Int32 × Wd), g_begun p1 p2 p3 p4 w = some r → ∀ l : Launch, MC l yX7_begun cX7_begun 6 (some FieldType.int) (2 + d) G SX w [.ref (G.2 67), .int p1, .int p2, .int p3, .int p4] (some (.int r.1)) r.2) (C : CX cX7_begun RX7 G SX 6 (2 + d + 1) (some FieldType.int) (some (.int res.1)) res.2 V) {p1 : Int32} {p2 : Int32} {p3 : Int32} {p4 : Int32} {w : Wd} (h : fg_X7_begun g_own g_from g_begun p1 p2 p3 p4 w = some res) : V w 0 [(0, .ref (G.2 67)), (1, .int p1), (2, .int p2), (3, .int p3), (4, .int p4)] [] := by
  unfold fg_X7_begun at h
  refine r_iload (pc := 0) C dX7_begun_0 4 rfl ?_
  refine r_bipush (v := (40:Int32)) (pc := 2) C dX7_begun_2 (by decide) ?_
  refine r_icmp_le (pc := 4) C 9 dX7_begun_4 (by decide) h (fun h => ?_) (fun h => ?_)
  · refine r_aload_n (pc := 9) C dX7_begun_9 rfl 0 rfl ?_
    refine gr_X7_14 (pc := 10) 68 C dX7_begun_10 kx_67 rfl ?_
    refine r_iload_n (pc := 13) C dX7_begun_13 rfl 1 rfl ?_
    refine cv_X7_51 (pc := 14) C dX7_begun_14 isRo_68 h (by omega) (Nat.le_of_ble_eq_true rfl) (fun q1 h => ?_)
    refine r_getsAN (pc := 17) C dX7_begun_17 ?_
    refine r_iload_n (pc := 20) C dX7_begun_20 rfl 2 rfl ?_
    refine r_tldA (pc := 21) C dX7_begun_21 h (fun v2 h => ?_)
    refine r_istore (L' := [(5, .int v2), (0, .ref (G.2 67)), (1, .int p1), (2, .int p2), (3, .int p3), (4, .int p4)]) (pc := 22) C dX7_begun_22 (by decide) rfl ?_
    refine r_iload_n (pc := 24) C dX7_begun_24 rfl 2 rfl ?_
    refine r_lsw (pc := 25) C (10:Int32) 124 dX7_begun_25 rfl rfl (by decide) h (fun h => ?_) (fun n0 h => ?_)
    · refine r_iload_n (pc := 124) C dX7_begun_124 rfl 4 rfl ?_
      refine r_aload_n (pc := 125) C dX7_begun_125 rfl 1 rfl ?_
      refine gi_X7_24 (pc := 126) C dX7_begun_126 kx_67 rfl ?_
      refine r_iadd (pc := 129) C dX7_begun_129 ?_
      exact r_iretE (pc := 130) C dX7_begun_130 h
    refine r_lsw (pc := 25) C (11:Int32) 131 dX7_begun_25 rfl rfl (by decide) h (fun h => ?_) (fun n1 h => ?_)
    · refine r_aload_n (pc := 131) C dX7_begun_131 rfl 1 rfl ?_
      refine r_iconst (v := (0:Int32)) (pc := 132) C dX7_begun_132 (by decide) ?_
      refine r_iload_n (pc := 133) C dX7_begun_133 rfl 4 rfl ?_
      refine r_iload (pc := 134) C dX7_begun_134 5 rfl ?_
      refine r_callV (As := [.int (0:Int32), .int p3, .int p4]) (rest := []) (rvf := fun q => (some (.int q.1))) (wf := fun q => q.2) (pc := 136) C dX7_begun_136 h ql_X7_33 qi_X7_own qs_X7_own qn_X7 qc_X7_own ⟨rfl, by decide +kernel, by decide +kernel, (by decide +kernel : (parseMethodDescriptor yX7_own.desc).map (fun d => d.parameters.length) = some 3)⟩ ⟨Nat.le_refl _, by decide⟩ kx_67 rfl (fun q hq l => hg_own _ _ _ _ q hq l) rfl (Nat.le_of_ble_eq_true rfl) (fun q3 h => ?_)
      refine r_iconst (v := (2:Int32)) (pc := 139) C dX7_begun_139 (by decide) ?_
      refine r_imul (pc := 140) C dX7_begun_140 ?_
      exact r_iretE (pc := 141) C dX7_begun_141 h
    refine r_lsw (pc := 25) C (12:Int32) 142 dX7_begun_25 rfl rfl (by decide) h (fun h => ?_) (fun n2 h => ?_)
    · refine r_iload_n (pc := 142) C dX7_begun_142 rfl 4 rfl ?_
      refine r_aload_n (pc := 143) C dX7_begun_143 rfl 1 rfl ?_
      refine gi_X7_27 (pc := 144) C dX7_begun_144 kx_67 rfl ?_
      refine r_isub (pc := 147) C dX7_begun_147 ?_
      exact r_iretE (pc := 148) C dX7_begun_148 h
    refine r_lsw (pc := 25) C (13:Int32) 149 dX7_begun_25 rfl rfl (by decide) h (fun h => ?_) (fun n3 h => ?_)
    · refine r_aload_n (pc := 149) C dX7_begun_149 rfl 1 rfl ?_
      refine r_iconst (v := (1:Int32)) (pc := 150) C dX7_begun_150 (by decide) ?_
      refine r_iload_n (pc := 151) C dX7_begun_151 rfl 4 rfl ?_
      refine r_iload (pc := 152) C dX7_begun_152 5 rfl ?_
      refine r_callV (As := [.int (1:Int32), .int p3, .int p4]) (rest := []) (rvf := fun q => (some (.int q.1))) (wf := fun q => q.2) (pc := 154) C dX7_begun_154 h ql_X7_33 qi_X7_own qs_X7_own qn_X7 qc_X7_own ⟨rfl, by decide +kernel, by decide +kernel, (by decide +kernel : (parseMethodDescriptor yX7_own.desc).map (fun d => d.parameters.length) = some 3)⟩ ⟨Nat.le_refl _, by decide⟩ kx_67 rfl (fun q hq l => hg_own _ _ _ _ q hq l) rfl (Nat.le_of_ble_eq_true rfl) (fun q4 h => ?_)
      refine r_aload_n (pc := 157) C dX7_begun_157 rfl 1 rfl ?_
      refine r_iconst (v := (2:Int32)) (pc := 158) C dX7_begun_158 (by decide) ?_
      refine r_iload_n (pc := 159) C dX7_begun_159 rfl 4 rfl ?_
      refine r_iload (pc := 160) C dX7_begun_160 5 rfl ?_
      refine r_callV (As := [.int (2:Int32), .int p3, .int p4]) (rest := [.int q4.1]) (rvf := fun q => (some (.int q.1))) (wf := fun q => q.2) (pc := 162) C dX7_begun_162 h ql_X7_33 qi_X7_own qs_X7_own qn_X7 qc_X7_own ⟨rfl, by decide +kernel, by decide +kernel, (by decide +kernel : (parseMethodDescriptor yX7_own.desc).map (fun d => d.parameters.length) = some 3)⟩ ⟨Nat.le_refl _, by decide⟩ kx_67 rfl (fun q hq l => hg_own _ _ _ _ q hq l) rfl (Nat.le_of_ble_eq_true rfl) (fun q5 h => ?_)
      refine r_ixor (pc := 165) C dX7_begun_165 ?_
      exact r_iretE (pc := 166) C dX7_begun_166 h
    refine r_lsw (pc := 25) C (20:Int32) 167 dX7_begun_25 rfl rfl (by decide) h (fun h => ?_) (fun n4 h => ?_)
    · refine r_aload_n (pc := 167) C dX7_begun_167 rfl 1 rfl ?_
      refine r_iload (pc := 168) C dX7_begun_168 0 rfl ?_
      refine r_iconst (v := (1:Int32)) (pc := 170) C dX7_begun_170 (by decide) ?_
      refine r_iload_n (pc := 171) C dX7_begun_171 rfl 4 rfl ?_
      refine r_iload (pc := 172) C dX7_begun_172 5 rfl ?_
      refine r_callV (As := [.int v2, .int (1:Int32), .int p3, .int p4]) (rest := []) (rvf := fun q => (some (.int q.1))) (wf := fun q => q.2) (pc := 174) C dX7_begun_174 h ql_X7_37 qi_X7_from qs_X7_from qn_X7 qc_X7_from ⟨rfl, by decide +kernel, by decide +kernel, (by decide +kernel : (parseMethodDescriptor yX7_from.desc).map (fun d => d.parameters.length) = some 4)⟩ ⟨Nat.le_refl _, by decide⟩ kx_67 rfl (fun q hq l => hg_from _ _ _ _ _ q hq l) rfl (Nat.le_of_ble_eq_true rfl) (fun q6 h => ?_)
      refine r_aload_n (pc := 177) C dX7_begun_177 rfl 1 rfl ?_
      refine r_iconst (v := (2:Int32)) (pc := 178) C dX7_begun_178 (by decide) ?_
      refine r_iconst (v := (1:Int32)) (pc := 179) C dX7_begun_179 (by decide) ?_
      refine r_iload (pc := 180) C dX7_begun_180 5 rfl ?_
      refine r_callV (As := [.int (2:Int32), .int (1:Int32), .int p4]) (rest := [.int q6.1]) (rvf := fun q => (some (.int q.1))) (wf := fun q => q.2) (pc := 182) C dX7_begun_182 h ql_X7_33 qi_X7_own qs_X7_own qn_X7 qc_X7_own ⟨rfl, by decide +kernel, by decide +kernel, (by decide +kernel : (parseMethodDescriptor yX7_own.desc).map (fun d => d.parameters.length) = some 3)⟩ ⟨Nat.le_refl _, by decide⟩ kx_67 rfl (fun q hq l => hg_own _ _ _ _ q hq l) rfl (Nat.le_of_ble_eq_true rfl) (fun q7 h => ?_)
      refine r_isub (pc := 185) C dX7_begun_185 ?_
      exact r_iretE (pc := 186) C dX7_begun_186 h
    refine r_lsw (pc := 25) C (30:Int32) 187 dX7_begun_25 rfl rfl (by decide) h (fun h => ?_) (fun n5 h => ?_)
    · refine r_aload_n (pc := 187) C dX7_begun_187 rfl 1 rfl ?_
      refine r_iload (pc := 188) C dX7_begun_188 0 rfl ?_
      refine r_iconst (v := (0:Int32)) (pc := 190) C dX7_begun_190 (by decide) ?_
      refine r_iload_n (pc := 191) C dX7_begun_191 rfl 4 rfl ?_
      refine r_iload (pc := 192) C dX7_begun_192 5 rfl ?_
      refine r_callV (As := [.int v2, .int (0:Int32), .int p3, .int p4]) (rest := []) (rvf := fun q => (some (.int q.1))) (wf := fun q => q.2) (pc := 194) C dX7_begun_194 h ql_X7_37 qi_X7_from qs_X7_from qn_X7 qc_X7_from ⟨rfl, by decide +kernel, by decide +kernel, (by decide +kernel : (parseMethodDescriptor yX7_from.desc).map (fun d => d.parameters.length) = some 4)⟩ ⟨Nat.le_refl _, by decide⟩ kx_67 rfl (fun q hq l => hg_from _ _ _ _ _ q hq l) rfl (Nat.le_of_ble_eq_true rfl) (fun q8 h => ?_)
      refine r_iconst (v := (3:Int32)) (pc := 197) C dX7_begun_197 (by decide) ?_
      refine r_imul (pc := 198) C dX7_begun_198 ?_
      exact r_iretE (pc := 199) C dX7_begun_199 h
    refine r_lsw (pc := 25) C (40:Int32) 200 dX7_begun_25 rfl rfl (by decide) h (fun h => ?_) (fun n6 h => ?_)
    · refine r_aload_n (pc := 200) C dX7_begun_200 rfl 1 rfl ?_
      refine r_iload (pc := 201) C dX7_begun_201 0 rfl ?_
      refine r_iconst (v := (2:Int32)) (pc := 203) C dX7_begun_203 (by decide) ?_
      refine r_iload_n (pc := 204) C dX7_begun_204 rfl 4 rfl ?_
      refine r_iload (pc := 205) C dX7_begun_205 5 rfl ?_
      refine r_callV (As := [.int v2, .int (2:Int32), .int p3, .int p4]) (rest := []) (rvf := fun q => (some (.int q.1))) (wf := fun q => q.2) (pc := 207) C dX7_begun_207 h ql_X7_37 qi_X7_from qs_X7_from qn_X7 qc_X7_from ⟨rfl, by decide +kernel, by decide +kernel, (by decide +kernel : (parseMethodDescriptor yX7_from.desc).map (fun d => d.parameters.length) = some 4)⟩ ⟨Nat.le_refl _, by decide⟩ kx_67 rfl (fun q hq l => hg_from _ _ _ _ _ q hq l) rfl (Nat.le_of_ble_eq_true rfl) (fun q9 h => ?_)
      refine r_ineg (pc := 210) C dX7_begun_210 ?_
      exact r_iretE (pc := 211) C dX7_begun_211 h
    refine r_lsw (pc := 25) C (50:Int32) 212 dX7_begun_25 rfl rfl (by decide) h (fun h => ?_) (fun n7 h => ?_)
    · refine r_aload_n (pc := 212) C dX7_begun_212 rfl 1 rfl ?_
      refine r_iload (pc := 213) C dX7_begun_213 0 rfl ?_
      refine r_iconst (v := (1:Int32)) (pc := 215) C dX7_begun_215 (by decide) ?_
      refine r_iload_n (pc := 216) C dX7_begun_216 rfl 4 rfl ?_
      refine r_iconst (v := (1:Int32)) (pc := 217) C dX7_begun_217 (by decide) ?_
      refine r_iadd (pc := 218) C dX7_begun_218 ?_
      refine r_iload (pc := 219) C dX7_begun_219 5 rfl ?_
      refine r_callV (As := [.int v2, .int (1:Int32), .int (p3 + (1:Int32)), .int p4]) (rest := []) (rvf := fun q => (some (.int q.1))) (wf := fun q => q.2) (pc := 221) C dX7_begun_221 h ql_X7_37 qi_X7_from qs_X7_from qn_X7 qc_X7_from ⟨rfl, by decide +kernel, by decide +kernel, (by decide +kernel : (parseMethodDescriptor yX7_from.desc).map (fun d => d.parameters.length) = some 4)⟩ ⟨Nat.le_refl _, by decide⟩ kx_67 rfl (fun q hq l => hg_from _ _ _ _ _ q hq l) rfl (Nat.le_of_ble_eq_true rfl) (fun q10 h => ?_)
      exact r_iretE (pc := 224) C dX7_begun_224 h
    refine r_lsw (pc := 25) C (60:Int32) 225 dX7_begun_25 rfl rfl (by decide) h (fun h => ?_) (fun n8 h => ?_)
    · refine r_aload_n (pc := 225) C dX7_begun_225 rfl 1 rfl ?_
      refine r_iload (pc := 226) C dX7_begun_226 0 rfl ?_
      refine r_iconst (v := (3:Int32)) (pc := 228) C dX7_begun_228 (by decide) ?_
      refine r_iload_n (pc := 229) C dX7_begun_229 rfl 4 rfl ?_
      refine r_iload (pc := 230) C dX7_begun_230 5 rfl ?_
      refine r_callV (As := [.int v2, .int (3:Int32), .int p3, .int p4]) (rest := []) (rvf := fun q => (some (.int q.1))) (wf := fun q => q.2) (pc := 232) C dX7_begun_232 h ql_X7_37 qi_X7_from qs_X7_from qn_X7 qc_X7_from ⟨rfl, by decide +kernel, by decide +kernel, (by decide +kernel : (parseMethodDescriptor yX7_from.desc).map (fun d => d.parameters.length) = some 4)⟩ ⟨Nat.le_refl _, by decide⟩ kx_67 rfl (fun q hq l => hg_from _ _ _ _ _ q hq l) rfl (Nat.le_of_ble_eq_true rfl) (fun q11 h => ?_)
      refine r_aload_n (pc := 235) C dX7_begun_235 rfl 1 rfl ?_
      refine r_iconst (v := (0:Int32)) (pc := 236) C dX7_begun_236 (by decide) ?_
      refine r_iconst (v := (2:Int32)) (pc := 237) C dX7_begun_237 (by decide) ?_
      refine r_iload (pc := 238) C dX7_begun_238 5 rfl ?_
      refine r_callV (As := [.int (0:Int32), .int (2:Int32), .int p4]) (rest := [.int q11.1]) (rvf := fun q => (some (.int q.1))) (wf := fun q => q.2) (pc := 240) C dX7_begun_240 h ql_X7_33 qi_X7_own qs_X7_own qn_X7 qc_X7_own ⟨rfl, by decide +kernel, by decide +kernel, (by decide +kernel : (parseMethodDescriptor yX7_own.desc).map (fun d => d.parameters.length) = some 3)⟩ ⟨Nat.le_refl _, by decide⟩ kx_67 rfl (fun q hq l => hg_own _ _ _ _ q hq l) rfl (Nat.le_of_ble_eq_true rfl) (fun q12 h => ?_)
      refine r_isub (pc := 243) C dX7_begun_243 ?_
      exact r_iretE (pc := 244) C dX7_begun_244 h
    refine r_lsw (pc := 25) C (70:Int32) 245 dX7_begun_25 rfl rfl (by decide) h (fun h => ?_) (fun n9 h => ?_)
    · refine r_aload_n (pc := 245) C dX7_begun_245 rfl 1 rfl ?_
      refine r_iload (pc := 246) C dX7_begun_246 0 rfl ?_
      refine r_iconst (v := (2:Int32)) (pc := 248) C dX7_begun_248 (by decide) ?_
      refine r_iload_n (pc := 249) C dX7_begun_249 rfl 4 rfl ?_
      refine r_iload (pc := 250) C dX7_begun_250 5 rfl ?_
      refine r_callV (As := [.int v2, .int (2:Int32), .int p3, .int p4]) (rest := []) (rvf := fun q => (some (.int q.1))) (wf := fun q => q.2) (pc := 252) C dX7_begun_252 h ql_X7_37 qi_X7_from qs_X7_from qn_X7 qc_X7_from ⟨rfl, by decide +kernel, by decide +kernel, (by decide +kernel : (parseMethodDescriptor yX7_from.desc).map (fun d => d.parameters.length) = some 4)⟩ ⟨Nat.le_refl _, by decide⟩ kx_67 rfl (fun q hq l => hg_from _ _ _ _ _ q hq l) rfl (Nat.le_of_ble_eq_true rfl) (fun q13 h => ?_)
      refine r_aload_n (pc := 255) C dX7_begun_255 rfl 1 rfl ?_
      refine gi_X7_24 (pc := 256) C dX7_begun_256 kx_67 rfl ?_
      refine r_ixor (pc := 259) C dX7_begun_259 ?_
      exact r_iretE (pc := 260) C dX7_begun_260 h
    refine r_lsw (pc := 25) C (71:Int32) 261 dX7_begun_25 rfl rfl (by decide) h (fun h => ?_) (fun n10 h => ?_)
    · refine r_aload_n (pc := 261) C dX7_begun_261 rfl 1 rfl ?_
      refine r_iconst (v := (1:Int32)) (pc := 262) C dX7_begun_262 (by decide) ?_
      refine r_iload_n (pc := 263) C dX7_begun_263 rfl 4 rfl ?_
      refine r_iload (pc := 264) C dX7_begun_264 5 rfl ?_
      refine r_callV (As := [.int (1:Int32), .int p3, .int p4]) (rest := []) (rvf := fun q => (some (.int q.1))) (wf := fun q => q.2) (pc := 266) C dX7_begun_266 h ql_X7_33 qi_X7_own qs_X7_own qn_X7 qc_X7_own ⟨rfl, by decide +kernel, by decide +kernel, (by decide +kernel : (parseMethodDescriptor yX7_own.desc).map (fun d => d.parameters.length) = some 3)⟩ ⟨Nat.le_refl _, by decide⟩ kx_67 rfl (fun q hq l => hg_own _ _ _ _ q hq l) rfl (Nat.le_of_ble_eq_true rfl) (fun q14 h => ?_)
      refine r_aload_n (pc := 269) C dX7_begun_269 rfl 1 rfl ?_
      refine r_iload (pc := 270) C dX7_begun_270 0 rfl ?_
      refine r_iconst (v := (3:Int32)) (pc := 272) C dX7_begun_272 (by decide) ?_
      refine r_iload_n (pc := 273) C dX7_begun_273 rfl 4 rfl ?_
      refine r_iload (pc := 274) C dX7_begun_274 5 rfl ?_
      refine r_callV (As := [.int v2, .int (3:Int32), .int p3, .int p4]) (rest := [.int q14.1]) (rvf := fun q => (some (.int q.1))) (wf := fun q => q.2) (pc := 276) C dX7_begun_276 h ql_X7_37 qi_X7_from qs_X7_from qn_X7 qc_X7_from ⟨rfl, by decide +kernel, by decide +kernel, (by decide +kernel : (parseMethodDescriptor yX7_from.desc).map (fun d => d.parameters.length) = some 4)⟩ ⟨Nat.le_refl _, by decide⟩ kx_67 rfl (fun q hq l => hg_from _ _ _ _ _ q hq l) rfl (Nat.le_of_ble_eq_true rfl) (fun q15 h => ?_)
      refine r_isub (pc := 279) C dX7_begun_279 ?_
      exact r_iretE (pc := 280) C dX7_begun_280 h
    refine r_lswD (pc := 25) C 281 dX7_begun_25 rfl (by have z0 := toInt_ne n0; have z1 := toInt_ne n1; have z2 := toInt_ne n2; have z3 := toInt_ne n3; have z4 := toInt_ne n4; have z5 := toInt_ne n5; have z6 := toInt_ne n6; have z7 := toInt_ne n7; have z8 := toInt_ne n8; have z9 := toInt_ne n9; have z10 := toInt_ne n10; exact lsw_dflt (by intro q hq; simp only [List.mem_cons, List.not_mem_nil, or_false] at hq; rcases hq with rfl | rfl | rfl | rfl | rfl | rfl | rfl | rfl | rfl | rfl | rfl <;> (intro e; simp only [Int32.reduceToInt, ne_eq] at *; omega))) (by decide) ?_
    refine r_iconst (v := (0:Int32)) (pc := 281) C dX7_begun_281 (by decide) ?_
    exact r_iretE (pc := 282) C dX7_begun_282 h
  · refine r_iconst (v := (0:Int32)) (pc := 7) C dX7_begun_7 (by decide) ?_
    exact r_iretE (pc := 8) C dX7_begun_8 h
def grp_X7_own : Nat → (Int32 → Int32 → Int32 → Wd → Option (Int32 × Wd)) × (Int32 → Int32 → Int32 → Int32 → Wd → Option (Int32 × Wd)) × (Int32 → Int32 → Int32 → Int32 → Wd → Option (Int32 × Wd)) := lp ((fun _ _ _ _ => none), (fun _ _ _ _ _ => none), (fun _ _ _ _ _ => none)) (fun r => (fg_X7_own r.1 r.2.1 r.2.2, fg_X7_from r.1 r.2.1 r.2.2, fg_X7_begun r.1 r.2.1 r.2.2))
def f_X7_own : Int32 → Int32 → Int32 → Wd → Option (Int32 × Wd) := (grp_X7_own 100).1
def f_X7_from : Int32 → Int32 → Int32 → Int32 → Wd → Option (Int32 × Wd) := (grp_X7_own 100).2.1
def f_X7_begun : Int32 → Int32 → Int32 → Int32 → Wd → Option (Int32 × Wd) := (grp_X7_own 100).2.2
theorem cg_X7_own {G : Gv} : ∀ d : Nat, (∀ (w : Wd) (p1 : Int32) (p2 : Int32) (p3 : Int32) (r : Int32 × Wd), (grp_X7_own d).1 p1 p2 p3 w = some r → ∀ l : Launch, MC l yX7_own cX7_own 4 (some FieldType.int) (2 + d) G SX w [.ref (G.2 67), .int p1, .int p2, .int p3] (some (.int r.1)) r.2) ∧ (∀ (w : Wd) (p1 : Int32) (p2 : Int32) (p3 : Int32) (p4 : Int32) (r : Int32 × Wd), (grp_X7_own d).2.1 p1 p2 p3 p4 w = some r → ∀ l : Launch, MC l yX7_from cX7_from 8 (some FieldType.int) (2 + d) G SX w [.ref (G.2 67), .int p1, .int p2, .int p3, .int p4] (some (.int r.1)) r.2) ∧ (∀ (w : Wd) (p1 : Int32) (p2 : Int32) (p3 : Int32) (p4 : Int32) (r : Int32 × Wd), (grp_X7_own d).2.2 p1 p2 p3 p4 w = some r → ∀ l : Launch, MC l yX7_begun cX7_begun 6 (some FieldType.int) (2 + d) G SX w [.ref (G.2 67), .int p1, .int p2, .int p3, .int p4] (some (.int r.1)) r.2) := by
  intro d
  induction d with
  | zero => exact ⟨fun _ _ _ _ _ h => (by change none = some _ at h; cases h), fun _ _ _ _ _ _ h => (by change none = some _ at h; cases h), fun _ _ _ _ _ _ h => (by change none = some _ at h; cases h)⟩
  | succ d ih =>
    obtain ⟨i0, i1, i2⟩ := ih
    exact ⟨fun _ _ _ _ _ h l => mc_of (by decide +kernel) rfl (Nat.le_of_ble_eq_true rfl) rfl (fun V C => b_X7_own_E i0 i1 i2 C h) l, fun _ _ _ _ _ _ h l => mc_of (by decide +kernel) rfl (Nat.le_of_ble_eq_true rfl) rfl (fun V C => b_X7_from_E i0 i1 i2 C h) l, fun _ _ _ _ _ _ h l => mc_of (by decide +kernel) rfl (Nat.le_of_ble_eq_true rfl) rfl (fun V C => b_X7_begun_E i0 i1 i2 C h) l⟩
theorem c_X7_own {G : Gv} {p1 : Int32} {p2 : Int32} {p3 : Int32} {w : Wd} {res : Int32 × Wd} (h : f_X7_own p1 p2 p3 w = some res) (l : Launch) : MC l yX7_own cX7_own 4 (some FieldType.int) 102 G SX w [.ref (G.2 67), .int p1, .int p2, .int p3] (some (.int res.1)) res.2 := (cg_X7_own 100).1 w _ _ _ _ h l
theorem c_X7_from {G : Gv} {p1 : Int32} {p2 : Int32} {p3 : Int32} {p4 : Int32} {w : Wd} {res : Int32 × Wd} (h : f_X7_from p1 p2 p3 p4 w = some res) (l : Launch) : MC l yX7_from cX7_from 8 (some FieldType.int) 102 G SX w [.ref (G.2 67), .int p1, .int p2, .int p3, .int p4] (some (.int res.1)) res.2 := (cg_X7_own 100).2.1 w _ _ _ _ _ h l
theorem c_X7_begun {G : Gv} {p1 : Int32} {p2 : Int32} {p3 : Int32} {p4 : Int32} {w : Wd} {res : Int32 × Wd} (h : f_X7_begun p1 p2 p3 p4 w = some res) (l : Launch) : MC l yX7_begun cX7_begun 6 (some FieldType.int) 102 G SX w [.ref (G.2 67), .int p1, .int p2, .int p3, .int p4] (some (.int res.1)) res.2 := (cg_X7_own 100).2.2 w _ _ _ _ _ h l
theorem cv_X7_30 {cc : ByteArray} {G : Gv} {n hc : Nat} {rt : Option FieldType} {rv : Option Value} {w0 : Wd} {V : Vt} {w : Wd} {pc : Nat} {L : List (Nat × Value)} {rest : List Value} {α : Type} {res : α} {b0 : Nat} {K : Wd → Option α} (C : CX cc RX7 G SX n hc rt rv w0 V) (hd : decode cc pc = .ok (.invokevirtual 30, 3)) (hb0 : isRo b0 = true) (h : bd (f_X4_clear b0 w) K = some res) (hR : 1 + 1 ≤ hc) (hr : (rest.map fun v => v.category).sum ≤ 8) (kk : ∀ q, K q = some res → V q (pc + 3) L (rest)) : V w pc L (.ref (G.2 b0) :: rest) := r_callV (As := []) (rest := rest) (rvf := fun q => none) (wf := fun q => q) C hd h ql_X7_30 qi_X4_clear qs_X4_clear qn_X4 qc_X4_clear ⟨rfl, by decide +kernel, by decide +kernel, (by decide +kernel : (parseMethodDescriptor yX4_clear.desc).map (fun d => d.parameters.length) = some 0)⟩ ⟨hR, by decide⟩ (cRo_0 hb0) rfl (fun q hq l => c_X4_clear hb0 hq l) rfl hr kk
theorem cv_X7_33 {cc : ByteArray} {G : Gv} {n hc : Nat} {rt : Option FieldType} {rv : Option Value} {w0 : Wd} {V : Vt} {w : Wd} {pc : Nat} {L : List (Nat × Value)} {rest : List Value} {α : Type} {res : α} {p1 : Int32} {p2 : Int32} {p3 : Int32} {K : Int32 × Wd → Option α} (C : CX cc RX7 G SX n hc rt rv w0 V) (hd : decode cc pc = .ok (.invokevirtual 33, 3)) (h : bd (f_X7_own p1 p2 p3 w) K = some res) (hR : 102 + 1 ≤ hc) (hr : (rest.map fun v => v.category).sum ≤ 8) (kk : ∀ q, K q = some res → V q.2 (pc + 3) L (.int q.1 :: rest)) : V w pc L (.int p3 :: .int p2 :: .int p1 :: .ref (G.2 67) :: rest) := r_callV (As := [.int p1, .int p2, .int p3]) (rest := rest) (rvf := fun q => (some (.int q.1))) (wf := fun q => q.2) C hd h ql_X7_33 qi_X7_own qs_X7_own qn_X7 qc_X7_own ⟨rfl, by decide +kernel, by decide +kernel, (by decide +kernel : (parseMethodDescriptor yX7_own.desc).map (fun d => d.parameters.length) = some 3)⟩ ⟨hR, by decide⟩ kx_67 rfl (fun q hq l => c_X7_own hq l) rfl hr kk
def f_X7_raise (p1 : Int32) (p2 : Int32) (p3 : Int32) (p4 : Int32) (p5 : Int32) (w : Wd) : Option (Int32 × Wd) := wl (updW w 67 1 p1) (fun w1 => wl (updW w1 67 2 p2) (fun w2 => wl (updW w2 67 3 p3) (fun w3 => bd (f_X4_clear 68 w3) (fun q4 => bd (f_X7_own p4 p5 (0:Int32) q4) (fun q5 => some (q5.1, q5.2))))))
set_option maxRecDepth 20000 in
theorem b_X7_raise_E {G : Gv} {V : Vt} {res : Int32 × Wd}  (C : CX cX7_raise RX7 G SX 6 103 (some FieldType.int) (some (.int res.1)) res.2 V) {p1 : Int32} {p2 : Int32} {p3 : Int32} {p4 : Int32} {p5 : Int32} {w : Wd} (h : f_X7_raise p1 p2 p3 p4 p5 w = some res) : V w 0 [(0, .ref (G.2 67)), (1, .int p1), (2, .int p2), (3, .int p3), (4, .int p4), (5, .int p5)] [] := by
  unfold f_X7_raise at h
  refine r_aload_n (pc := 0) C dX7_raise_0 rfl 0 rfl ?_
  refine r_iload_n (pc := 1) C dX7_raise_1 rfl 1 rfl ?_
  refine pi_X7_20 (pc := 2) C dX7_raise_2 kx_67 rfl h (fun w1 h => ?_)
  refine r_aload_n (pc := 5) C dX7_raise_5 rfl 0 rfl ?_
  refine r_iload_n (pc := 6) C dX7_raise_6 rfl 2 rfl ?_
  refine pi_X7_24 (pc := 7) C dX7_raise_7 kx_67 rfl h (fun w2 h => ?_)
  refine r_aload_n (pc := 10) C dX7_raise_10 rfl 0 rfl ?_
  refine r_iload_n (pc := 11) C dX7_raise_11 rfl 3 rfl ?_
  refine pi_X7_27 (pc := 12) C dX7_raise_12 kx_67 rfl h (fun w3 h => ?_)
  refine r_aload_n (pc := 15) C dX7_raise_15 rfl 0 rfl ?_
  refine gr_X7_14 (pc := 16) 68 C dX7_raise_16 kx_67 rfl ?_
  refine cv_X7_30 (pc := 19) C dX7_raise_19 isRo_68 h (by decide) (Nat.le_of_ble_eq_true rfl) (fun q4 h => ?_)
  refine r_aload_n (pc := 22) C dX7_raise_22 rfl 0 rfl ?_
  refine r_iload (pc := 23) C dX7_raise_23 4 rfl ?_
  refine r_iload (pc := 25) C dX7_raise_25 5 rfl ?_
  refine r_iconst (v := (0:Int32)) (pc := 27) C dX7_raise_27 (by decide) ?_
  refine cv_X7_33 (pc := 28) C dX7_raise_28  h (by decide) (Nat.le_of_ble_eq_true rfl) (fun q5 h => ?_)
  exact r_iretE (pc := 31) C dX7_raise_31 h
theorem c_X7_raise {G : Gv} {p1 : Int32} {p2 : Int32} {p3 : Int32} {p4 : Int32} {p5 : Int32} {w : Wd} {res : Int32 × Wd} (h : f_X7_raise p1 p2 p3 p4 p5 w = some res) (l : Launch) : MC l yX7_raise cX7_raise 6 (some FieldType.int) 103 G SX w [.ref (G.2 67), .int p1, .int p2, .int p3, .int p4, .int p5] (some (.int res.1)) res.2 := mc_of (by decide +kernel) rfl (Nat.le_of_ble_eq_true rfl) rfl (fun V C => b_X7_raise_E C h) l
def f_X8_isWithin (p0 : Int32) (p1 : Int32) (p2 : Int32) : Option (Int32) := (if p0 < p1 then some (0:Int32) else (if p2 < p0 then some (0:Int32) else some (1:Int32)))
set_option maxRecDepth 20000 in
theorem b_X8_isWithin_E {G : Gv} {V : Vt} {w : Wd} {res : Int32}  (C : CX cX8_isWithin RX8 G SX 3 1 (some FieldType.boolean) (some (.int res)) w V) {p0 : Int32} {p1 : Int32} {p2 : Int32} (h : f_X8_isWithin p0 p1 p2 = some res) : V w 0 [(0, .int p0), (1, .int p1), (2, .int p2)] [] := by
  unfold f_X8_isWithin at h
  refine r_iload_n (pc := 0) C dX8_isWithin_0 rfl 0 rfl ?_
  refine r_iload_n (pc := 1) C dX8_isWithin_1 rfl 1 rfl ?_
  refine r_icmp_lt (pc := 2) C 14 dX8_isWithin_2 (by decide) h (fun h => ?_) (fun h => ?_)
  · refine r_iconst (v := (0:Int32)) (pc := 14) C dX8_isWithin_14 (by decide) ?_
    exact r_zretP (pc := 15) C rfl dX8_isWithin_15 h
  · refine r_iload_n (pc := 5) C dX8_isWithin_5 rfl 0 rfl ?_
    refine r_iload_n (pc := 6) C dX8_isWithin_6 rfl 2 rfl ?_
    refine r_icmp_gt (pc := 7) C 14 dX8_isWithin_7 (by decide) h (fun h => ?_) (fun h => ?_)
    · refine r_iconst (v := (0:Int32)) (pc := 14) C dX8_isWithin_14 (by decide) ?_
      exact r_zretP (pc := 15) C rfl dX8_isWithin_15 h
    · refine r_iconst (v := (1:Int32)) (pc := 10) C dX8_isWithin_10 (by decide) ?_
      refine r_goto (pc := 11) C 15 dX8_isWithin_11 (by decide) ?_
      exact r_zretP (pc := 15) C rfl dX8_isWithin_15 h
theorem c_X8_isWithin {G : Gv} {p0 : Int32} {p1 : Int32} {p2 : Int32} {w : Wd} {res : Int32} (h : f_X8_isWithin p0 p1 p2 = some res) (l : Launch) : MC l yX8_isWithin cX8_isWithin 3 (some FieldType.boolean) 1 G SX w [.int p0, .int p1, .int p2] (some (.int res)) w := mc_of (by decide +kernel) rfl (Nat.le_of_ble_eq_true rfl) rfl (fun V C => b_X8_isWithin_E C h) l
theorem cv_X8_65 {cc : ByteArray} {G : Gv} {n hc : Nat} {rt : Option FieldType} {rv : Option Value} {w0 : Wd} {V : Vt} {w : Wd} {pc : Nat} {L : List (Nat × Value)} {rest : List Value} {α : Type} {res : α} {p0 : Int32} {p1 : Int32} {p2 : Int32} {K : Int32 → Option α} (C : CX cc RX8 G SX n hc rt rv w0 V) (hd : decode cc pc = .ok (.invokestatic 65, 3)) (h : bd (f_X8_isWithin p0 p1 p2) K = some res) (hR : 1 + 1 ≤ hc) (hr : (rest.map fun v => v.category).sum ≤ 8) (kk : ∀ q, K q = some res → V w (pc + 3) L (.int q :: rest)) : V w pc L (.int p2 :: .int p1 :: .int p0 :: rest) := r_callS (As := [.int p0, .int p1, .int p2]) (rest := rest) (rvf := fun q => (some (.int q))) (wf := fun q => w) C hd h ql_X8_65 qt_X8_isWithin qn_X8 qc_X8_isWithin ⟨by decide +kernel, by decide +kernel, (by decide +kernel : (parseMethodDescriptor yX8_isWithin.desc).map (fun d => d.parameters.length) = some 3)⟩ ⟨hR, by decide⟩ (fun q hq l => c_X8_isWithin hq l) rfl hr kk
def f_X8_isKindWithMark (p0 : Int32) : Option (Int32) := bd (f_X8_isWithin p0 (0:Int32) (69:Int32)) (fun q1 => zk q1 (some q1))
set_option maxRecDepth 20000 in
theorem b_X8_isKindWithMark_E {G : Gv} {V : Vt} {w : Wd} {res : Int32}  (C : CX cX8_isKindWithMark RX8 G SX 1 2 (some FieldType.boolean) (some (.int res)) w V) {p0 : Int32} (h : f_X8_isKindWithMark p0 = some res) : V w 0 [(0, .int p0)] [] := by
  unfold f_X8_isKindWithMark at h
  refine r_iload_n (pc := 0) C dX8_isKindWithMark_0 rfl 0 rfl ?_
  refine r_iconst (v := (0:Int32)) (pc := 1) C dX8_isKindWithMark_1 (by decide) ?_
  refine r_bipush (v := (69:Int32)) (pc := 2) C dX8_isKindWithMark_2 (by decide) ?_
  refine cv_X8_65 (pc := 4) C dX8_isKindWithMark_4  h (by decide) (Nat.le_of_ble_eq_true rfl) (fun q1 h => ?_)
  refine r_zk h (fun hn h => ?_)
  exact r_zretP (pc := 7) C hn dX8_isKindWithMark_7 h
theorem c_X8_isKindWithMark {G : Gv} {p0 : Int32} {w : Wd} {res : Int32} (h : f_X8_isKindWithMark p0 = some res) (l : Launch) : MC l yX8_isKindWithMark cX8_isKindWithMark 1 (some FieldType.boolean) 2 G SX w [.int p0] (some (.int res)) w := mc_of (by decide +kernel) rfl (Nat.le_of_ble_eq_true rfl) rfl (fun V C => b_X8_isKindWithMark_E C h) l
def f_X8_error (p1 : Int32) (w : Wd) : Option (Int32 × Wd) := ald w 80 6 p1 (fun v1 => ast w 80 6 p1 (v1 + (1:Int32)) (fun w2 => some (((-1000000000:Int32) - p1), w2)))
set_option maxRecDepth 20000 in
theorem b_X8_error_E {G : Gv} {V : Vt} {res : Int32 × Wd}  (C : CX cX8_error RX8 G SX 2 1 (some FieldType.int) (some (.int res.1)) res.2 V) {p1 : Int32} {w : Wd} (h : f_X8_error p1 w = some res) : V w 0 [(0, .ref (G.2 0)), (1, .int p1)] [] := by
  unfold f_X8_error at h
  refine r_aload_n (pc := 0) C dX8_error_0 rfl 0 rfl ?_
  refine gr_X8_58 (pc := 1) 80 C dX8_error_1 kx_0 rfl ?_
  refine r_iload_n (pc := 4) C dX8_error_4 rfl 1 rfl ?_
  refine r_dup2 (pc := 5) C dX8_error_5 rfl rfl ?_
  refine r_ald (pc := 6) C dX8_error_6 h kx_80 (fun v1 h => ?_)
  refine r_iconst (v := (1:Int32)) (pc := 7) C dX8_error_7 (by decide) ?_
  refine r_iadd (pc := 8) C dX8_error_8 ?_
  refine r_ast (pc := 9) C dX8_error_9 h kx_80 (fun w2 h => ?_)
  refine r_ldcw (pc := 10) C dX8_error_10 qk_X8_320 ?_
  refine r_iload_n (pc := 13) C dX8_error_13 rfl 1 rfl ?_
  refine r_isub (pc := 14) C dX8_error_14 ?_
  exact r_iretE (pc := 15) C dX8_error_15 h
theorem c_X8_error {G : Gv} {p1 : Int32} {w : Wd} {res : Int32 × Wd} (h : f_X8_error p1 w = some res) (l : Launch) : MC l yX8_error cX8_error 2 (some FieldType.int) 1 G SX w [.ref (G.2 0), .int p1] (some (.int res.1)) res.2 := mc_of (by decide +kernel) rfl (Nat.le_of_ble_eq_true rfl) rfl (fun V C => b_X8_error_E C h) l
