section LW0
variable {cc : ByteArray} {own : String} {G : Gv} {n hc mc ms h0 : Nat} {e0 : va_E} {e1 : Fa → va_E} {wn : Fa → va_W} {V : Kt} {ws : va_W} {c0 : Nat × va_E} {k z pc : Nat} {L L' : List (Nat × Value)} {rest : List Value}
theorem k_iast (C : KC cc own G n hc mc ms h0 e0 e1 wn V) {qa N q0 : Nat} {f : Nat → Int32} {i x : Int32} {ws' : va_W} (hd : decode cc pc = .ok (.iastore, 1)) (ha : ws[q0]? = some (qa, .inl (G.2 1001, N, .inl f))) (hin : vp_in i N) (hws : ws.set q0 (qa, .inl (G.2 1001, N, .inl (upd f i.toNatClampNeg x))) = ws') (kk : V ws' k z (pc + 1) L rest) : V ws k z pc L (.int x :: .int i :: .ref qa :: rest) := by
  subst hws
  obtain ⟨p, l, e, s, m, args, below, meth, c, rfl, hx, hb, hml, hown, hts, hK, hN, hlk, hrt, hnm⟩ := C
  intro ls H locs hl hP hD hS
  exact va_iast hx hb hK hP hD hS q0 0 ha rfl hin hd (fun H1 locs1 hP1 hD1 hS1 => kk ls H1 locs1 hl hP1 hD1 hS1)
def ke_X9 (G : Gv) (f : Fa) : va_E := .inr (9, [.ref (f 0), .ref (f 1), .ref (f 2), .ref (f 3), .int 0, .int 0, .ref (f 4), .int 0, .int 0, .int 0, .int 0, .int 0, .int 0, .int 0, .int 0, .ref (f 5), .ref (f 6), .ref (f 7), .ref (f 8), .ref (f 9), .ref (f 10), .ref (f 11), .ref (f 12), .ref (f 13), .int 0, .int 0, .int 0, .int 0])
def kw_X9 (G : Gv) (f : Fa) : va_W := [(f 0, .inl (G.2 1001, 229, .inl (upd (upd (upd (fun _ => 0) 2 1) 6 (-1)) 7 (-1)))), (f 1, .inl (G.2 1001, 229, .inl (fun _ => 0))), (f 2, .inl (G.2 1001, 229, .inl (fun _ => 0))), (f 3, .inl (G.2 1001, 229, .inl (fun _ => 0))), (f 4, .inl (G.2 1001, 6, .inl (fun _ => 0))), (f 5, .inl (G.2 1001, 5, .inl (fun _ => 0))), (f 6, .inl (G.2 1001, 5, .inl (fun _ => 0))), (f 7, .inl (G.2 1001, 6, .inl (fun _ => 0))), (f 8, .inl (G.2 1001, 5, .inl (fun _ => 0))), (f 9, .inl (G.2 1001, 4, .inl (fun _ => 0))), (f 10, .inl (G.2 1001, 4, .inl (fun _ => 0))), (f 11, .inl (G.2 1001, 160, .inl (fun _ => 0))), (f 12, .inl (G.2 1001, 40, .inl (fun _ => 0))), (f 13, .inl (G.2 1001, 40, .inl (fun _ => 0)))]
set_option maxRecDepth 100000 in
set_option maxHeartbeats 4000000 in
theorem k_X9 {G : Gv} (h0 : Nat) (l : Launch) (sz : Nat) : MK l yX9_init cX9_init 1 2 G sz h0 (.inr (9, [.null, .null, .null, .null, .int 0, .int 0, .null, .int 0, .int 0, .int 0, .int 0, .int 0, .int 0, .int 0, .int 0, .null, .null, .null, .null, .null, .null, .null, .null, .null, .int 0, .int 0, .int 0, .int 0])) [] 14 1191 (ke_X9 G) (kw_X9 G) := by
  refine mk_of (by decide +kernel) rfl rfl (Nat.le_of_ble_eq_true rfl) rfl (fun V C => ?_) l sz
  refine k_aload_n (pc := 0) C dX9_init_0 rfl 0 rfl ?_
  refine k_objinit (pc := 1) C dX9_init_1 qlo_X9 (Nat.le_of_ble_eq_true rfl) ?_
  refine k_aload_n (pc := 4) C dX9_init_4 rfl 0 rfl ?_
  refine k_sipush (v := (229:Int32)) (pc := 5) C dX9_init_5 (by decide) ?_
  refine k_newa_int (N := 229) (pc := 8) C dX9_init_8 (by decide) (by decide) (by decide) (Nat.le_of_ble_eq_true rfl) (Nat.le_of_ble_eq_true rfl) (fun q1 => ?_)
  refine k_putF (fs' := [.ref q1, .null, .null, .null, .int 0, .int 0, .null, .int 0, .int 0, .int 0, .int 0, .int 0, .int 0, .int 0, .int 0, .null, .null, .null, .null, .null, .null, .null, .null, .null, .int 0, .int 0, .int 0, .int 0]) (ci := 9) (j := 0) (ty := tyX9 0) (pc := 10) C tyX9 dX9_init_10 rfl inX9 (by decide) qf_X9_7 rfl tyX9_ok nmX9 rfl rfl (tyX9_ok 0 (by decide)) rfl rfl (Nat.le_of_ble_eq_true rfl) rfl ?_
  refine k_aload_n (pc := 13) C dX9_init_13 rfl 0 rfl ?_
  refine k_sipush (v := (229:Int32)) (pc := 14) C dX9_init_14 (by decide) ?_
  refine k_newa_int (N := 229) (pc := 17) C dX9_init_17 (by decide) (by decide) (by decide) (Nat.le_of_ble_eq_true rfl) (Nat.le_of_ble_eq_true rfl) (fun q2 => ?_)
  refine k_putF (fs' := [.ref q1, .ref q2, .null, .null, .int 0, .int 0, .null, .int 0, .int 0, .int 0, .int 0, .int 0, .int 0, .int 0, .int 0, .null, .null, .null, .null, .null, .null, .null, .null, .null, .int 0, .int 0, .int 0, .int 0]) (ci := 9) (j := 1) (ty := tyX9 1) (pc := 19) C tyX9 dX9_init_19 rfl inX9 (by decide) qf_X9_13 rfl tyX9_ok nmX9 rfl rfl (tyX9_ok 1 (by decide)) rfl rfl (Nat.le_of_ble_eq_true rfl) rfl ?_
  refine k_aload_n (pc := 22) C dX9_init_22 rfl 0 rfl ?_
  refine k_sipush (v := (229:Int32)) (pc := 23) C dX9_init_23 (by decide) ?_
  refine k_newa_int (N := 229) (pc := 26) C dX9_init_26 (by decide) (by decide) (by decide) (Nat.le_of_ble_eq_true rfl) (Nat.le_of_ble_eq_true rfl) (fun q3 => ?_)
  refine k_putF (fs' := [.ref q1, .ref q2, .ref q3, .null, .int 0, .int 0, .null, .int 0, .int 0, .int 0, .int 0, .int 0, .int 0, .int 0, .int 0, .null, .null, .null, .null, .null, .null, .null, .null, .null, .int 0, .int 0, .int 0, .int 0]) (ci := 9) (j := 2) (ty := tyX9 2) (pc := 28) C tyX9 dX9_init_28 rfl inX9 (by decide) qf_X9_16 rfl tyX9_ok nmX9 rfl rfl (tyX9_ok 2 (by decide)) rfl rfl (Nat.le_of_ble_eq_true rfl) rfl ?_
  refine k_aload_n (pc := 31) C dX9_init_31 rfl 0 rfl ?_
  refine k_sipush (v := (229:Int32)) (pc := 32) C dX9_init_32 (by decide) ?_
  refine k_newa_int (N := 229) (pc := 35) C dX9_init_35 (by decide) (by decide) (by decide) (Nat.le_of_ble_eq_true rfl) (Nat.le_of_ble_eq_true rfl) (fun q4 => ?_)
  refine k_putF (fs' := [.ref q1, .ref q2, .ref q3, .ref q4, .int 0, .int 0, .null, .int 0, .int 0, .int 0, .int 0, .int 0, .int 0, .int 0, .int 0, .null, .null, .null, .null, .null, .null, .null, .null, .null, .int 0, .int 0, .int 0, .int 0]) (ci := 9) (j := 3) (ty := tyX9 3) (pc := 37) C tyX9 dX9_init_37 rfl inX9 (by decide) qf_X9_19 rfl tyX9_ok nmX9 rfl rfl (tyX9_ok 3 (by decide)) rfl rfl (Nat.le_of_ble_eq_true rfl) rfl ?_
  refine k_aload_n (pc := 40) C dX9_init_40 rfl 0 rfl ?_
  refine k_bipush (v := (6:Int32)) (pc := 41) C dX9_init_41 (by decide) ?_
  refine k_newa_int (N := 6) (pc := 43) C dX9_init_43 (by decide) (by decide) (by decide) (Nat.le_of_ble_eq_true rfl) (Nat.le_of_ble_eq_true rfl) (fun q5 => ?_)
  refine k_putF (fs' := [.ref q1, .ref q2, .ref q3, .ref q4, .int 0, .int 0, .ref q5, .int 0, .int 0, .int 0, .int 0, .int 0, .int 0, .int 0, .int 0, .null, .null, .null, .null, .null, .null, .null, .null, .null, .int 0, .int 0, .int 0, .int 0]) (ci := 9) (j := 6) (ty := tyX9 6) (pc := 45) C tyX9 dX9_init_45 rfl inX9 (by decide) qf_X9_22 rfl tyX9_ok nmX9 rfl rfl (tyX9_ok 6 (by decide)) rfl rfl (Nat.le_of_ble_eq_true rfl) rfl ?_
  refine k_aload_n (pc := 48) C dX9_init_48 rfl 0 rfl ?_
  refine k_iconst (v := (5:Int32)) (pc := 49) C dX9_init_49 (by decide) ?_
  refine k_newa_int (N := 5) (pc := 50) C dX9_init_50 (by decide) (by decide) (by decide) (Nat.le_of_ble_eq_true rfl) (Nat.le_of_ble_eq_true rfl) (fun q6 => ?_)
  refine k_putF (fs' := [.ref q1, .ref q2, .ref q3, .ref q4, .int 0, .int 0, .ref q5, .int 0, .int 0, .int 0, .int 0, .int 0, .int 0, .int 0, .int 0, .ref q6, .null, .null, .null, .null, .null, .null, .null, .null, .int 0, .int 0, .int 0, .int 0]) (ci := 9) (j := 15) (ty := tyX9 15) (pc := 52) C tyX9 dX9_init_52 rfl inX9 (by decide) qf_X9_25 rfl tyX9_ok nmX9 rfl rfl (tyX9_ok 15 (by decide)) rfl rfl (Nat.le_of_ble_eq_true rfl) rfl ?_
  refine k_aload_n (pc := 55) C dX9_init_55 rfl 0 rfl ?_
  refine k_iconst (v := (5:Int32)) (pc := 56) C dX9_init_56 (by decide) ?_
  refine k_newa_int (N := 5) (pc := 57) C dX9_init_57 (by decide) (by decide) (by decide) (Nat.le_of_ble_eq_true rfl) (Nat.le_of_ble_eq_true rfl) (fun q7 => ?_)
  refine k_putF (fs' := [.ref q1, .ref q2, .ref q3, .ref q4, .int 0, .int 0, .ref q5, .int 0, .int 0, .int 0, .int 0, .int 0, .int 0, .int 0, .int 0, .ref q6, .ref q7, .null, .null, .null, .null, .null, .null, .null, .int 0, .int 0, .int 0, .int 0]) (ci := 9) (j := 16) (ty := tyX9 16) (pc := 59) C tyX9 dX9_init_59 rfl inX9 (by decide) qf_X9_28 rfl tyX9_ok nmX9 rfl rfl (tyX9_ok 16 (by decide)) rfl rfl (Nat.le_of_ble_eq_true rfl) rfl ?_
  refine k_aload_n (pc := 62) C dX9_init_62 rfl 0 rfl ?_
  refine k_bipush (v := (6:Int32)) (pc := 63) C dX9_init_63 (by decide) ?_
  refine k_newa_int (N := 6) (pc := 65) C dX9_init_65 (by decide) (by decide) (by decide) (Nat.le_of_ble_eq_true rfl) (Nat.le_of_ble_eq_true rfl) (fun q8 => ?_)
  refine k_putF (fs' := [.ref q1, .ref q2, .ref q3, .ref q4, .int 0, .int 0, .ref q5, .int 0, .int 0, .int 0, .int 0, .int 0, .int 0, .int 0, .int 0, .ref q6, .ref q7, .ref q8, .null, .null, .null, .null, .null, .null, .int 0, .int 0, .int 0, .int 0]) (ci := 9) (j := 17) (ty := tyX9 17) (pc := 67) C tyX9 dX9_init_67 rfl inX9 (by decide) qf_X9_31 rfl tyX9_ok nmX9 rfl rfl (tyX9_ok 17 (by decide)) rfl rfl (Nat.le_of_ble_eq_true rfl) rfl ?_
  refine k_aload_n (pc := 70) C dX9_init_70 rfl 0 rfl ?_
  refine k_iconst (v := (5:Int32)) (pc := 71) C dX9_init_71 (by decide) ?_
  refine k_newa_int (N := 5) (pc := 72) C dX9_init_72 (by decide) (by decide) (by decide) (Nat.le_of_ble_eq_true rfl) (Nat.le_of_ble_eq_true rfl) (fun q9 => ?_)
  refine k_putF (fs' := [.ref q1, .ref q2, .ref q3, .ref q4, .int 0, .int 0, .ref q5, .int 0, .int 0, .int 0, .int 0, .int 0, .int 0, .int 0, .int 0, .ref q6, .ref q7, .ref q8, .ref q9, .null, .null, .null, .null, .null, .int 0, .int 0, .int 0, .int 0]) (ci := 9) (j := 18) (ty := tyX9 18) (pc := 74) C tyX9 dX9_init_74 rfl inX9 (by decide) qf_X9_34 rfl tyX9_ok nmX9 rfl rfl (tyX9_ok 18 (by decide)) rfl rfl (Nat.le_of_ble_eq_true rfl) rfl ?_
  refine k_aload_n (pc := 77) C dX9_init_77 rfl 0 rfl ?_
  refine k_iconst (v := (4:Int32)) (pc := 78) C dX9_init_78 (by decide) ?_
  refine k_newa_int (N := 4) (pc := 79) C dX9_init_79 (by decide) (by decide) (by decide) (Nat.le_of_ble_eq_true rfl) (Nat.le_of_ble_eq_true rfl) (fun q10 => ?_)
  refine k_putF (fs' := [.ref q1, .ref q2, .ref q3, .ref q4, .int 0, .int 0, .ref q5, .int 0, .int 0, .int 0, .int 0, .int 0, .int 0, .int 0, .int 0, .ref q6, .ref q7, .ref q8, .ref q9, .ref q10, .null, .null, .null, .null, .int 0, .int 0, .int 0, .int 0]) (ci := 9) (j := 19) (ty := tyX9 19) (pc := 81) C tyX9 dX9_init_81 rfl inX9 (by decide) qf_X9_37 rfl tyX9_ok nmX9 rfl rfl (tyX9_ok 19 (by decide)) rfl rfl (Nat.le_of_ble_eq_true rfl) rfl ?_
  refine k_aload_n (pc := 84) C dX9_init_84 rfl 0 rfl ?_
  refine k_iconst (v := (4:Int32)) (pc := 85) C dX9_init_85 (by decide) ?_
  refine k_newa_int (N := 4) (pc := 86) C dX9_init_86 (by decide) (by decide) (by decide) (Nat.le_of_ble_eq_true rfl) (Nat.le_of_ble_eq_true rfl) (fun q11 => ?_)
  refine k_putF (fs' := [.ref q1, .ref q2, .ref q3, .ref q4, .int 0, .int 0, .ref q5, .int 0, .int 0, .int 0, .int 0, .int 0, .int 0, .int 0, .int 0, .ref q6, .ref q7, .ref q8, .ref q9, .ref q10, .ref q11, .null, .null, .null, .int 0, .int 0, .int 0, .int 0]) (ci := 9) (j := 20) (ty := tyX9 20) (pc := 88) C tyX9 dX9_init_88 rfl inX9 (by decide) qf_X9_40 rfl tyX9_ok nmX9 rfl rfl (tyX9_ok 20 (by decide)) rfl rfl (Nat.le_of_ble_eq_true rfl) rfl ?_
  refine k_aload_n (pc := 91) C dX9_init_91 rfl 0 rfl ?_
  refine k_sipush (v := (160:Int32)) (pc := 92) C dX9_init_92 (by decide) ?_
  refine k_newa_int (N := 160) (pc := 95) C dX9_init_95 (by decide) (by decide) (by decide) (Nat.le_of_ble_eq_true rfl) (Nat.le_of_ble_eq_true rfl) (fun q12 => ?_)
  refine k_putF (fs' := [.ref q1, .ref q2, .ref q3, .ref q4, .int 0, .int 0, .ref q5, .int 0, .int 0, .int 0, .int 0, .int 0, .int 0, .int 0, .int 0, .ref q6, .ref q7, .ref q8, .ref q9, .ref q10, .ref q11, .ref q12, .null, .null, .int 0, .int 0, .int 0, .int 0]) (ci := 9) (j := 21) (ty := tyX9 21) (pc := 97) C tyX9 dX9_init_97 rfl inX9 (by decide) qf_X9_43 rfl tyX9_ok nmX9 rfl rfl (tyX9_ok 21 (by decide)) rfl rfl (Nat.le_of_ble_eq_true rfl) rfl ?_
  refine k_aload_n (pc := 100) C dX9_init_100 rfl 0 rfl ?_
  refine k_bipush (v := (40:Int32)) (pc := 101) C dX9_init_101 (by decide) ?_
  refine k_newa_int (N := 40) (pc := 103) C dX9_init_103 (by decide) (by decide) (by decide) (Nat.le_of_ble_eq_true rfl) (Nat.le_of_ble_eq_true rfl) (fun q13 => ?_)
  refine k_putF (fs' := [.ref q1, .ref q2, .ref q3, .ref q4, .int 0, .int 0, .ref q5, .int 0, .int 0, .int 0, .int 0, .int 0, .int 0, .int 0, .int 0, .ref q6, .ref q7, .ref q8, .ref q9, .ref q10, .ref q11, .ref q12, .ref q13, .null, .int 0, .int 0, .int 0, .int 0]) (ci := 9) (j := 22) (ty := tyX9 22) (pc := 105) C tyX9 dX9_init_105 rfl inX9 (by decide) qf_X9_46 rfl tyX9_ok nmX9 rfl rfl (tyX9_ok 22 (by decide)) rfl rfl (Nat.le_of_ble_eq_true rfl) rfl ?_
  refine k_aload_n (pc := 108) C dX9_init_108 rfl 0 rfl ?_
  refine k_bipush (v := (40:Int32)) (pc := 109) C dX9_init_109 (by decide) ?_
  refine k_newa_int (N := 40) (pc := 111) C dX9_init_111 (by decide) (by decide) (by decide) (Nat.le_of_ble_eq_true rfl) (Nat.le_of_ble_eq_true rfl) (fun q14 => ?_)
  refine k_putF (fs' := [.ref q1, .ref q2, .ref q3, .ref q4, .int 0, .int 0, .ref q5, .int 0, .int 0, .int 0, .int 0, .int 0, .int 0, .int 0, .int 0, .ref q6, .ref q7, .ref q8, .ref q9, .ref q10, .ref q11, .ref q12, .ref q13, .ref q14, .int 0, .int 0, .int 0, .int 0]) (ci := 9) (j := 23) (ty := tyX9 23) (pc := 113) C tyX9 dX9_init_113 rfl inX9 (by decide) qf_X9_49 rfl tyX9_ok nmX9 rfl rfl (tyX9_ok 23 (by decide)) rfl rfl (Nat.le_of_ble_eq_true rfl) rfl ?_
  refine k_aload_n (pc := 116) C dX9_init_116 rfl 0 rfl ?_
  refine k_get (ci := 9) (j := 0) (q0 := 0) (pc := 117) C dX9_init_117 rfl rfl inX9 (by decide) qf_X9_7 rfl rfl ?_
  refine k_iconst (v := (2:Int32)) (pc := 120) C dX9_init_120 (by decide) ?_
  refine k_iconst (v := (1:Int32)) (pc := 121) C dX9_init_121 (by decide) ?_
  refine k_iast (q0 := 1) (pc := 122) C dX9_init_122 rfl (bad_in rfl) rfl ?_
  refine k_aload_n (pc := 123) C dX9_init_123 rfl 0 rfl ?_
  refine k_get (ci := 9) (j := 0) (q0 := 0) (pc := 124) C dX9_init_124 rfl rfl inX9 (by decide) qf_X9_7 rfl rfl ?_
  refine k_bipush (v := (6:Int32)) (pc := 127) C dX9_init_127 (by decide) ?_
  refine k_iconst (v := (-1:Int32)) (pc := 129) C dX9_init_129 (by decide) ?_
  refine k_iast (q0 := 1) (pc := 130) C dX9_init_130 rfl (bad_in rfl) rfl ?_
  refine k_aload_n (pc := 131) C dX9_init_131 rfl 0 rfl ?_
  refine k_get (ci := 9) (j := 0) (q0 := 0) (pc := 132) C dX9_init_132 rfl rfl inX9 (by decide) qf_X9_7 rfl rfl ?_
  refine k_bipush (v := (7:Int32)) (pc := 135) C dX9_init_135 (by decide) ?_
  refine k_iconst (v := (-1:Int32)) (pc := 137) C dX9_init_137 (by decide) ?_
  refine k_iast (q0 := 1) (pc := 138) C dX9_init_138 rfl (bad_in rfl) rfl ?_
  refine k_vret (pc := 139) C dX9_init_139 (Nat.le_of_ble_eq_true rfl) (Nat.le_of_ble_eq_true rfl) (fun i => [q1, q2, q3, q4, q5, q6, q7, q8, q9, q10, q11, q12, q13, q14].getD i 0) ?_
  rfl
end LW0
section LW
abbrev Lt : Type := Wd → Wd → Nat → List (Nat × Value) → List Value → Prop
def inL (k : Nat) : Prop := k < 83 ∨ (100 ≤ k ∧ k < 115)
def LX (G : Gv) (b Ln : Nat) (xs : Nat → Int32) (V : Lt) : Prop :=
  ∃ (p : Program) (l : Launch) (e : Env) (s : State) (m : MethodId) (below : List Frame) (meth : Method) (c : Code),
    V = (fun x y pc L st => ∀ (ls : Array Slot) (H : Heap) (locs : List Loc), lv_has ls 4 L → va_P G.1 vwCl (cellsW G SX x) H → va_P G.1 vwCl (cellsW G SM y) H → va_S (fun q => s.heap.size ≤ q) s.heap H locs → W p l e room_1 s m #[Value.ref b] below meth c H locs 600000 7302250 (lw_Z below #[Value.ref b] s) (F0 m pc ls st)) ∧
    p.tables.exec = Jvm.exec ∧ c.code = code ∧ c.maxLocals = 4 ∧ s.vm.findClass RL = some m.cls ∧ (∀ w ∈ TB, w.before #[Value.ref b] s = true) ∧ va_K G.1 vwCl (tysG G) s ∧ va_X b Ln xs s s.heap ∧ b < s.heap.size ∧ (∀ i j, inL i → inL j → G.2 i = G.2 j → i = j) ∧ (∀ k, inL k → s.heap.size ≤ G.2 k) ∧ ST G (fun q => s.heap.size ≤ q) s s.heap ∧ (∀ (H : Heap) (locs : List Loc) (pc : Nat) (ls : Array Slot), va_S (fun q => s.heap.size ≤ q) s.heap H locs → decode code pc = .ok (.ireturn, 1) → W p l e room_1 s m #[Value.ref b] below meth c H locs 600000 7302250 (lw_Z below #[Value.ref b] s) (F0 m pc ls [.int 1]))
variable {G : Gv} {b Ln : Nat} {xs : Nat → Int32} {V : Lt} {x y : Wd} {pc : Nat} {L L' : List (Nat × Value)} {rest : List Value}
theorem l_iconst (C : LX G b Ln xs V) {a : Int} {v : Int32} (hd : decode code pc = .ok (.iconst a, 1)) (hv : Int32.ofInt a = v) (kk : V x y (pc + 1) L (.int v :: rest)) : V x y pc L (rest) := by
  obtain ⟨p, l, e, s, m, below, meth, c, rfl, hx, hb, hml, hown, hts, hK, hX, hbl, hinj, hge, hST, hret⟩ := C
  exact fun ls H locs hl hP hM hS => lv_iconst hx hb hd hv (kk ls H locs hl hP hM hS)
theorem l_bipush (C : LX G b Ln xs V) {a : Int} {v : Int32} (hd : decode code pc = .ok (.bipush a, 2)) (hv : (Int8.ofInt a).toInt32 = v) (kk : V x y (pc + 2) L (.int v :: rest)) : V x y pc L (rest) := by
  obtain ⟨p, l, e, s, m, below, meth, c, rfl, hx, hb, hml, hown, hts, hK, hX, hbl, hinj, hge, hST, hret⟩ := C
  exact fun ls H locs hl hP hM hS => lv_bipush hx hb hd hv (kk ls H locs hl hP hM hS)
theorem l_iadd (C : LX G b Ln xs V) {u v : Int32} (hd : decode code pc = .ok (.iadd, 1))  (kk : V x y (pc + 1) L (.int (u + v) :: rest)) : V x y pc L (.int v :: .int u :: rest) := by
  obtain ⟨p, l, e, s, m, below, meth, c, rfl, hx, hb, hml, hown, hts, hK, hX, hbl, hinj, hge, hST, hret⟩ := C
  exact fun ls H locs hl hP hM hS => lv_iadd hx hb hd  (kk ls H locs hl hP hM hS)
theorem l_isub (C : LX G b Ln xs V) {u v : Int32} (hd : decode code pc = .ok (.isub, 1))  (kk : V x y (pc + 1) L (.int (u - v) :: rest)) : V x y pc L (.int v :: .int u :: rest) := by
  obtain ⟨p, l, e, s, m, below, meth, c, rfl, hx, hb, hml, hown, hts, hK, hX, hbl, hinj, hge, hST, hret⟩ := C
  exact fun ls H locs hl hP hM hS => lv_isub hx hb hd  (kk ls H locs hl hP hM hS)
theorem l_iand (C : LX G b Ln xs V) {u v : Int32} (hd : decode code pc = .ok (.iand, 1))  (kk : V x y (pc + 1) L (.int (u &&& v) :: rest)) : V x y pc L (.int v :: .int u :: rest) := by
  obtain ⟨p, l, e, s, m, below, meth, c, rfl, hx, hb, hml, hown, hts, hK, hX, hbl, hinj, hge, hST, hret⟩ := C
  exact fun ls H locs hl hP hM hS => lv_iand hx hb hd  (kk ls H locs hl hP hM hS)
theorem l_land (C : LX G b Ln xs V) {u v : Int64} (hd : decode code pc = .ok (.land, 1))  (kk : V x y (pc + 1) L (.long (u &&& v) :: rest)) : V x y pc L (.long v :: .long u :: rest) := by
  obtain ⟨p, l, e, s, m, below, meth, c, rfl, hx, hb, hml, hown, hts, hK, hX, hbl, hinj, hge, hST, hret⟩ := C
  exact fun ls H locs hl hP hM hS => lv_land hx hb hd  (kk ls H locs hl hP hM hS)
theorem l_lor (C : LX G b Ln xs V) {u v : Int64} (hd : decode code pc = .ok (.lor, 1))  (kk : V x y (pc + 1) L (.long (u ||| v) :: rest)) : V x y pc L (.long v :: .long u :: rest) := by
  obtain ⟨p, l, e, s, m, below, meth, c, rfl, hx, hb, hml, hown, hts, hK, hX, hbl, hinj, hge, hST, hret⟩ := C
  exact fun ls H locs hl hP hM hS => lv_lor hx hb hd  (kk ls H locs hl hP hM hS)
theorem l_i2l (C : LX G b Ln xs V) {u : Int32} (hd : decode code pc = .ok (.i2l, 1))  (kk : V x y (pc + 1) L (.long u.toInt64 :: rest)) : V x y pc L (.int u :: rest) := by
  obtain ⟨p, l, e, s, m, below, meth, c, rfl, hx, hb, hml, hown, hts, hK, hX, hbl, hinj, hge, hST, hret⟩ := C
  exact fun ls H locs hl hP hM hS => lv_i2l hx hb hd rfl (kk ls H locs hl hP hM hS)
theorem l_lshl (C : LX G b Ln xs V) {u : Int64} {v : Int32} (hd : decode code pc = .ok (.lshl, 1))  (kk : V x y (pc + 1) L (.long (lshl u v) :: rest)) : V x y pc L (.int v :: .long u :: rest) := by
  obtain ⟨p, l, e, s, m, below, meth, c, rfl, hx, hb, hml, hown, hts, hK, hX, hbl, hinj, hge, hST, hret⟩ := C
  exact fun ls H locs hl hP hM hS => lv_lshl hx hb hd rfl (kk ls H locs hl hP hM hS)
theorem l_ldc2 (C : LX G b Ln xs V) {idx : Nat} {v : Int64} (hd : decode code pc = .ok (.ldc2_w idx, 3)) (q : Cond.constantLong RL idx v ∈ TB) (kk : V x y (pc + 3) L (.long v :: rest)) : V x y pc L rest := by
  obtain ⟨p, l, e, s, m, below, meth, c, rfl, hx, hb, hml, hown, hts, hK, hX, hbl, hinj, hge, hST, hret⟩ := C
  exact fun ls H locs hl hP hM hS => lv_ldc2 hx hb hown (hts _ q) hd (kk ls H locs hl hP hM hS)
theorem l_iload_n (C : LX G b Ln xs V) {a : Fin 4} {i : Nat} {u : Int32} (hd : decode code pc = .ok (.iload_n a, 1)) (hi : (a : Nat) = i) (pos : Nat) (hL : L[pos]? = some (i, .int u)) (kk : V x y (pc + 1) L (.int u :: rest)) : V x y pc L rest := by
  obtain ⟨p, l, e, s, m, below, meth, c, rfl, hx, hb, hml, hown, hts, hK, hX, hbl, hinj, hge, hST, hret⟩ := C
  exact fun ls H locs hl hP hM hS => lv_iload_n hx hb hd hi (lv_at hl pos hL) (kk ls H locs hl hP hM hS)
theorem l_aload_n (C : LX G b Ln xs V) {a : Fin 4} {i : Nat} {u : Nat} (hd : decode code pc = .ok (.aload_n a, 1)) (hi : (a : Nat) = i) (pos : Nat) (hL : L[pos]? = some (i, .ref u)) (kk : V x y (pc + 1) L (.ref u :: rest)) : V x y pc L rest := by
  obtain ⟨p, l, e, s, m, below, meth, c, rfl, hx, hb, hml, hown, hts, hK, hX, hbl, hinj, hge, hST, hret⟩ := C
  exact fun ls H locs hl hP hM hS => lv_aload_n hx hb hd hi (lv_at hl pos hL) (kk ls H locs hl hP hM hS)
theorem l_iinc (C : LX G b Ln xs V) {i : Nat} {a : Int} {u v : Int32} (hd : decode code pc = .ok (.iinc i a, 3)) (pos : Nat) (hp : L[pos]? = some (i, .int u)) (hv : u + Int32.ofInt a = v) (hn : i < 4) (hL : (i, Value.int v) :: L.filter (fun q => !(q.1 == i) && !(q.1 + 1 == i && q.2.category == 2)) = L') (kk : V x y (pc + 3) L' rest) : V x y pc L rest := by
  obtain ⟨p, l, e, s, m, below, meth, c, rfl, hx, hb, hml, hown, hts, hK, hX, hbl, hinj, hge, hST, hret⟩ := C
  exact fun ls H locs hl hP hM hS => lv_iinc hx hb hd hl hp hv hn hL (fun ls' hl' => kk ls' H locs hl' hP hM hS)
theorem l_sub (C : LX G b Ln xs V) {st : List Value} (ks : List Nat) (h : lv_pick L ks = L') (k : V x y pc L' st) : V x y pc L st := by
  obtain ⟨p, l, e, s, m, below, meth, c, rfl, hx, hb, hml, hown, hts, hK, hX, hbl, hinj, hge, hST, hret⟩ := C
  exact fun ls H locs hl hP hM hS => k ls H locs (lv_sub hl ks h) hP hM hS
theorem l_goto (C : LX G b Ln xs V) {off : Int} (tgt : Nat) (hd : decode code pc = .ok (.goto off, 3)) (ht : (pc : Int) + off = (tgt : Int)) (kk : V x y tgt L rest) : V x y pc L rest := by
  obtain ⟨p, l, e, s, m, below, meth, c, rfl, hx, hb, hml, hown, hts, hK, hX, hbl, hinj, hge, hST, hret⟩ := C
  exact fun ls H locs hl hP hM hS => lv_goto hx hb hd ht (kk ls H locs hl hP hM hS)
theorem l_eq (C : LX G b Ln xs V) {u v : Int32} {off : Int} (tgt : Nat) (hd : decode code pc = .ok (.if_icmp .eq off, 3)) (ht : (pc : Int) + off = (tgt : Int)) (h : u = v) (kk : V x y tgt L rest) : V x y pc L (.int v :: .int u :: rest) := by
  obtain ⟨p, l, e, s, m, below, meth, c, rfl, hx, hb, hml, hown, hts, hK, hX, hbl, hinj, hge, hST, hret⟩ := C
  exact fun ls H locs hl hP hM hS => lv_icmp_eq hx hb hd ht (fun _ => kk ls H locs hl hP hM hS) (fun q => absurd h q)
theorem l_gt (C : LX G b Ln xs V) {u v : Int32} {off : Int} (tgt : Nat) (hd : decode code pc = .ok (.if_icmp .gt off, 3)) (ht : (pc : Int) + off = (tgt : Int)) (kt : v < u → V x y tgt L rest) (kf : ¬ v < u → V x y (pc + 3) L rest) : V x y pc L (.int v :: .int u :: rest) := by
  obtain ⟨p, l, e, s, m, below, meth, c, rfl, hx, hb, hml, hown, hts, hK, hX, hbl, hinj, hge, hST, hret⟩ := C
  exact fun ls H locs hl hP hM hS => lv_icmp_gt hx hb hd ht (fun q => kt q ls H locs hl hP hM hS) (fun q => kf q ls H locs hl hP hM hS)
theorem l_slen (C : LX G b Ln xs V) (hd : decode code pc = .ok (.arraylength, 1)) (kk : V x y (pc + 1) L (.int (nI Ln) :: rest)) : V x y pc L (.ref b :: rest) := by
  obtain ⟨p, l, e, s, m, below, meth, c, rfl, hx, hb, hml, hown, hts, hK, hX, hbl, hinj, hge, hST, hret⟩ := C
  exact fun ls H locs hl hP hM hS => va_slen hx hb hX hbl (Nat.not_le.mpr hbl) hS hd (kk ls H locs hl hP hM hS)
theorem l_sld (C : LX G b Ln xs V) {i : Int32} (a : Nat) (hi : i = nI a) (ha : a < Ln) (hLn : Ln ≤ 3072) (hd : decode code pc = .ok (.iaload, 1)) (kk : V x y (pc + 1) L (.int (xs a) :: rest)) : V x y pc L (.int i :: .ref b :: rest) := by
  have hin : vp_in i Ln := by rw [hi]; exact vp_in_nI ha (by omega)
  have ee : i.toNatClampNeg = a := by rw [hi]; exact nI_clamp (by omega)
  rw [← ee] at kk
  obtain ⟨p, l, e, s, m, below, meth, c, rfl, hx, hb, hml, hown, hts, hK, hX, hbl, hinj, hge, hST, hret⟩ := C
  exact fun ls H locs hl hP hM hS => va_sld hx hb hX hbl (Nat.not_le.mpr hbl) hS hin hd (kk ls H locs hl hP hM hS)
theorem l_tsw (C : LX G b Ln xs V) {dflt lo hi off : Int} {offs : Array Int} {len : Nat} {u : Int32} (cst : Int32) (tgt : Nat) (hd : decode code pc = .ok (.tableswitch dflt lo hi offs, len)) (h1 : ¬ cst.toInt < lo) (h2 : ¬ hi < cst.toInt) (ho : offs[(cst.toInt - lo).toNat]? = some off) (ht : (pc : Int) + off = (tgt : Int)) (h : u = cst) (kt : V x y tgt L rest) : V x y pc L (.int u :: rest) := by
  subst h
  obtain ⟨p, l, e, s, m, below, meth, c, rfl, hx, hb, hml, hown, hts, hK, hX, hbl, hinj, hge, hST, hret⟩ := C
  exact fun ls H locs hl hP hM hS => lv_tableIn hx hb hd h1 h2 ho ht (kt ls H locs hl hP hM hS)
theorem l_tswD (C : LX G b Ln xs V) {dflt lo hi : Int} {offs : Array Int} {len : Nat} {u : Int32} (tgt : Nat) (hd : decode code pc = .ok (.tableswitch dflt lo hi offs, len)) (h : u.toInt < lo ∨ hi < u.toInt) (ht : (pc : Int) + dflt = (tgt : Int)) (kt : V x y tgt L rest) : V x y pc L (.int u :: rest) := by
  obtain ⟨p, l, e, s, m, below, meth, c, rfl, hx, hb, hml, hown, hts, hK, hX, hbl, hinj, hge, hST, hret⟩ := C
  exact fun ls H locs hl hP hM hS => lv_tableOut hx hb hd h ht (kt ls H locs hl hP hM hS)
theorem l_ret (C : LX G b Ln xs V) (hd : decode code pc = .ok (.ireturn, 1)) : V x y pc L [.int 1] := by
  obtain ⟨p, l, e, s, m, below, meth, c, rfl, hx, hb, hml, hown, hts, hK, hX, hbl, hinj, hge, hST, hret⟩ := C
  exact fun ls H locs hl hP hM hS => hret H locs pc ls hS hd
theorem inL_X {k : Nat} (h : inS SX k) : inL k := Or.inl (by have := h.2; show k < 83; exact (by simpa using this))
theorem inL_M {k : Nat} (h : inS SM k) : inL k := Or.inr ⟨h.1, by have := h.2; show k < 115; exact (by simpa using this)⟩
theorem XM_ne {i j : Nat} (h1 : inS SX i) (h2 : inS SM j) : i ≠ j := fun e => by
  have a := h1.2
  have b := h2.1
  subst e
  have a' : i < 83 := by simpa using a
  have b' : 100 ≤ i := b
  omega
theorem lroom {h ny : Nat} (hR : h ≤ 1500 ∧ ny ≤ 21) : (Rm h).frames + 1 ≤ room_1.frames ∧ 8 + (ny + 11) + (Rm h).locals ≤ room_1.locals := by
  show h + 1 ≤ 2048 ∧ 8 + (ny + 11) + 40 * h ≤ 84000
  omega
theorem l_callX (C : LX G b Ln xs V) {z : MethodName} {cy : ByteArray} {ny h2 idx : Nat} {rty : Option FieldType} {As st : List Value} {rv : Option Value} {x' : Wd} (hd : decode code pc = .ok (.invokevirtual idx, 3)) (q1 : Cond.methodLink RL idx z ∈ TB) (q2 : Cond.instanceMethod z ∈ TB) (q3 : Cond.selects RX8 z z ∈ TB) (q4 : Cond.initialized RX8 ∈ TB) (q5 : Cond.code z cy ny rty ∈ TB) (hy : z.cls = RX8 ∧ z.cls ≠ "java/lang/invoke/MethodHandle" ∧ z.cls ≠ "java/lang/invoke/VarHandle" ∧ (parseMethodDescriptor z.desc).map (fun d => d.parameters.length) = some As.length) (hR : h2 ≤ 1500 ∧ ny ≤ 21) (hM1 : ∀ l, MC l z cy ny rty h2 G SX x (.ref (G.2 0) :: As) rv x') (hst : st = As.reverse ++ .ref (G.2 0) :: rest) (hr : (rest.map fun v => v.category).sum ≤ 8) (kk : V x' y (pc + 3) L (rv.toList ++ rest)) : V x y pc L st := by
  subst hst
  obtain ⟨p, l, e, s, m, below, meth, c, rfl, hx, hb, hml, hown, hts, hK, hX, hbl, hinj, hge, hST, hret⟩ := C
  intro ls H locs hl hP hM hS
  have he := cells_get (G := G) (S := SX) (w := x) kx_0.1
  rw [kx_0.2] at he
  have hgw : GoodIn TB (wsV RL idx RX8 z (wsA z cy ny rty)) := gB (fun a ha => by
    rcases List.mem_append.mp ha with ha | ha
    · simp only [List.mem_cons, List.not_mem_nil, or_false] at ha
      rcases ha with ha | ha | ha | ha <;> rw [ha] <;> assumption
    · exact gB1 q5 a ha)
  have hWA : ∀ q, WA G SX q → s.heap.size ≤ q := fun q h => by
    obtain ⟨k, hk, rfl⟩ := h
    exact hge k (inL_X hk)
  have hI : injG G SX := fun i j hi hj e0 => hinj i j (inL_X hi) (inL_X hj) e0
  have hSH : STh G (WA G SX) s H := (hST.1.kept hS.2.1).narrow hWA
  have hr1 := va_runV (As := As) (rest := rest) (H := H) (locs := locs) (cells := 600000) (slots := 7302250) (R := room_1) (p := p) (l := l) (e := e) (below := below) (meth := meth) ⟨hx, hb, hml, hown, hts⟩ (hM1 l) (cwV As.length hts hgw rfl rfl rfl hy (lroom hR)) ⟨PW.blind, va_recv hK hP rfl he, fun U hU hW => ⟨rfl, by rw [hU]; exact hP, hK.moved hW.alike, hI, by rw [hU]; exact hSH.moved hW.alike, hST.2.warm hW⟩⟩ (g := F0 m pc ls (As.reverse ++ .ref (G.2 0) :: rest)) rfl rfl hl.1 rfl (lv_room hr) hd ⟨Nat.le_refl _, Nat.le_refl _⟩
  intro T hT X
  obtain ⟨v, st₀, t, T', Lx, h0, X', hL, e1, e2, ⟨hv, hP1, hz, hk⟩, st⟩ := hr1 T hT X
  cases hv
  rw [h0] at hz hk
  rw [← e1] at hP1 hz
  have hk' : ∀ q : Nat, q < H.size → ¬ WA G SX q → T'.heap[q]? = H[q]? := fun q a1 a2 => by rw [e1]; exact hk q a1 a2
  have kept : ∀ {w : Wd}, va_P G.1 vwCl (cellsW G SM w) H → va_P G.1 vwCl (cellsW G SM w) T'.heap := fun {w} h => h.kept (fun i q hq => by
    obtain ⟨a1, a2⟩ := cells_inv hq
    refine hk' q.1 (h i q hq).lt (fun hA => ?_)
    obtain ⟨j, hj, ej⟩ := hA
    have hi : inS SM (SM.2.1 + i) := ⟨by omega, by omega⟩
    have := hinj _ _ (inL_M hi) (inL_X hj) (a2.symm.trans ej)
    exact (fun e0 => XM_ne hj hi e0.symm) this)
  obtain ⟨t2, a1, b1⟩ := kk ls T'.heap (locs ++ Lx) hl hP1 (kept hM)
    ⟨Nat.le_trans hS.1 hz, fun q h1 h2 => by rw [hk' q (Nat.lt_of_lt_of_le h1 hS.1) (fun zz => h2 (hWA q zz))]; exact hS.2.1 q h1 h2, fun q hq => by
      rcases List.mem_append.mp hq with h | h
      · exact hS.2.2 q h
      · exact hWA _ (hL q h)⟩ T' rfl X'
  exact ⟨t2, st t2 a1, b1⟩
theorem l_callM (C : LX G b Ln xs V) {z : MethodName} {cy : ByteArray} {ny h2 idx : Nat} {rty : Option FieldType} {As st : List Value} {rv : Option Value} {y' : Wd} (hd : decode code pc = .ok (.invokevirtual idx, 3)) (q1 : Cond.methodLink RL idx z ∈ TB) (q2 : Cond.instanceMethod z ∈ TB) (q3 : Cond.selects RX9 z z ∈ TB) (q4 : Cond.initialized RX9 ∈ TB) (q5 : Cond.code z cy ny rty ∈ TB) (hy : z.cls = RX9 ∧ z.cls ≠ "java/lang/invoke/MethodHandle" ∧ z.cls ≠ "java/lang/invoke/VarHandle" ∧ (parseMethodDescriptor z.desc).map (fun d => d.parameters.length) = some As.length) (hR : h2 ≤ 1500 ∧ ny ≤ 21) (hM1 : ∀ l, MC l z cy ny rty h2 G SM y (.ref (G.2 100) :: As) rv y') (hst : st = As.reverse ++ .ref (G.2 100) :: rest) (hr : (rest.map fun v => v.category).sum ≤ 8) (kk : V x y' (pc + 3) L (rv.toList ++ rest)) : V x y pc L st := by
  subst hst
  obtain ⟨p, l, e, s, m, below, meth, c, rfl, hx, hb, hml, hown, hts, hK, hX, hbl, hinj, hge, hST, hret⟩ := C
  intro ls H locs hl hP hM hS
  have he := cells_get (G := G) (S := SM) (w := y) kx_100.1
  rw [kx_100.2] at he
  have hgw : GoodIn TB (wsV RL idx RX9 z (wsA z cy ny rty)) := gB (fun a ha => by
    rcases List.mem_append.mp ha with ha | ha
    · simp only [List.mem_cons, List.not_mem_nil, or_false] at ha
      rcases ha with ha | ha | ha | ha <;> rw [ha] <;> assumption
    · exact gB1 q5 a ha)
  have hWA : ∀ q, WA G SM q → s.heap.size ≤ q := fun q h => by
    obtain ⟨k, hk, rfl⟩ := h
    exact hge k (inL_M hk)
  have hI : injG G SM := fun i j hi hj e0 => hinj i j (inL_M hi) (inL_M hj) e0
  have hSH : STh G (WA G SM) s H := (hST.1.kept hS.2.1).narrow hWA
  have hr1 := va_runV (As := As) (rest := rest) (H := H) (locs := locs) (cells := 600000) (slots := 7302250) (R := room_1) (p := p) (l := l) (e := e) (below := below) (meth := meth) ⟨hx, hb, hml, hown, hts⟩ (hM1 l) (cwV As.length hts hgw rfl rfl rfl hy (lroom hR)) ⟨PW.blind, va_recv hK hM rfl he, fun U hU hW => ⟨rfl, by rw [hU]; exact hM, hK.moved hW.alike, hI, by rw [hU]; exact hSH.moved hW.alike, hST.2.warm hW⟩⟩ (g := F0 m pc ls (As.reverse ++ .ref (G.2 100) :: rest)) rfl rfl hl.1 rfl (lv_room hr) hd ⟨Nat.le_refl _, Nat.le_refl _⟩
  intro T hT X
  obtain ⟨v, st₀, t, T', Lx, h0, X', hL, e1, e2, ⟨hv, hP1, hz, hk⟩, st⟩ := hr1 T hT X
  cases hv
  rw [h0] at hz hk
  rw [← e1] at hP1 hz
  have hk' : ∀ q : Nat, q < H.size → ¬ WA G SM q → T'.heap[q]? = H[q]? := fun q a1 a2 => by rw [e1]; exact hk q a1 a2
  have kept : ∀ {w : Wd}, va_P G.1 vwCl (cellsW G SX w) H → va_P G.1 vwCl (cellsW G SX w) T'.heap := fun {w} h => h.kept (fun i q hq => by
    obtain ⟨a1, a2⟩ := cells_inv hq
    refine hk' q.1 (h i q hq).lt (fun hA => ?_)
    obtain ⟨j, hj, ej⟩ := hA
    have hi : inS SX (SX.2.1 + i) := ⟨by omega, by omega⟩
    have := hinj _ _ (inL_X hi) (inL_M hj) (a2.symm.trans ej)
    exact (fun e0 => XM_ne hi hj e0) this)
  obtain ⟨t2, a1, b1⟩ := kk ls T'.heap (locs ++ Lx) hl (kept hP) hP1
    ⟨Nat.le_trans hS.1 hz, fun q h1 h2 => by rw [hk' q (Nat.lt_of_lt_of_le h1 hS.1) (fun zz => h2 (hWA q zz))]; exact hS.2.1 q h1 h2, fun q hq => by
      rcases List.mem_append.mp hq with h | h
      · exact hS.2.2 q h
      · exact hWA _ (hL q h)⟩ T' rfl X'
  exact ⟨t2, st t2 a1, b1⟩
theorem nI_pl (a k : Nat) : nI a + nI k = nI (a + k) := nI_add a k
def St_part (Rel : Nat → Wd → Wd → Prop) : Prop := ∀ (n : Nat) (x y : Wd) (p1 : Int32) (p2 : Int32), n < 512 → Rel n x y → ∃ (r : Int32) (x' : Wd) (y' : Wd), f_X8_part p1 p2 x = some (r, x') ∧ f_X9_part p1 p2 y = some (r, y') ∧ Rel (n + 1) x' y'
set_option maxRecDepth 20000 in
theorem lc_part (C : LX G b Ln xs V) {Rel : Nat → Wd → Wd → Prop} (hst : St_part Rel) {n j : Nat} (hR : Rel n x y) (hn : n < 512) (hj : 6 * j + 6 ≤ Ln) (hLn : Ln ≤ 3072) (hnext : ∀ x' y', Rel (n + 1) x' y' → V x' y' 1358 [(0, .ref b), (1, .ref (G.2 0)), (2, .ref (G.2 100)), (3, .int (nI (6 * j)))] []) : V x y 208 [(0, .ref b), (1, .ref (G.2 0)), (2, .ref (G.2 100)), (3, .int (nI (6 * j)))] [] := by
  obtain ⟨r, x', y', e1, e2, hR2⟩ := hst n x y (xs (6 * j + 1)) (xs (6 * j + 2)) hn hR
  refine l_aload_n (pc := 208) C dL_law_208 rfl 1 rfl ?_
  refine l_aload_n (pc := 209) C dL_law_209 rfl 0 rfl ?_
  refine l_iload_n (pc := 210) C dL_law_210 rfl 3 rfl ?_
  refine l_iconst (v := (1:Int32)) (pc := 211) C dL_law_211 (by decide) ?_
  refine l_iadd (pc := 212) C dL_law_212 ?_
  refine l_sld (pc := 213) C (6 * j + 1) (nI_pl (6 * j) 1) (by omega) hLn dL_law_213 ?_
  refine l_aload_n (pc := 214) C dL_law_214 rfl 0 rfl ?_
  refine l_iload_n (pc := 215) C dL_law_215 rfl 3 rfl ?_
  refine l_iconst (v := (2:Int32)) (pc := 216) C dL_law_216 (by decide) ?_
  refine l_iadd (pc := 217) C dL_law_217 ?_
  refine l_sld (pc := 218) C (6 * j + 2) (nI_pl (6 * j) 2) (by omega) hLn dL_law_218 ?_
  refine l_callX (As := [.int (xs (6 * j + 1)), .int (xs (6 * j + 2))]) (rest := []) (pc := 219) C dL_law_219 ql_L_13 qi_X8_part qs_X8_part qn_X8 qc_X8_part ⟨rfl, by decide +kernel, by decide +kernel, (by decide +kernel : (parseMethodDescriptor yX8_part.desc).map (fun d => d.parameters.length) = some 2)⟩ ⟨by decide, by decide⟩ (fun l => c_X8_part e1 l) rfl (Nat.le_of_ble_eq_true rfl) ?_
  refine l_aload_n (pc := 222) C dL_law_222 rfl 2 rfl ?_
  refine l_aload_n (pc := 223) C dL_law_223 rfl 0 rfl ?_
  refine l_iload_n (pc := 224) C dL_law_224 rfl 3 rfl ?_
  refine l_iconst (v := (1:Int32)) (pc := 225) C dL_law_225 (by decide) ?_
  refine l_iadd (pc := 226) C dL_law_226 ?_
  refine l_sld (pc := 227) C (6 * j + 1) (nI_pl (6 * j) 1) (by omega) hLn dL_law_227 ?_
  refine l_aload_n (pc := 228) C dL_law_228 rfl 0 rfl ?_
  refine l_iload_n (pc := 229) C dL_law_229 rfl 3 rfl ?_
  refine l_iconst (v := (2:Int32)) (pc := 230) C dL_law_230 (by decide) ?_
  refine l_iadd (pc := 231) C dL_law_231 ?_
  refine l_sld (pc := 232) C (6 * j + 2) (nI_pl (6 * j) 2) (by omega) hLn dL_law_232 ?_
  refine l_callM (As := [.int (xs (6 * j + 1)), .int (xs (6 * j + 2))]) (rest := [.int r]) (pc := 233) C dL_law_233 ql_L_17 qi_X9_part qs_X9_part qn_X9 qc_X9_part ⟨rfl, by decide +kernel, by decide +kernel, (by decide +kernel : (parseMethodDescriptor yX9_part.desc).map (fun d => d.parameters.length) = some 2)⟩ ⟨by decide, by decide⟩ (fun l => c_X9_part e2 l) rfl (Nat.le_of_ble_eq_true rfl) ?_
  refine l_eq (pc := 236) C 1358 dL_law_236 (by decide) rfl ?_
  exact hnext _ _ hR2
def St_ofPart (Rel : Nat → Wd → Wd → Prop) : Prop := ∀ (n : Nat) (x y : Wd) (p1 : Int32) (p2 : Int32), n < 512 → Rel n x y → ∃ (r : Int32) (x' : Wd) (y' : Wd), f_X8_ofPart p1 p2 x = some (r, x') ∧ f_X9_ofPart p1 p2 y = some (r, y') ∧ Rel (n + 1) x' y'
set_option maxRecDepth 20000 in
theorem lc_ofPart (C : LX G b Ln xs V) {Rel : Nat → Wd → Wd → Prop} (hst : St_ofPart Rel) {n j : Nat} (hR : Rel n x y) (hn : n < 512) (hj : 6 * j + 6 ≤ Ln) (hLn : Ln ≤ 3072) (hnext : ∀ x' y', Rel (n + 1) x' y' → V x' y' 1358 [(0, .ref b), (1, .ref (G.2 0)), (2, .ref (G.2 100)), (3, .int (nI (6 * j)))] []) : V x y 241 [(0, .ref b), (1, .ref (G.2 0)), (2, .ref (G.2 100)), (3, .int (nI (6 * j)))] [] := by
  obtain ⟨r, x', y', e1, e2, hR2⟩ := hst n x y (xs (6 * j + 1)) (xs (6 * j + 2)) hn hR
  refine l_aload_n (pc := 241) C dL_law_241 rfl 1 rfl ?_
  refine l_aload_n (pc := 242) C dL_law_242 rfl 0 rfl ?_
  refine l_iload_n (pc := 243) C dL_law_243 rfl 3 rfl ?_
  refine l_iconst (v := (1:Int32)) (pc := 244) C dL_law_244 (by decide) ?_
  refine l_iadd (pc := 245) C dL_law_245 ?_
  refine l_sld (pc := 246) C (6 * j + 1) (nI_pl (6 * j) 1) (by omega) hLn dL_law_246 ?_
  refine l_aload_n (pc := 247) C dL_law_247 rfl 0 rfl ?_
  refine l_iload_n (pc := 248) C dL_law_248 rfl 3 rfl ?_
  refine l_iconst (v := (2:Int32)) (pc := 249) C dL_law_249 (by decide) ?_
  refine l_iadd (pc := 250) C dL_law_250 ?_
  refine l_sld (pc := 251) C (6 * j + 2) (nI_pl (6 * j) 2) (by omega) hLn dL_law_251 ?_
  refine l_callX (As := [.int (xs (6 * j + 1)), .int (xs (6 * j + 2))]) (rest := []) (pc := 252) C dL_law_252 ql_L_18 qi_X8_ofPart qs_X8_ofPart qn_X8 qc_X8_ofPart ⟨rfl, by decide +kernel, by decide +kernel, (by decide +kernel : (parseMethodDescriptor yX8_ofPart.desc).map (fun d => d.parameters.length) = some 2)⟩ ⟨by decide, by decide⟩ (fun l => c_X8_ofPart e1 l) rfl (Nat.le_of_ble_eq_true rfl) ?_
  refine l_aload_n (pc := 255) C dL_law_255 rfl 2 rfl ?_
  refine l_aload_n (pc := 256) C dL_law_256 rfl 0 rfl ?_
  refine l_iload_n (pc := 257) C dL_law_257 rfl 3 rfl ?_
  refine l_iconst (v := (1:Int32)) (pc := 258) C dL_law_258 (by decide) ?_
  refine l_iadd (pc := 259) C dL_law_259 ?_
  refine l_sld (pc := 260) C (6 * j + 1) (nI_pl (6 * j) 1) (by omega) hLn dL_law_260 ?_
  refine l_aload_n (pc := 261) C dL_law_261 rfl 0 rfl ?_
  refine l_iload_n (pc := 262) C dL_law_262 rfl 3 rfl ?_
  refine l_iconst (v := (2:Int32)) (pc := 263) C dL_law_263 (by decide) ?_
  refine l_iadd (pc := 264) C dL_law_264 ?_
  refine l_sld (pc := 265) C (6 * j + 2) (nI_pl (6 * j) 2) (by omega) hLn dL_law_265 ?_
  refine l_callM (As := [.int (xs (6 * j + 1)), .int (xs (6 * j + 2))]) (rest := [.int r]) (pc := 266) C dL_law_266 ql_L_21 qi_X9_ofPart qs_X9_ofPart qn_X9 qc_X9_ofPart ⟨rfl, by decide +kernel, by decide +kernel, (by decide +kernel : (parseMethodDescriptor yX9_ofPart.desc).map (fun d => d.parameters.length) = some 2)⟩ ⟨by decide, by decide⟩ (fun l => c_X9_ofPart e2 l) rfl (Nat.le_of_ble_eq_true rfl) ?_
  refine l_eq (pc := 269) C 1358 dL_law_269 (by decide) rfl ?_
  exact hnext _ _ hR2
def St_lines (Rel : Nat → Wd → Wd → Prop) : Prop := ∀ (n : Nat) (x y : Wd) (p1 : Int32) (p2 : Int32), n < 512 → Rel n x y → ∃ (r : Int32) (x' : Wd) (y' : Wd), f_X8_lines p1 p2 x = some (r, x') ∧ f_X9_lines p1 p2 y = some (r, y') ∧ Rel (n + 1) x' y'
set_option maxRecDepth 20000 in
theorem lc_lines (C : LX G b Ln xs V) {Rel : Nat → Wd → Wd → Prop} (hst : St_lines Rel) {n j : Nat} (hR : Rel n x y) (hn : n < 512) (hj : 6 * j + 6 ≤ Ln) (hLn : Ln ≤ 3072) (hnext : ∀ x' y', Rel (n + 1) x' y' → V x' y' 1358 [(0, .ref b), (1, .ref (G.2 0)), (2, .ref (G.2 100)), (3, .int (nI (6 * j)))] []) : V x y 274 [(0, .ref b), (1, .ref (G.2 0)), (2, .ref (G.2 100)), (3, .int (nI (6 * j)))] [] := by
  obtain ⟨r, x', y', e1, e2, hR2⟩ := hst n x y (xs (6 * j + 1)) (xs (6 * j + 2)) hn hR
  refine l_aload_n (pc := 274) C dL_law_274 rfl 1 rfl ?_
  refine l_aload_n (pc := 275) C dL_law_275 rfl 0 rfl ?_
  refine l_iload_n (pc := 276) C dL_law_276 rfl 3 rfl ?_
  refine l_iconst (v := (1:Int32)) (pc := 277) C dL_law_277 (by decide) ?_
  refine l_iadd (pc := 278) C dL_law_278 ?_
  refine l_sld (pc := 279) C (6 * j + 1) (nI_pl (6 * j) 1) (by omega) hLn dL_law_279 ?_
  refine l_aload_n (pc := 280) C dL_law_280 rfl 0 rfl ?_
  refine l_iload_n (pc := 281) C dL_law_281 rfl 3 rfl ?_
  refine l_iconst (v := (2:Int32)) (pc := 282) C dL_law_282 (by decide) ?_
  refine l_iadd (pc := 283) C dL_law_283 ?_
  refine l_sld (pc := 284) C (6 * j + 2) (nI_pl (6 * j) 2) (by omega) hLn dL_law_284 ?_
  refine l_callX (As := [.int (xs (6 * j + 1)), .int (xs (6 * j + 2))]) (rest := []) (pc := 285) C dL_law_285 ql_L_22 qi_X8_lines qs_X8_lines qn_X8 qc_X8_lines ⟨rfl, by decide +kernel, by decide +kernel, (by decide +kernel : (parseMethodDescriptor yX8_lines.desc).map (fun d => d.parameters.length) = some 2)⟩ ⟨by decide, by decide⟩ (fun l => c_X8_lines e1 l) rfl (Nat.le_of_ble_eq_true rfl) ?_
  refine l_aload_n (pc := 288) C dL_law_288 rfl 2 rfl ?_
  refine l_aload_n (pc := 289) C dL_law_289 rfl 0 rfl ?_
  refine l_iload_n (pc := 290) C dL_law_290 rfl 3 rfl ?_
  refine l_iconst (v := (1:Int32)) (pc := 291) C dL_law_291 (by decide) ?_
  refine l_iadd (pc := 292) C dL_law_292 ?_
  refine l_sld (pc := 293) C (6 * j + 1) (nI_pl (6 * j) 1) (by omega) hLn dL_law_293 ?_
  refine l_aload_n (pc := 294) C dL_law_294 rfl 0 rfl ?_
  refine l_iload_n (pc := 295) C dL_law_295 rfl 3 rfl ?_
  refine l_iconst (v := (2:Int32)) (pc := 296) C dL_law_296 (by decide) ?_
  refine l_iadd (pc := 297) C dL_law_297 ?_
  refine l_sld (pc := 298) C (6 * j + 2) (nI_pl (6 * j) 2) (by omega) hLn dL_law_298 ?_
  refine l_callM (As := [.int (xs (6 * j + 1)), .int (xs (6 * j + 2))]) (rest := [.int r]) (pc := 299) C dL_law_299 ql_L_25 qi_X9_lines qs_X9_lines qn_X9 qc_X9_lines ⟨rfl, by decide +kernel, by decide +kernel, (by decide +kernel : (parseMethodDescriptor yX9_lines.desc).map (fun d => d.parameters.length) = some 2)⟩ ⟨by decide, by decide⟩ (fun l => c_X9_lines e2 l) rfl (Nat.le_of_ble_eq_true rfl) ?_
  refine l_eq (pc := 302) C 1358 dL_law_302 (by decide) rfl ?_
  exact hnext _ _ hR2
def St_become (Rel : Nat → Wd → Wd → Prop) : Prop := ∀ (n : Nat) (x y : Wd) (p1 : Int32) (p2 : Int32), n < 512 → Rel n x y → ∃ (r : Int32) (x' : Wd) (y' : Wd), f_X8_become p1 p2 x = some (r, x') ∧ f_X9_become p1 p2 y = some (r, y') ∧ Rel (n + 1) x' y'
set_option maxRecDepth 20000 in
theorem lc_become (C : LX G b Ln xs V) {Rel : Nat → Wd → Wd → Prop} (hst : St_become Rel) {n j : Nat} (hR : Rel n x y) (hn : n < 512) (hj : 6 * j + 6 ≤ Ln) (hLn : Ln ≤ 3072) (hnext : ∀ x' y', Rel (n + 1) x' y' → V x' y' 1358 [(0, .ref b), (1, .ref (G.2 0)), (2, .ref (G.2 100)), (3, .int (nI (6 * j)))] []) : V x y 307 [(0, .ref b), (1, .ref (G.2 0)), (2, .ref (G.2 100)), (3, .int (nI (6 * j)))] [] := by
  obtain ⟨r, x', y', e1, e2, hR2⟩ := hst n x y (xs (6 * j + 1)) (xs (6 * j + 2)) hn hR
  refine l_aload_n (pc := 307) C dL_law_307 rfl 1 rfl ?_
  refine l_aload_n (pc := 308) C dL_law_308 rfl 0 rfl ?_
  refine l_iload_n (pc := 309) C dL_law_309 rfl 3 rfl ?_
  refine l_iconst (v := (1:Int32)) (pc := 310) C dL_law_310 (by decide) ?_
  refine l_iadd (pc := 311) C dL_law_311 ?_
  refine l_sld (pc := 312) C (6 * j + 1) (nI_pl (6 * j) 1) (by omega) hLn dL_law_312 ?_
  refine l_aload_n (pc := 313) C dL_law_313 rfl 0 rfl ?_
  refine l_iload_n (pc := 314) C dL_law_314 rfl 3 rfl ?_
  refine l_iconst (v := (2:Int32)) (pc := 315) C dL_law_315 (by decide) ?_
  refine l_iadd (pc := 316) C dL_law_316 ?_
  refine l_sld (pc := 317) C (6 * j + 2) (nI_pl (6 * j) 2) (by omega) hLn dL_law_317 ?_
  refine l_callX (As := [.int (xs (6 * j + 1)), .int (xs (6 * j + 2))]) (rest := []) (pc := 318) C dL_law_318 ql_L_26 qi_X8_become qs_X8_become qn_X8 qc_X8_become ⟨rfl, by decide +kernel, by decide +kernel, (by decide +kernel : (parseMethodDescriptor yX8_become.desc).map (fun d => d.parameters.length) = some 2)⟩ ⟨by decide, by decide⟩ (fun l => c_X8_become e1 l) rfl (Nat.le_of_ble_eq_true rfl) ?_
  refine l_aload_n (pc := 321) C dL_law_321 rfl 2 rfl ?_
  refine l_aload_n (pc := 322) C dL_law_322 rfl 0 rfl ?_
  refine l_iload_n (pc := 323) C dL_law_323 rfl 3 rfl ?_
  refine l_iconst (v := (1:Int32)) (pc := 324) C dL_law_324 (by decide) ?_
  refine l_iadd (pc := 325) C dL_law_325 ?_
  refine l_sld (pc := 326) C (6 * j + 1) (nI_pl (6 * j) 1) (by omega) hLn dL_law_326 ?_
  refine l_aload_n (pc := 327) C dL_law_327 rfl 0 rfl ?_
  refine l_iload_n (pc := 328) C dL_law_328 rfl 3 rfl ?_
  refine l_iconst (v := (2:Int32)) (pc := 329) C dL_law_329 (by decide) ?_
  refine l_iadd (pc := 330) C dL_law_330 ?_
  refine l_sld (pc := 331) C (6 * j + 2) (nI_pl (6 * j) 2) (by omega) hLn dL_law_331 ?_
  refine l_callM (As := [.int (xs (6 * j + 1)), .int (xs (6 * j + 2))]) (rest := [.int r]) (pc := 332) C dL_law_332 ql_L_29 qi_X9_become qs_X9_become qn_X9 qc_X9_become ⟨rfl, by decide +kernel, by decide +kernel, (by decide +kernel : (parseMethodDescriptor yX9_become.desc).map (fun d => d.parameters.length) = some 2)⟩ ⟨by decide, by decide⟩ (fun l => c_X9_become e2 l) rfl (Nat.le_of_ble_eq_true rfl) ?_
  refine l_eq (pc := 335) C 1358 dL_law_335 (by decide) rfl ?_
  exact hnext _ _ hR2
def St_as (Rel : Nat → Wd → Wd → Prop) : Prop := ∀ (n : Nat) (x y : Wd) (p1 : Int32) (p2 : Int32), n < 512 → Rel n x y → ∃ (r : Int32) (x' : Wd) (y' : Wd), f_X8_as p1 p2 x = some (r, x') ∧ f_X9_as p1 p2 y = some (r, y') ∧ Rel (n + 1) x' y'
set_option maxRecDepth 20000 in
theorem lc_as (C : LX G b Ln xs V) {Rel : Nat → Wd → Wd → Prop} (hst : St_as Rel) {n j : Nat} (hR : Rel n x y) (hn : n < 512) (hj : 6 * j + 6 ≤ Ln) (hLn : Ln ≤ 3072) (hnext : ∀ x' y', Rel (n + 1) x' y' → V x' y' 1358 [(0, .ref b), (1, .ref (G.2 0)), (2, .ref (G.2 100)), (3, .int (nI (6 * j)))] []) : V x y 340 [(0, .ref b), (1, .ref (G.2 0)), (2, .ref (G.2 100)), (3, .int (nI (6 * j)))] [] := by
  obtain ⟨r, x', y', e1, e2, hR2⟩ := hst n x y (xs (6 * j + 1)) (xs (6 * j + 2)) hn hR
  refine l_aload_n (pc := 340) C dL_law_340 rfl 1 rfl ?_
  refine l_aload_n (pc := 341) C dL_law_341 rfl 0 rfl ?_
  refine l_iload_n (pc := 342) C dL_law_342 rfl 3 rfl ?_
  refine l_iconst (v := (1:Int32)) (pc := 343) C dL_law_343 (by decide) ?_
  refine l_iadd (pc := 344) C dL_law_344 ?_
  refine l_sld (pc := 345) C (6 * j + 1) (nI_pl (6 * j) 1) (by omega) hLn dL_law_345 ?_
  refine l_aload_n (pc := 346) C dL_law_346 rfl 0 rfl ?_
  refine l_iload_n (pc := 347) C dL_law_347 rfl 3 rfl ?_
  refine l_iconst (v := (2:Int32)) (pc := 348) C dL_law_348 (by decide) ?_
  refine l_iadd (pc := 349) C dL_law_349 ?_
  refine l_sld (pc := 350) C (6 * j + 2) (nI_pl (6 * j) 2) (by omega) hLn dL_law_350 ?_
  refine l_callX (As := [.int (xs (6 * j + 1)), .int (xs (6 * j + 2))]) (rest := []) (pc := 351) C dL_law_351 ql_L_30 qi_X8_as qs_X8_as qn_X8 qc_X8_as ⟨rfl, by decide +kernel, by decide +kernel, (by decide +kernel : (parseMethodDescriptor yX8_as.desc).map (fun d => d.parameters.length) = some 2)⟩ ⟨by decide, by decide⟩ (fun l => c_X8_as e1 l) rfl (Nat.le_of_ble_eq_true rfl) ?_
  refine l_aload_n (pc := 354) C dL_law_354 rfl 2 rfl ?_
  refine l_aload_n (pc := 355) C dL_law_355 rfl 0 rfl ?_
  refine l_iload_n (pc := 356) C dL_law_356 rfl 3 rfl ?_
  refine l_iconst (v := (1:Int32)) (pc := 357) C dL_law_357 (by decide) ?_
  refine l_iadd (pc := 358) C dL_law_358 ?_
  refine l_sld (pc := 359) C (6 * j + 1) (nI_pl (6 * j) 1) (by omega) hLn dL_law_359 ?_
  refine l_aload_n (pc := 360) C dL_law_360 rfl 0 rfl ?_
  refine l_iload_n (pc := 361) C dL_law_361 rfl 3 rfl ?_
  refine l_iconst (v := (2:Int32)) (pc := 362) C dL_law_362 (by decide) ?_
  refine l_iadd (pc := 363) C dL_law_363 ?_
  refine l_sld (pc := 364) C (6 * j + 2) (nI_pl (6 * j) 2) (by omega) hLn dL_law_364 ?_
  refine l_callM (As := [.int (xs (6 * j + 1)), .int (xs (6 * j + 2))]) (rest := [.int r]) (pc := 365) C dL_law_365 ql_L_33 qi_X9_as qs_X9_as qn_X9 qc_X9_as ⟨rfl, by decide +kernel, by decide +kernel, (by decide +kernel : (parseMethodDescriptor yX9_as.desc).map (fun d => d.parameters.length) = some 2)⟩ ⟨by decide, by decide⟩ (fun l => c_X9_as e2 l) rfl (Nat.le_of_ble_eq_true rfl) ?_
  refine l_eq (pc := 368) C 1358 dL_law_368 (by decide) rfl ?_
  exact hnext _ _ hR2
def St_player (Rel : Nat → Wd → Wd → Prop) : Prop := ∀ (n : Nat) (x y : Wd) (p1 : Int32), n < 512 → Rel n x y → ∃ (r : Int32) (x' : Wd) (y' : Wd), f_X8_player p1 x = some (r, x') ∧ f_X9_player p1 y = some (r, y') ∧ Rel (n + 1) x' y'
set_option maxRecDepth 20000 in
theorem lc_player (C : LX G b Ln xs V) {Rel : Nat → Wd → Wd → Prop} (hst : St_player Rel) {n j : Nat} (hR : Rel n x y) (hn : n < 512) (hj : 6 * j + 6 ≤ Ln) (hLn : Ln ≤ 3072) (hnext : ∀ x' y', Rel (n + 1) x' y' → V x' y' 1358 [(0, .ref b), (1, .ref (G.2 0)), (2, .ref (G.2 100)), (3, .int (nI (6 * j)))] []) : V x y 373 [(0, .ref b), (1, .ref (G.2 0)), (2, .ref (G.2 100)), (3, .int (nI (6 * j)))] [] := by
  obtain ⟨r, x', y', e1, e2, hR2⟩ := hst n x y (xs (6 * j + 1)) hn hR
  refine l_aload_n (pc := 373) C dL_law_373 rfl 1 rfl ?_
  refine l_aload_n (pc := 374) C dL_law_374 rfl 0 rfl ?_
  refine l_iload_n (pc := 375) C dL_law_375 rfl 3 rfl ?_
  refine l_iconst (v := (1:Int32)) (pc := 376) C dL_law_376 (by decide) ?_
  refine l_iadd (pc := 377) C dL_law_377 ?_
  refine l_sld (pc := 378) C (6 * j + 1) (nI_pl (6 * j) 1) (by omega) hLn dL_law_378 ?_
  refine l_callX (As := [.int (xs (6 * j + 1))]) (rest := []) (pc := 379) C dL_law_379 ql_L_34 qi_X8_player qs_X8_player qn_X8 qc_X8_player ⟨rfl, by decide +kernel, by decide +kernel, (by decide +kernel : (parseMethodDescriptor yX8_player.desc).map (fun d => d.parameters.length) = some 1)⟩ ⟨by decide, by decide⟩ (fun l => c_X8_player e1 l) rfl (Nat.le_of_ble_eq_true rfl) ?_
  refine l_aload_n (pc := 382) C dL_law_382 rfl 2 rfl ?_
  refine l_aload_n (pc := 383) C dL_law_383 rfl 0 rfl ?_
  refine l_iload_n (pc := 384) C dL_law_384 rfl 3 rfl ?_
  refine l_iconst (v := (1:Int32)) (pc := 385) C dL_law_385 (by decide) ?_
  refine l_iadd (pc := 386) C dL_law_386 ?_
  refine l_sld (pc := 387) C (6 * j + 1) (nI_pl (6 * j) 1) (by omega) hLn dL_law_387 ?_
  refine l_callM (As := [.int (xs (6 * j + 1))]) (rest := [.int r]) (pc := 388) C dL_law_388 ql_L_38 qi_X9_player qs_X9_player qn_X9 qc_X9_player ⟨rfl, by decide +kernel, by decide +kernel, (by decide +kernel : (parseMethodDescriptor yX9_player.desc).map (fun d => d.parameters.length) = some 1)⟩ ⟨by decide, by decide⟩ (fun l => c_X9_player e2 l) rfl (Nat.le_of_ble_eq_true rfl) ?_
  refine l_eq (pc := 391) C 1358 dL_law_391 (by decide) rfl ?_
  exact hnext _ _ hR2
def St_ofPlayer (Rel : Nat → Wd → Wd → Prop) : Prop := ∀ (n : Nat) (x y : Wd) (p1 : Int32) (p2 : Int32), n < 512 → Rel n x y → ∃ (r : Int32) (x' : Wd) (y' : Wd), f_X8_ofPlayer p1 p2 x = some (r, x') ∧ f_X9_ofPlayer p1 p2 y = some (r, y') ∧ Rel (n + 1) x' y'
set_option maxRecDepth 20000 in
theorem lc_ofPlayer (C : LX G b Ln xs V) {Rel : Nat → Wd → Wd → Prop} (hst : St_ofPlayer Rel) {n j : Nat} (hR : Rel n x y) (hn : n < 512) (hj : 6 * j + 6 ≤ Ln) (hLn : Ln ≤ 3072) (hnext : ∀ x' y', Rel (n + 1) x' y' → V x' y' 1358 [(0, .ref b), (1, .ref (G.2 0)), (2, .ref (G.2 100)), (3, .int (nI (6 * j)))] []) : V x y 396 [(0, .ref b), (1, .ref (G.2 0)), (2, .ref (G.2 100)), (3, .int (nI (6 * j)))] [] := by
  obtain ⟨r, x', y', e1, e2, hR2⟩ := hst n x y (xs (6 * j + 1)) (xs (6 * j + 2)) hn hR
  refine l_aload_n (pc := 396) C dL_law_396 rfl 1 rfl ?_
  refine l_aload_n (pc := 397) C dL_law_397 rfl 0 rfl ?_
  refine l_iload_n (pc := 398) C dL_law_398 rfl 3 rfl ?_
  refine l_iconst (v := (1:Int32)) (pc := 399) C dL_law_399 (by decide) ?_
  refine l_iadd (pc := 400) C dL_law_400 ?_
  refine l_sld (pc := 401) C (6 * j + 1) (nI_pl (6 * j) 1) (by omega) hLn dL_law_401 ?_
  refine l_aload_n (pc := 402) C dL_law_402 rfl 0 rfl ?_
  refine l_iload_n (pc := 403) C dL_law_403 rfl 3 rfl ?_
  refine l_iconst (v := (2:Int32)) (pc := 404) C dL_law_404 (by decide) ?_
  refine l_iadd (pc := 405) C dL_law_405 ?_
  refine l_sld (pc := 406) C (6 * j + 2) (nI_pl (6 * j) 2) (by omega) hLn dL_law_406 ?_
  refine l_callX (As := [.int (xs (6 * j + 1)), .int (xs (6 * j + 2))]) (rest := []) (pc := 407) C dL_law_407 ql_L_39 qi_X8_ofPlayer qs_X8_ofPlayer qn_X8 qc_X8_ofPlayer ⟨rfl, by decide +kernel, by decide +kernel, (by decide +kernel : (parseMethodDescriptor yX8_ofPlayer.desc).map (fun d => d.parameters.length) = some 2)⟩ ⟨by decide, by decide⟩ (fun l => c_X8_ofPlayer e1 l) rfl (Nat.le_of_ble_eq_true rfl) ?_
  refine l_aload_n (pc := 410) C dL_law_410 rfl 2 rfl ?_
  refine l_aload_n (pc := 411) C dL_law_411 rfl 0 rfl ?_
  refine l_iload_n (pc := 412) C dL_law_412 rfl 3 rfl ?_
  refine l_iconst (v := (1:Int32)) (pc := 413) C dL_law_413 (by decide) ?_
  refine l_iadd (pc := 414) C dL_law_414 ?_
  refine l_sld (pc := 415) C (6 * j + 1) (nI_pl (6 * j) 1) (by omega) hLn dL_law_415 ?_
  refine l_aload_n (pc := 416) C dL_law_416 rfl 0 rfl ?_
  refine l_iload_n (pc := 417) C dL_law_417 rfl 3 rfl ?_
  refine l_iconst (v := (2:Int32)) (pc := 418) C dL_law_418 (by decide) ?_
  refine l_iadd (pc := 419) C dL_law_419 ?_
  refine l_sld (pc := 420) C (6 * j + 2) (nI_pl (6 * j) 2) (by omega) hLn dL_law_420 ?_
  refine l_callM (As := [.int (xs (6 * j + 1)), .int (xs (6 * j + 2))]) (rest := [.int r]) (pc := 421) C dL_law_421 ql_L_42 qi_X9_ofPlayer qs_X9_ofPlayer qn_X9 qc_X9_ofPlayer ⟨rfl, by decide +kernel, by decide +kernel, (by decide +kernel : (parseMethodDescriptor yX9_ofPlayer.desc).map (fun d => d.parameters.length) = some 2)⟩ ⟨by decide, by decide⟩ (fun l => c_X9_ofPlayer e2 l) rfl (Nat.le_of_ble_eq_true rfl) ?_
  refine l_eq (pc := 424) C 1358 dL_law_424 (by decide) rfl ?_
  exact hnext _ _ hR2
def St_change (Rel : Nat → Wd → Wd → Prop) : Prop := ∀ (n : Nat) (x y : Wd) (p1 : Int32) (p2 : Int32) (p3 : Int32), n < 512 → Rel n x y → ∃ (r : Int32) (x' : Wd) (y' : Wd), f_X8_change p1 p2 p3 x = some (r, x') ∧ f_X9_change p1 p2 p3 y = some (r, y') ∧ Rel (n + 1) x' y'
set_option maxRecDepth 20000 in
theorem lc_change (C : LX G b Ln xs V) {Rel : Nat → Wd → Wd → Prop} (hst : St_change Rel) {n j : Nat} (hR : Rel n x y) (hn : n < 512) (hj : 6 * j + 6 ≤ Ln) (hLn : Ln ≤ 3072) (hnext : ∀ x' y', Rel (n + 1) x' y' → V x' y' 1358 [(0, .ref b), (1, .ref (G.2 0)), (2, .ref (G.2 100)), (3, .int (nI (6 * j)))] []) : V x y 429 [(0, .ref b), (1, .ref (G.2 0)), (2, .ref (G.2 100)), (3, .int (nI (6 * j)))] [] := by
  obtain ⟨r, x', y', e1, e2, hR2⟩ := hst n x y (xs (6 * j + 1)) (xs (6 * j + 2)) (xs (6 * j + 3)) hn hR
  refine l_aload_n (pc := 429) C dL_law_429 rfl 1 rfl ?_
  refine l_aload_n (pc := 430) C dL_law_430 rfl 0 rfl ?_
  refine l_iload_n (pc := 431) C dL_law_431 rfl 3 rfl ?_
  refine l_iconst (v := (1:Int32)) (pc := 432) C dL_law_432 (by decide) ?_
  refine l_iadd (pc := 433) C dL_law_433 ?_
  refine l_sld (pc := 434) C (6 * j + 1) (nI_pl (6 * j) 1) (by omega) hLn dL_law_434 ?_
  refine l_aload_n (pc := 435) C dL_law_435 rfl 0 rfl ?_
  refine l_iload_n (pc := 436) C dL_law_436 rfl 3 rfl ?_
  refine l_iconst (v := (2:Int32)) (pc := 437) C dL_law_437 (by decide) ?_
  refine l_iadd (pc := 438) C dL_law_438 ?_
  refine l_sld (pc := 439) C (6 * j + 2) (nI_pl (6 * j) 2) (by omega) hLn dL_law_439 ?_
  refine l_aload_n (pc := 440) C dL_law_440 rfl 0 rfl ?_
  refine l_iload_n (pc := 441) C dL_law_441 rfl 3 rfl ?_
  refine l_iconst (v := (3:Int32)) (pc := 442) C dL_law_442 (by decide) ?_
  refine l_iadd (pc := 443) C dL_law_443 ?_
  refine l_sld (pc := 444) C (6 * j + 3) (nI_pl (6 * j) 3) (by omega) hLn dL_law_444 ?_
  refine l_callX (As := [.int (xs (6 * j + 1)), .int (xs (6 * j + 2)), .int (xs (6 * j + 3))]) (rest := []) (pc := 445) C dL_law_445 ql_L_43 qi_X8_change qs_X8_change qn_X8 qc_X8_change ⟨rfl, by decide +kernel, by decide +kernel, (by decide +kernel : (parseMethodDescriptor yX8_change.desc).map (fun d => d.parameters.length) = some 3)⟩ ⟨by decide, by decide⟩ (fun l => c_X8_change e1 l) rfl (Nat.le_of_ble_eq_true rfl) ?_
  refine l_aload_n (pc := 448) C dL_law_448 rfl 2 rfl ?_
  refine l_aload_n (pc := 449) C dL_law_449 rfl 0 rfl ?_
  refine l_iload_n (pc := 450) C dL_law_450 rfl 3 rfl ?_
  refine l_iconst (v := (1:Int32)) (pc := 451) C dL_law_451 (by decide) ?_
  refine l_iadd (pc := 452) C dL_law_452 ?_
  refine l_sld (pc := 453) C (6 * j + 1) (nI_pl (6 * j) 1) (by omega) hLn dL_law_453 ?_
  refine l_aload_n (pc := 454) C dL_law_454 rfl 0 rfl ?_
  refine l_iload_n (pc := 455) C dL_law_455 rfl 3 rfl ?_
  refine l_iconst (v := (2:Int32)) (pc := 456) C dL_law_456 (by decide) ?_
  refine l_iadd (pc := 457) C dL_law_457 ?_
  refine l_sld (pc := 458) C (6 * j + 2) (nI_pl (6 * j) 2) (by omega) hLn dL_law_458 ?_
  refine l_aload_n (pc := 459) C dL_law_459 rfl 0 rfl ?_
  refine l_iload_n (pc := 460) C dL_law_460 rfl 3 rfl ?_
  refine l_iconst (v := (3:Int32)) (pc := 461) C dL_law_461 (by decide) ?_
  refine l_iadd (pc := 462) C dL_law_462 ?_
  refine l_sld (pc := 463) C (6 * j + 3) (nI_pl (6 * j) 3) (by omega) hLn dL_law_463 ?_
  refine l_callM (As := [.int (xs (6 * j + 1)), .int (xs (6 * j + 2)), .int (xs (6 * j + 3))]) (rest := [.int r]) (pc := 464) C dL_law_464 ql_L_47 qi_X9_change qs_X9_change qn_X9 qc_X9_change ⟨rfl, by decide +kernel, by decide +kernel, (by decide +kernel : (parseMethodDescriptor yX9_change.desc).map (fun d => d.parameters.length) = some 3)⟩ ⟨by decide, by decide⟩ (fun l => c_X9_change e2 l) rfl (Nat.le_of_ble_eq_true rfl) ?_
  refine l_eq (pc := 467) C 1358 dL_law_467 (by decide) rfl ?_
  exact hnext _ _ hR2
def St_gala (Rel : Nat → Wd → Wd → Prop) : Prop := ∀ (n : Nat) (x y : Wd) (p1 : Int32), n < 512 → Rel n x y → ∃ (r : Int32) (x' : Wd) (y' : Wd), f_X8_gala p1 x = some (r, x') ∧ f_X9_gala p1 y = some (r, y') ∧ Rel (n + 1) x' y'
set_option maxRecDepth 20000 in
theorem lc_gala (C : LX G b Ln xs V) {Rel : Nat → Wd → Wd → Prop} (hst : St_gala Rel) {n j : Nat} (hR : Rel n x y) (hn : n < 512) (hj : 6 * j + 6 ≤ Ln) (hLn : Ln ≤ 3072) (hnext : ∀ x' y', Rel (n + 1) x' y' → V x' y' 1358 [(0, .ref b), (1, .ref (G.2 0)), (2, .ref (G.2 100)), (3, .int (nI (6 * j)))] []) : V x y 472 [(0, .ref b), (1, .ref (G.2 0)), (2, .ref (G.2 100)), (3, .int (nI (6 * j)))] [] := by
  obtain ⟨r, x', y', e1, e2, hR2⟩ := hst n x y (xs (6 * j + 1)) hn hR
  refine l_aload_n (pc := 472) C dL_law_472 rfl 1 rfl ?_
  refine l_aload_n (pc := 473) C dL_law_473 rfl 0 rfl ?_
  refine l_iload_n (pc := 474) C dL_law_474 rfl 3 rfl ?_
  refine l_iconst (v := (1:Int32)) (pc := 475) C dL_law_475 (by decide) ?_
  refine l_iadd (pc := 476) C dL_law_476 ?_
  refine l_sld (pc := 477) C (6 * j + 1) (nI_pl (6 * j) 1) (by omega) hLn dL_law_477 ?_
  refine l_callX (As := [.int (xs (6 * j + 1))]) (rest := []) (pc := 478) C dL_law_478 ql_L_48 qi_X8_gala qs_X8_gala qn_X8 qc_X8_gala ⟨rfl, by decide +kernel, by decide +kernel, (by decide +kernel : (parseMethodDescriptor yX8_gala.desc).map (fun d => d.parameters.length) = some 1)⟩ ⟨by decide, by decide⟩ (fun l => c_X8_gala e1 l) rfl (Nat.le_of_ble_eq_true rfl) ?_
  refine l_aload_n (pc := 481) C dL_law_481 rfl 2 rfl ?_
  refine l_aload_n (pc := 482) C dL_law_482 rfl 0 rfl ?_
  refine l_iload_n (pc := 483) C dL_law_483 rfl 3 rfl ?_
  refine l_iconst (v := (1:Int32)) (pc := 484) C dL_law_484 (by decide) ?_
  refine l_iadd (pc := 485) C dL_law_485 ?_
  refine l_sld (pc := 486) C (6 * j + 1) (nI_pl (6 * j) 1) (by omega) hLn dL_law_486 ?_
  refine l_callM (As := [.int (xs (6 * j + 1))]) (rest := [.int r]) (pc := 487) C dL_law_487 ql_L_51 qi_X9_gala qs_X9_gala qn_X9 qc_X9_gala ⟨rfl, by decide +kernel, by decide +kernel, (by decide +kernel : (parseMethodDescriptor yX9_gala.desc).map (fun d => d.parameters.length) = some 1)⟩ ⟨by decide, by decide⟩ (fun l => c_X9_gala e2 l) rfl (Nat.le_of_ble_eq_true rfl) ?_
  refine l_eq (pc := 490) C 1358 dL_law_490 (by decide) rfl ?_
  exact hnext _ _ hR2
def St_feed (Rel : Nat → Wd → Wd → Prop) : Prop := ∀ (n : Nat) (x y : Wd) (p1 : Int64) (p3 : Int32), n < 512 → Rel n x y → ∃ (r : Int32) (x' : Wd) (y' : Wd), f_X8_feed p1 p3 x = some (r, x') ∧ f_X9_feed p1 p3 y = some (r, y') ∧ Rel (n + 1) x' y'
set_option maxRecDepth 20000 in
theorem lc_feed (C : LX G b Ln xs V) {Rel : Nat → Wd → Wd → Prop} (hst : St_feed Rel) {n j : Nat} (hR : Rel n x y) (hn : n < 512) (hj : 6 * j + 6 ≤ Ln) (hLn : Ln ≤ 3072) (hnext : ∀ x' y', Rel (n + 1) x' y' → V x' y' 1358 [(0, .ref b), (1, .ref (G.2 0)), (2, .ref (G.2 100)), (3, .int (nI (6 * j)))] []) : V x y 495 [(0, .ref b), (1, .ref (G.2 0)), (2, .ref (G.2 100)), (3, .int (nI (6 * j)))] [] := by
  obtain ⟨r, x', y', e1, e2, hR2⟩ := hst n x y ((lshl ((xs (6 * j + 1))).toInt64 (32:Int32)) ||| (((xs (6 * j + 2))).toInt64 &&& (4294967295:Int64))) (xs (6 * j + 3)) hn hR
  refine l_aload_n (pc := 495) C dL_law_495 rfl 1 rfl ?_
  refine l_aload_n (pc := 496) C dL_law_496 rfl 0 rfl ?_
  refine l_iload_n (pc := 497) C dL_law_497 rfl 3 rfl ?_
  refine l_iconst (v := (1:Int32)) (pc := 498) C dL_law_498 (by decide) ?_
  refine l_iadd (pc := 499) C dL_law_499 ?_
  refine l_sld (pc := 500) C (6 * j + 1) (nI_pl (6 * j) 1) (by omega) hLn dL_law_500 ?_
  refine l_i2l (pc := 501) C dL_law_501 ?_
  refine l_bipush (v := (32:Int32)) (pc := 502) C dL_law_502 (by decide) ?_
  refine l_lshl (pc := 504) C dL_law_504 ?_
  refine l_aload_n (pc := 505) C dL_law_505 rfl 0 rfl ?_
  refine l_iload_n (pc := 506) C dL_law_506 rfl 3 rfl ?_
  refine l_iconst (v := (2:Int32)) (pc := 507) C dL_law_507 (by decide) ?_
  refine l_iadd (pc := 508) C dL_law_508 ?_
  refine l_sld (pc := 509) C (6 * j + 2) (nI_pl (6 * j) 2) (by omega) hLn dL_law_509 ?_
  refine l_i2l (pc := 510) C dL_law_510 ?_
  refine l_ldc2 (pc := 511) C dL_law_511 qk_L_52 ?_
  refine l_land (pc := 514) C dL_law_514 ?_
  refine l_lor (pc := 515) C dL_law_515 ?_
  refine l_aload_n (pc := 516) C dL_law_516 rfl 0 rfl ?_
  refine l_iload_n (pc := 517) C dL_law_517 rfl 3 rfl ?_
  refine l_iconst (v := (3:Int32)) (pc := 518) C dL_law_518 (by decide) ?_
  refine l_iadd (pc := 519) C dL_law_519 ?_
  refine l_sld (pc := 520) C (6 * j + 3) (nI_pl (6 * j) 3) (by omega) hLn dL_law_520 ?_
  refine l_callX (As := [.long ((lshl ((xs (6 * j + 1))).toInt64 (32:Int32)) ||| (((xs (6 * j + 2))).toInt64 &&& (4294967295:Int64))), .int (xs (6 * j + 3))]) (rest := []) (pc := 521) C dL_law_521 ql_L_54 qi_X8_feed qs_X8_feed qn_X8 qc_X8_feed ⟨rfl, by decide +kernel, by decide +kernel, (by decide +kernel : (parseMethodDescriptor yX8_feed.desc).map (fun d => d.parameters.length) = some 2)⟩ ⟨by decide, by decide⟩ (fun l => c_X8_feed e1 l) rfl (Nat.le_of_ble_eq_true rfl) ?_
  refine l_aload_n (pc := 524) C dL_law_524 rfl 2 rfl ?_
  refine l_aload_n (pc := 525) C dL_law_525 rfl 0 rfl ?_
  refine l_iload_n (pc := 526) C dL_law_526 rfl 3 rfl ?_
  refine l_iconst (v := (1:Int32)) (pc := 527) C dL_law_527 (by decide) ?_
  refine l_iadd (pc := 528) C dL_law_528 ?_
  refine l_sld (pc := 529) C (6 * j + 1) (nI_pl (6 * j) 1) (by omega) hLn dL_law_529 ?_
  refine l_i2l (pc := 530) C dL_law_530 ?_
  refine l_bipush (v := (32:Int32)) (pc := 531) C dL_law_531 (by decide) ?_
  refine l_lshl (pc := 533) C dL_law_533 ?_
  refine l_aload_n (pc := 534) C dL_law_534 rfl 0 rfl ?_
  refine l_iload_n (pc := 535) C dL_law_535 rfl 3 rfl ?_
  refine l_iconst (v := (2:Int32)) (pc := 536) C dL_law_536 (by decide) ?_
  refine l_iadd (pc := 537) C dL_law_537 ?_
  refine l_sld (pc := 538) C (6 * j + 2) (nI_pl (6 * j) 2) (by omega) hLn dL_law_538 ?_
  refine l_i2l (pc := 539) C dL_law_539 ?_
  refine l_ldc2 (pc := 540) C dL_law_540 qk_L_52 ?_
  refine l_land (pc := 543) C dL_law_543 ?_
  refine l_lor (pc := 544) C dL_law_544 ?_
  refine l_aload_n (pc := 545) C dL_law_545 rfl 0 rfl ?_
  refine l_iload_n (pc := 546) C dL_law_546 rfl 3 rfl ?_
  refine l_iconst (v := (3:Int32)) (pc := 547) C dL_law_547 (by decide) ?_
  refine l_iadd (pc := 548) C dL_law_548 ?_
  refine l_sld (pc := 549) C (6 * j + 3) (nI_pl (6 * j) 3) (by omega) hLn dL_law_549 ?_
  refine l_callM (As := [.long ((lshl ((xs (6 * j + 1))).toInt64 (32:Int32)) ||| (((xs (6 * j + 2))).toInt64 &&& (4294967295:Int64))), .int (xs (6 * j + 3))]) (rest := [.int r]) (pc := 550) C dL_law_550 ql_L_58 qi_X9_feed qs_X9_feed qn_X9 qc_X9_feed ⟨rfl, by decide +kernel, by decide +kernel, (by decide +kernel : (parseMethodDescriptor yX9_feed.desc).map (fun d => d.parameters.length) = some 2)⟩ ⟨by decide, by decide⟩ (fun l => c_X9_feed e2 l) rfl (Nat.le_of_ble_eq_true rfl) ?_
  refine l_eq (pc := 553) C 1358 dL_law_553 (by decide) rfl ?_
  exact hnext _ _ hR2
def St_text (Rel : Nat → Wd → Wd → Prop) : Prop := ∀ (n : Nat) (x y : Wd) (p1 : Int32), n < 512 → Rel n x y → ∃ (r : Int32) (x' : Wd) (y' : Wd), f_X8_text p1 x = some (r, x') ∧ f_X9_text p1 y = some (r, y') ∧ Rel (n + 1) x' y'
set_option maxRecDepth 20000 in
theorem lc_text (C : LX G b Ln xs V) {Rel : Nat → Wd → Wd → Prop} (hst : St_text Rel) {n j : Nat} (hR : Rel n x y) (hn : n < 512) (hj : 6 * j + 6 ≤ Ln) (hLn : Ln ≤ 3072) (hnext : ∀ x' y', Rel (n + 1) x' y' → V x' y' 1358 [(0, .ref b), (1, .ref (G.2 0)), (2, .ref (G.2 100)), (3, .int (nI (6 * j)))] []) : V x y 558 [(0, .ref b), (1, .ref (G.2 0)), (2, .ref (G.2 100)), (3, .int (nI (6 * j)))] [] := by
  obtain ⟨r, x', y', e1, e2, hR2⟩ := hst n x y (xs (6 * j + 1)) hn hR
  refine l_aload_n (pc := 558) C dL_law_558 rfl 1 rfl ?_
  refine l_aload_n (pc := 559) C dL_law_559 rfl 0 rfl ?_
  refine l_iload_n (pc := 560) C dL_law_560 rfl 3 rfl ?_
  refine l_iconst (v := (1:Int32)) (pc := 561) C dL_law_561 (by decide) ?_
  refine l_iadd (pc := 562) C dL_law_562 ?_
  refine l_sld (pc := 563) C (6 * j + 1) (nI_pl (6 * j) 1) (by omega) hLn dL_law_563 ?_
  refine l_callX (As := [.int (xs (6 * j + 1))]) (rest := []) (pc := 564) C dL_law_564 ql_L_59 qi_X8_text qs_X8_text qn_X8 qc_X8_text ⟨rfl, by decide +kernel, by decide +kernel, (by decide +kernel : (parseMethodDescriptor yX8_text.desc).map (fun d => d.parameters.length) = some 1)⟩ ⟨by decide, by decide⟩ (fun l => c_X8_text e1 l) rfl (Nat.le_of_ble_eq_true rfl) ?_
  refine l_aload_n (pc := 567) C dL_law_567 rfl 2 rfl ?_
  refine l_aload_n (pc := 568) C dL_law_568 rfl 0 rfl ?_
  refine l_iload_n (pc := 569) C dL_law_569 rfl 3 rfl ?_
  refine l_iconst (v := (1:Int32)) (pc := 570) C dL_law_570 (by decide) ?_
  refine l_iadd (pc := 571) C dL_law_571 ?_
  refine l_sld (pc := 572) C (6 * j + 1) (nI_pl (6 * j) 1) (by omega) hLn dL_law_572 ?_
  refine l_callM (As := [.int (xs (6 * j + 1))]) (rest := [.int r]) (pc := 573) C dL_law_573 ql_L_62 qi_X9_text qs_X9_text qn_X9 qc_X9_text ⟨rfl, by decide +kernel, by decide +kernel, (by decide +kernel : (parseMethodDescriptor yX9_text.desc).map (fun d => d.parameters.length) = some 1)⟩ ⟨by decide, by decide⟩ (fun l => c_X9_text e2 l) rfl (Nat.le_of_ble_eq_true rfl) ?_
  refine l_eq (pc := 576) C 1358 dL_law_576 (by decide) rfl ?_
  exact hnext _ _ hR2
def St_law (Rel : Nat → Wd → Wd → Prop) : Prop := ∀ (n : Nat) (x y : Wd) (p1 : Int32) (p2 : Int32) (p3 : Int32) (p4 : Int32), n < 512 → Rel n x y → ∃ (r : Int32) (x' : Wd) (y' : Wd), f_X8_law p1 p2 p3 p4 x = some (r, x') ∧ f_X9_law p1 p2 p3 p4 y = some (r, y') ∧ Rel (n + 1) x' y'
set_option maxRecDepth 20000 in
theorem lc_law (C : LX G b Ln xs V) {Rel : Nat → Wd → Wd → Prop} (hst : St_law Rel) {n j : Nat} (hR : Rel n x y) (hn : n < 512) (hj : 6 * j + 6 ≤ Ln) (hLn : Ln ≤ 3072) (hnext : ∀ x' y', Rel (n + 1) x' y' → V x' y' 1358 [(0, .ref b), (1, .ref (G.2 0)), (2, .ref (G.2 100)), (3, .int (nI (6 * j)))] []) : V x y 581 [(0, .ref b), (1, .ref (G.2 0)), (2, .ref (G.2 100)), (3, .int (nI (6 * j)))] [] := by
  obtain ⟨r, x', y', e1, e2, hR2⟩ := hst n x y (xs (6 * j + 1)) (xs (6 * j + 2)) (xs (6 * j + 3)) (xs (6 * j + 4)) hn hR
  refine l_aload_n (pc := 581) C dL_law_581 rfl 1 rfl ?_
  refine l_aload_n (pc := 582) C dL_law_582 rfl 0 rfl ?_
  refine l_iload_n (pc := 583) C dL_law_583 rfl 3 rfl ?_
  refine l_iconst (v := (1:Int32)) (pc := 584) C dL_law_584 (by decide) ?_
  refine l_iadd (pc := 585) C dL_law_585 ?_
  refine l_sld (pc := 586) C (6 * j + 1) (nI_pl (6 * j) 1) (by omega) hLn dL_law_586 ?_
  refine l_aload_n (pc := 587) C dL_law_587 rfl 0 rfl ?_
  refine l_iload_n (pc := 588) C dL_law_588 rfl 3 rfl ?_
  refine l_iconst (v := (2:Int32)) (pc := 589) C dL_law_589 (by decide) ?_
  refine l_iadd (pc := 590) C dL_law_590 ?_
  refine l_sld (pc := 591) C (6 * j + 2) (nI_pl (6 * j) 2) (by omega) hLn dL_law_591 ?_
  refine l_aload_n (pc := 592) C dL_law_592 rfl 0 rfl ?_
  refine l_iload_n (pc := 593) C dL_law_593 rfl 3 rfl ?_
  refine l_iconst (v := (3:Int32)) (pc := 594) C dL_law_594 (by decide) ?_
  refine l_iadd (pc := 595) C dL_law_595 ?_
  refine l_sld (pc := 596) C (6 * j + 3) (nI_pl (6 * j) 3) (by omega) hLn dL_law_596 ?_
  refine l_aload_n (pc := 597) C dL_law_597 rfl 0 rfl ?_
  refine l_iload_n (pc := 598) C dL_law_598 rfl 3 rfl ?_
  refine l_iconst (v := (4:Int32)) (pc := 599) C dL_law_599 (by decide) ?_
  refine l_iadd (pc := 600) C dL_law_600 ?_
  refine l_sld (pc := 601) C (6 * j + 4) (nI_pl (6 * j) 4) (by omega) hLn dL_law_601 ?_
  refine l_callX (As := [.int (xs (6 * j + 1)), .int (xs (6 * j + 2)), .int (xs (6 * j + 3)), .int (xs (6 * j + 4))]) (rest := []) (pc := 602) C dL_law_602 ql_L_63 qi_X8_law qs_X8_law qn_X8 qc_X8_law ⟨rfl, by decide +kernel, by decide +kernel, (by decide +kernel : (parseMethodDescriptor yX8_law.desc).map (fun d => d.parameters.length) = some 4)⟩ ⟨by decide, by decide⟩ (fun l => c_X8_law e1 l) rfl (Nat.le_of_ble_eq_true rfl) ?_
  refine l_aload_n (pc := 605) C dL_law_605 rfl 2 rfl ?_
  refine l_aload_n (pc := 606) C dL_law_606 rfl 0 rfl ?_
  refine l_iload_n (pc := 607) C dL_law_607 rfl 3 rfl ?_
  refine l_iconst (v := (1:Int32)) (pc := 608) C dL_law_608 (by decide) ?_
  refine l_iadd (pc := 609) C dL_law_609 ?_
  refine l_sld (pc := 610) C (6 * j + 1) (nI_pl (6 * j) 1) (by omega) hLn dL_law_610 ?_
  refine l_aload_n (pc := 611) C dL_law_611 rfl 0 rfl ?_
  refine l_iload_n (pc := 612) C dL_law_612 rfl 3 rfl ?_
  refine l_iconst (v := (2:Int32)) (pc := 613) C dL_law_613 (by decide) ?_
  refine l_iadd (pc := 614) C dL_law_614 ?_
  refine l_sld (pc := 615) C (6 * j + 2) (nI_pl (6 * j) 2) (by omega) hLn dL_law_615 ?_
  refine l_aload_n (pc := 616) C dL_law_616 rfl 0 rfl ?_
  refine l_iload_n (pc := 617) C dL_law_617 rfl 3 rfl ?_
  refine l_iconst (v := (3:Int32)) (pc := 618) C dL_law_618 (by decide) ?_
  refine l_iadd (pc := 619) C dL_law_619 ?_
  refine l_sld (pc := 620) C (6 * j + 3) (nI_pl (6 * j) 3) (by omega) hLn dL_law_620 ?_
  refine l_aload_n (pc := 621) C dL_law_621 rfl 0 rfl ?_
  refine l_iload_n (pc := 622) C dL_law_622 rfl 3 rfl ?_
  refine l_iconst (v := (4:Int32)) (pc := 623) C dL_law_623 (by decide) ?_
  refine l_iadd (pc := 624) C dL_law_624 ?_
  refine l_sld (pc := 625) C (6 * j + 4) (nI_pl (6 * j) 4) (by omega) hLn dL_law_625 ?_
  refine l_callM (As := [.int (xs (6 * j + 1)), .int (xs (6 * j + 2)), .int (xs (6 * j + 3)), .int (xs (6 * j + 4))]) (rest := [.int r]) (pc := 626) C dL_law_626 ql_L_67 qi_X9_law qs_X9_law qn_X9 qc_X9_law ⟨rfl, by decide +kernel, by decide +kernel, (by decide +kernel : (parseMethodDescriptor yX9_law.desc).map (fun d => d.parameters.length) = some 4)⟩ ⟨by decide, by decide⟩ (fun l => c_X9_law e2 l) rfl (Nat.le_of_ble_eq_true rfl) ?_
  refine l_eq (pc := 629) C 1358 dL_law_629 (by decide) rfl ?_
  exact hnext _ _ hR2
def St_cast (Rel : Nat → Wd → Wd → Prop) : Prop := ∀ (n : Nat) (x y : Wd) (p1 : Int32), n < 512 → Rel n x y → ∃ (r : Int32) (x' : Wd) (y' : Wd), f_X8_cast p1 x = some (r, x') ∧ f_X9_cast p1 y = some (r, y') ∧ Rel (n + 1) x' y'
set_option maxRecDepth 20000 in
theorem lc_cast (C : LX G b Ln xs V) {Rel : Nat → Wd → Wd → Prop} (hst : St_cast Rel) {n j : Nat} (hR : Rel n x y) (hn : n < 512) (hj : 6 * j + 6 ≤ Ln) (hLn : Ln ≤ 3072) (hnext : ∀ x' y', Rel (n + 1) x' y' → V x' y' 1358 [(0, .ref b), (1, .ref (G.2 0)), (2, .ref (G.2 100)), (3, .int (nI (6 * j)))] []) : V x y 634 [(0, .ref b), (1, .ref (G.2 0)), (2, .ref (G.2 100)), (3, .int (nI (6 * j)))] [] := by
  obtain ⟨r, x', y', e1, e2, hR2⟩ := hst n x y (xs (6 * j + 1)) hn hR
  refine l_aload_n (pc := 634) C dL_law_634 rfl 1 rfl ?_
  refine l_aload_n (pc := 635) C dL_law_635 rfl 0 rfl ?_
  refine l_iload_n (pc := 636) C dL_law_636 rfl 3 rfl ?_
  refine l_iconst (v := (1:Int32)) (pc := 637) C dL_law_637 (by decide) ?_
  refine l_iadd (pc := 638) C dL_law_638 ?_
  refine l_sld (pc := 639) C (6 * j + 1) (nI_pl (6 * j) 1) (by omega) hLn dL_law_639 ?_
  refine l_callX (As := [.int (xs (6 * j + 1))]) (rest := []) (pc := 640) C dL_law_640 ql_L_68 qi_X8_cast qs_X8_cast qn_X8 qc_X8_cast ⟨rfl, by decide +kernel, by decide +kernel, (by decide +kernel : (parseMethodDescriptor yX8_cast.desc).map (fun d => d.parameters.length) = some 1)⟩ ⟨by decide, by decide⟩ (fun l => c_X8_cast e1 l) rfl (Nat.le_of_ble_eq_true rfl) ?_
  refine l_aload_n (pc := 643) C dL_law_643 rfl 2 rfl ?_
  refine l_aload_n (pc := 644) C dL_law_644 rfl 0 rfl ?_
  refine l_iload_n (pc := 645) C dL_law_645 rfl 3 rfl ?_
  refine l_iconst (v := (1:Int32)) (pc := 646) C dL_law_646 (by decide) ?_
  refine l_iadd (pc := 647) C dL_law_647 ?_
  refine l_sld (pc := 648) C (6 * j + 1) (nI_pl (6 * j) 1) (by omega) hLn dL_law_648 ?_
  refine l_callM (As := [.int (xs (6 * j + 1))]) (rest := [.int r]) (pc := 649) C dL_law_649 ql_L_71 qi_X9_cast qs_X9_cast qn_X9 qc_X9_cast ⟨rfl, by decide +kernel, by decide +kernel, (by decide +kernel : (parseMethodDescriptor yX9_cast.desc).map (fun d => d.parameters.length) = some 1)⟩ ⟨by decide, by decide⟩ (fun l => c_X9_cast e2 l) rfl (Nat.le_of_ble_eq_true rfl) ?_
  refine l_eq (pc := 652) C 1358 dL_law_652 (by decide) rfl ?_
  exact hnext _ _ hR2
def St_nights (Rel : Nat → Wd → Wd → Prop) : Prop := ∀ (n : Nat) (x y : Wd) (p1 : Int32), n < 512 → Rel n x y → ∃ (r : Int32) (x' : Wd) (y' : Wd), f_X8_nights p1 x = some (r, x') ∧ f_X9_nights p1 y = some (r, y') ∧ Rel (n + 1) x' y'
set_option maxRecDepth 20000 in
theorem lc_nights (C : LX G b Ln xs V) {Rel : Nat → Wd → Wd → Prop} (hst : St_nights Rel) {n j : Nat} (hR : Rel n x y) (hn : n < 512) (hj : 6 * j + 6 ≤ Ln) (hLn : Ln ≤ 3072) (hnext : ∀ x' y', Rel (n + 1) x' y' → V x' y' 1358 [(0, .ref b), (1, .ref (G.2 0)), (2, .ref (G.2 100)), (3, .int (nI (6 * j)))] []) : V x y 657 [(0, .ref b), (1, .ref (G.2 0)), (2, .ref (G.2 100)), (3, .int (nI (6 * j)))] [] := by
  obtain ⟨r, x', y', e1, e2, hR2⟩ := hst n x y (xs (6 * j + 1)) hn hR
  refine l_aload_n (pc := 657) C dL_law_657 rfl 1 rfl ?_
  refine l_aload_n (pc := 658) C dL_law_658 rfl 0 rfl ?_
  refine l_iload_n (pc := 659) C dL_law_659 rfl 3 rfl ?_
  refine l_iconst (v := (1:Int32)) (pc := 660) C dL_law_660 (by decide) ?_
  refine l_iadd (pc := 661) C dL_law_661 ?_
  refine l_sld (pc := 662) C (6 * j + 1) (nI_pl (6 * j) 1) (by omega) hLn dL_law_662 ?_
  refine l_callX (As := [.int (xs (6 * j + 1))]) (rest := []) (pc := 663) C dL_law_663 ql_L_72 qi_X8_nights qs_X8_nights qn_X8 qc_X8_nights ⟨rfl, by decide +kernel, by decide +kernel, (by decide +kernel : (parseMethodDescriptor yX8_nights.desc).map (fun d => d.parameters.length) = some 1)⟩ ⟨by decide, by decide⟩ (fun l => c_X8_nights e1 l) rfl (Nat.le_of_ble_eq_true rfl) ?_
  refine l_aload_n (pc := 666) C dL_law_666 rfl 2 rfl ?_
  refine l_aload_n (pc := 667) C dL_law_667 rfl 0 rfl ?_
  refine l_iload_n (pc := 668) C dL_law_668 rfl 3 rfl ?_
  refine l_iconst (v := (1:Int32)) (pc := 669) C dL_law_669 (by decide) ?_
  refine l_iadd (pc := 670) C dL_law_670 ?_
  refine l_sld (pc := 671) C (6 * j + 1) (nI_pl (6 * j) 1) (by omega) hLn dL_law_671 ?_
  refine l_callM (As := [.int (xs (6 * j + 1))]) (rest := [.int r]) (pc := 672) C dL_law_672 ql_L_75 qi_X9_nights qs_X9_nights qn_X9 qc_X9_nights ⟨rfl, by decide +kernel, by decide +kernel, (by decide +kernel : (parseMethodDescriptor yX9_nights.desc).map (fun d => d.parameters.length) = some 1)⟩ ⟨by decide, by decide⟩ (fun l => c_X9_nights e2 l) rfl (Nat.le_of_ble_eq_true rfl) ?_
  refine l_eq (pc := 675) C 1358 dL_law_675 (by decide) rfl ?_
  exact hnext _ _ hR2
def St_loose (Rel : Nat → Wd → Wd → Prop) : Prop := ∀ (n : Nat) (x y : Wd) (p1 : Int32), n < 512 → Rel n x y → ∃ (r : Int32) (x' : Wd) (y' : Wd), f_X8_loose p1 x = some (r, x') ∧ f_X9_loose p1 y = some (r, y') ∧ Rel (n + 1) x' y'
set_option maxRecDepth 20000 in
theorem lc_loose (C : LX G b Ln xs V) {Rel : Nat → Wd → Wd → Prop} (hst : St_loose Rel) {n j : Nat} (hR : Rel n x y) (hn : n < 512) (hj : 6 * j + 6 ≤ Ln) (hLn : Ln ≤ 3072) (hnext : ∀ x' y', Rel (n + 1) x' y' → V x' y' 1358 [(0, .ref b), (1, .ref (G.2 0)), (2, .ref (G.2 100)), (3, .int (nI (6 * j)))] []) : V x y 680 [(0, .ref b), (1, .ref (G.2 0)), (2, .ref (G.2 100)), (3, .int (nI (6 * j)))] [] := by
  obtain ⟨r, x', y', e1, e2, hR2⟩ := hst n x y (xs (6 * j + 1)) hn hR
  refine l_aload_n (pc := 680) C dL_law_680 rfl 1 rfl ?_
  refine l_aload_n (pc := 681) C dL_law_681 rfl 0 rfl ?_
  refine l_iload_n (pc := 682) C dL_law_682 rfl 3 rfl ?_
  refine l_iconst (v := (1:Int32)) (pc := 683) C dL_law_683 (by decide) ?_
  refine l_iadd (pc := 684) C dL_law_684 ?_
  refine l_sld (pc := 685) C (6 * j + 1) (nI_pl (6 * j) 1) (by omega) hLn dL_law_685 ?_
  refine l_callX (As := [.int (xs (6 * j + 1))]) (rest := []) (pc := 686) C dL_law_686 ql_L_76 qi_X8_loose qs_X8_loose qn_X8 qc_X8_loose ⟨rfl, by decide +kernel, by decide +kernel, (by decide +kernel : (parseMethodDescriptor yX8_loose.desc).map (fun d => d.parameters.length) = some 1)⟩ ⟨by decide, by decide⟩ (fun l => c_X8_loose e1 l) rfl (Nat.le_of_ble_eq_true rfl) ?_
  refine l_aload_n (pc := 689) C dL_law_689 rfl 2 rfl ?_
  refine l_aload_n (pc := 690) C dL_law_690 rfl 0 rfl ?_
  refine l_iload_n (pc := 691) C dL_law_691 rfl 3 rfl ?_
  refine l_iconst (v := (1:Int32)) (pc := 692) C dL_law_692 (by decide) ?_
  refine l_iadd (pc := 693) C dL_law_693 ?_
  refine l_sld (pc := 694) C (6 * j + 1) (nI_pl (6 * j) 1) (by omega) hLn dL_law_694 ?_
  refine l_callM (As := [.int (xs (6 * j + 1))]) (rest := [.int r]) (pc := 695) C dL_law_695 ql_L_79 qi_X9_loose qs_X9_loose qn_X9 qc_X9_loose ⟨rfl, by decide +kernel, by decide +kernel, (by decide +kernel : (parseMethodDescriptor yX9_loose.desc).map (fun d => d.parameters.length) = some 1)⟩ ⟨by decide, by decide⟩ (fun l => c_X9_loose e2 l) rfl (Nat.le_of_ble_eq_true rfl) ?_
  refine l_eq (pc := 698) C 1358 dL_law_698 (by decide) rfl ?_
  exact hnext _ _ hR2
def St_first (Rel : Nat → Wd → Wd → Prop) : Prop := ∀ (n : Nat) (x y : Wd) (p1 : Int32), n < 512 → Rel n x y → ∃ (r : Int32) (x' : Wd) (y' : Wd), f_X8_first p1 x = some (r, x') ∧ f_X9_first p1 y = some (r, y') ∧ Rel (n + 1) x' y'
set_option maxRecDepth 20000 in
theorem lc_first (C : LX G b Ln xs V) {Rel : Nat → Wd → Wd → Prop} (hst : St_first Rel) {n j : Nat} (hR : Rel n x y) (hn : n < 512) (hj : 6 * j + 6 ≤ Ln) (hLn : Ln ≤ 3072) (hnext : ∀ x' y', Rel (n + 1) x' y' → V x' y' 1358 [(0, .ref b), (1, .ref (G.2 0)), (2, .ref (G.2 100)), (3, .int (nI (6 * j)))] []) : V x y 703 [(0, .ref b), (1, .ref (G.2 0)), (2, .ref (G.2 100)), (3, .int (nI (6 * j)))] [] := by
  obtain ⟨r, x', y', e1, e2, hR2⟩ := hst n x y (xs (6 * j + 1)) hn hR
  refine l_aload_n (pc := 703) C dL_law_703 rfl 1 rfl ?_
  refine l_aload_n (pc := 704) C dL_law_704 rfl 0 rfl ?_
  refine l_iload_n (pc := 705) C dL_law_705 rfl 3 rfl ?_
  refine l_iconst (v := (1:Int32)) (pc := 706) C dL_law_706 (by decide) ?_
  refine l_iadd (pc := 707) C dL_law_707 ?_
  refine l_sld (pc := 708) C (6 * j + 1) (nI_pl (6 * j) 1) (by omega) hLn dL_law_708 ?_
  refine l_callX (As := [.int (xs (6 * j + 1))]) (rest := []) (pc := 709) C dL_law_709 ql_L_80 qi_X8_first qs_X8_first qn_X8 qc_X8_first ⟨rfl, by decide +kernel, by decide +kernel, (by decide +kernel : (parseMethodDescriptor yX8_first.desc).map (fun d => d.parameters.length) = some 1)⟩ ⟨by decide, by decide⟩ (fun l => c_X8_first e1 l) rfl (Nat.le_of_ble_eq_true rfl) ?_
  refine l_aload_n (pc := 712) C dL_law_712 rfl 2 rfl ?_
  refine l_aload_n (pc := 713) C dL_law_713 rfl 0 rfl ?_
  refine l_iload_n (pc := 714) C dL_law_714 rfl 3 rfl ?_
  refine l_iconst (v := (1:Int32)) (pc := 715) C dL_law_715 (by decide) ?_
  refine l_iadd (pc := 716) C dL_law_716 ?_
  refine l_sld (pc := 717) C (6 * j + 1) (nI_pl (6 * j) 1) (by omega) hLn dL_law_717 ?_
  refine l_callM (As := [.int (xs (6 * j + 1))]) (rest := [.int r]) (pc := 718) C dL_law_718 ql_L_83 qi_X9_first qs_X9_first qn_X9 qc_X9_first ⟨rfl, by decide +kernel, by decide +kernel, (by decide +kernel : (parseMethodDescriptor yX9_first.desc).map (fun d => d.parameters.length) = some 1)⟩ ⟨by decide, by decide⟩ (fun l => c_X9_first e2 l) rfl (Nat.le_of_ble_eq_true rfl) ?_
  refine l_eq (pc := 721) C 1358 dL_law_721 (by decide) rfl ?_
  exact hnext _ _ hR2
def St_castings (Rel : Nat → Wd → Wd → Prop) : Prop := ∀ (n : Nat) (x y : Wd), n < 512 → Rel n x y → ∃ (r : Int32) (x' : Wd) (y' : Wd), f_X8_castings x = some (r, x') ∧ f_X9_castings y = some (r, y') ∧ Rel (n + 1) x' y'
set_option maxRecDepth 20000 in
theorem lc_castings (C : LX G b Ln xs V) {Rel : Nat → Wd → Wd → Prop} (hst : St_castings Rel) {n j : Nat} (hR : Rel n x y) (hn : n < 512) (hj : 6 * j + 6 ≤ Ln) (hLn : Ln ≤ 3072) (hnext : ∀ x' y', Rel (n + 1) x' y' → V x' y' 1358 [(0, .ref b), (1, .ref (G.2 0)), (2, .ref (G.2 100)), (3, .int (nI (6 * j)))] []) : V x y 726 [(0, .ref b), (1, .ref (G.2 0)), (2, .ref (G.2 100)), (3, .int (nI (6 * j)))] [] := by
  obtain ⟨r, x', y', e1, e2, hR2⟩ := hst n x y hn hR
  refine l_aload_n (pc := 726) C dL_law_726 rfl 1 rfl ?_
  refine l_callX (As := []) (rest := []) (pc := 727) C dL_law_727 ql_L_84 qi_X8_castings qs_X8_castings qn_X8 qc_X8_castings ⟨rfl, by decide +kernel, by decide +kernel, (by decide +kernel : (parseMethodDescriptor yX8_castings.desc).map (fun d => d.parameters.length) = some 0)⟩ ⟨by decide, by decide⟩ (fun l => c_X8_castings e1 l) rfl (Nat.le_of_ble_eq_true rfl) ?_
  refine l_aload_n (pc := 730) C dL_law_730 rfl 2 rfl ?_
  refine l_callM (As := []) (rest := [.int r]) (pc := 731) C dL_law_731 ql_L_88 qi_X9_castings qs_X9_castings qn_X9 qc_X9_castings ⟨rfl, by decide +kernel, by decide +kernel, (by decide +kernel : (parseMethodDescriptor yX9_castings.desc).map (fun d => d.parameters.length) = some 0)⟩ ⟨by decide, by decide⟩ (fun l => c_X9_castings e2 l) rfl (Nat.le_of_ble_eq_true rfl) ?_
  refine l_eq (pc := 734) C 1358 dL_law_734 (by decide) rfl ?_
  exact hnext _ _ hR2
def St_season (Rel : Nat → Wd → Wd → Prop) : Prop := ∀ (n : Nat) (x y : Wd), n < 512 → Rel n x y → ∃ (r : Int32) (x' : Wd) (y' : Wd), f_X8_season x = some (r, x') ∧ f_X9_season y = some (r, y') ∧ Rel (n + 1) x' y'
set_option maxRecDepth 20000 in
theorem lc_season (C : LX G b Ln xs V) {Rel : Nat → Wd → Wd → Prop} (hst : St_season Rel) {n j : Nat} (hR : Rel n x y) (hn : n < 512) (hj : 6 * j + 6 ≤ Ln) (hLn : Ln ≤ 3072) (hnext : ∀ x' y', Rel (n + 1) x' y' → V x' y' 1358 [(0, .ref b), (1, .ref (G.2 0)), (2, .ref (G.2 100)), (3, .int (nI (6 * j)))] []) : V x y 739 [(0, .ref b), (1, .ref (G.2 0)), (2, .ref (G.2 100)), (3, .int (nI (6 * j)))] [] := by
  obtain ⟨r, x', y', e1, e2, hR2⟩ := hst n x y hn hR
  refine l_aload_n (pc := 739) C dL_law_739 rfl 1 rfl ?_
  refine l_callX (As := []) (rest := []) (pc := 740) C dL_law_740 ql_L_89 qi_X8_season qs_X8_season qn_X8 qc_X8_season ⟨rfl, by decide +kernel, by decide +kernel, (by decide +kernel : (parseMethodDescriptor yX8_season.desc).map (fun d => d.parameters.length) = some 0)⟩ ⟨by decide, by decide⟩ (fun l => c_X8_season e1 l) rfl (Nat.le_of_ble_eq_true rfl) ?_
  refine l_aload_n (pc := 743) C dL_law_743 rfl 2 rfl ?_
  refine l_callM (As := []) (rest := [.int r]) (pc := 744) C dL_law_744 ql_L_92 qi_X9_season qs_X9_season qn_X9 qc_X9_season ⟨rfl, by decide +kernel, by decide +kernel, (by decide +kernel : (parseMethodDescriptor yX9_season.desc).map (fun d => d.parameters.length) = some 0)⟩ ⟨by decide, by decide⟩ (fun l => c_X9_season e2 l) rfl (Nat.le_of_ble_eq_true rfl) ?_
  refine l_eq (pc := 747) C 1358 dL_law_747 (by decide) rfl ?_
  exact hnext _ _ hR2
def St_then (Rel : Nat → Wd → Wd → Prop) : Prop := ∀ (n : Nat) (x y : Wd) (p1 : Int32) (p2 : Int32) (p3 : Int32), n < 512 → Rel n x y → ∃ (r : Int32) (x' : Wd) (y' : Wd), f_X8_then p1 p2 p3 x = some (r, x') ∧ f_X9_then p1 p2 p3 y = some (r, y') ∧ Rel (n + 1) x' y'
set_option maxRecDepth 20000 in
theorem lc_then (C : LX G b Ln xs V) {Rel : Nat → Wd → Wd → Prop} (hst : St_then Rel) {n j : Nat} (hR : Rel n x y) (hn : n < 512) (hj : 6 * j + 6 ≤ Ln) (hLn : Ln ≤ 3072) (hnext : ∀ x' y', Rel (n + 1) x' y' → V x' y' 1358 [(0, .ref b), (1, .ref (G.2 0)), (2, .ref (G.2 100)), (3, .int (nI (6 * j)))] []) : V x y 752 [(0, .ref b), (1, .ref (G.2 0)), (2, .ref (G.2 100)), (3, .int (nI (6 * j)))] [] := by
  obtain ⟨r, x', y', e1, e2, hR2⟩ := hst n x y (xs (6 * j + 1)) (xs (6 * j + 2)) (xs (6 * j + 3)) hn hR
  refine l_aload_n (pc := 752) C dL_law_752 rfl 1 rfl ?_
  refine l_aload_n (pc := 753) C dL_law_753 rfl 0 rfl ?_
  refine l_iload_n (pc := 754) C dL_law_754 rfl 3 rfl ?_
  refine l_iconst (v := (1:Int32)) (pc := 755) C dL_law_755 (by decide) ?_
  refine l_iadd (pc := 756) C dL_law_756 ?_
  refine l_sld (pc := 757) C (6 * j + 1) (nI_pl (6 * j) 1) (by omega) hLn dL_law_757 ?_
  refine l_aload_n (pc := 758) C dL_law_758 rfl 0 rfl ?_
  refine l_iload_n (pc := 759) C dL_law_759 rfl 3 rfl ?_
  refine l_iconst (v := (2:Int32)) (pc := 760) C dL_law_760 (by decide) ?_
  refine l_iadd (pc := 761) C dL_law_761 ?_
  refine l_sld (pc := 762) C (6 * j + 2) (nI_pl (6 * j) 2) (by omega) hLn dL_law_762 ?_
  refine l_aload_n (pc := 763) C dL_law_763 rfl 0 rfl ?_
  refine l_iload_n (pc := 764) C dL_law_764 rfl 3 rfl ?_
  refine l_iconst (v := (3:Int32)) (pc := 765) C dL_law_765 (by decide) ?_
  refine l_iadd (pc := 766) C dL_law_766 ?_
  refine l_sld (pc := 767) C (6 * j + 3) (nI_pl (6 * j) 3) (by omega) hLn dL_law_767 ?_
  refine l_callX (As := [.int (xs (6 * j + 1)), .int (xs (6 * j + 2)), .int (xs (6 * j + 3))]) (rest := []) (pc := 768) C dL_law_768 ql_L_93 qi_X8_then qs_X8_then qn_X8 qc_X8_then ⟨rfl, by decide +kernel, by decide +kernel, (by decide +kernel : (parseMethodDescriptor yX8_then.desc).map (fun d => d.parameters.length) = some 3)⟩ ⟨by decide, by decide⟩ (fun l => c_X8_then e1 l) rfl (Nat.le_of_ble_eq_true rfl) ?_
  refine l_aload_n (pc := 771) C dL_law_771 rfl 2 rfl ?_
  refine l_aload_n (pc := 772) C dL_law_772 rfl 0 rfl ?_
  refine l_iload_n (pc := 773) C dL_law_773 rfl 3 rfl ?_
  refine l_iconst (v := (1:Int32)) (pc := 774) C dL_law_774 (by decide) ?_
  refine l_iadd (pc := 775) C dL_law_775 ?_
  refine l_sld (pc := 776) C (6 * j + 1) (nI_pl (6 * j) 1) (by omega) hLn dL_law_776 ?_
  refine l_aload_n (pc := 777) C dL_law_777 rfl 0 rfl ?_
  refine l_iload_n (pc := 778) C dL_law_778 rfl 3 rfl ?_
  refine l_iconst (v := (2:Int32)) (pc := 779) C dL_law_779 (by decide) ?_
  refine l_iadd (pc := 780) C dL_law_780 ?_
  refine l_sld (pc := 781) C (6 * j + 2) (nI_pl (6 * j) 2) (by omega) hLn dL_law_781 ?_
  refine l_aload_n (pc := 782) C dL_law_782 rfl 0 rfl ?_
  refine l_iload_n (pc := 783) C dL_law_783 rfl 3 rfl ?_
  refine l_iconst (v := (3:Int32)) (pc := 784) C dL_law_784 (by decide) ?_
  refine l_iadd (pc := 785) C dL_law_785 ?_
  refine l_sld (pc := 786) C (6 * j + 3) (nI_pl (6 * j) 3) (by omega) hLn dL_law_786 ?_
  refine l_callM (As := [.int (xs (6 * j + 1)), .int (xs (6 * j + 2)), .int (xs (6 * j + 3))]) (rest := [.int r]) (pc := 787) C dL_law_787 ql_L_96 qi_X9_then qs_X9_then qn_X9 qc_X9_then ⟨rfl, by decide +kernel, by decide +kernel, (by decide +kernel : (parseMethodDescriptor yX9_then.desc).map (fun d => d.parameters.length) = some 3)⟩ ⟨by decide, by decide⟩ (fun l => c_X9_then e2 l) rfl (Nat.le_of_ble_eq_true rfl) ?_
  refine l_eq (pc := 790) C 1358 dL_law_790 (by decide) rfl ?_
  exact hnext _ _ hR2
def St_learns (Rel : Nat → Wd → Wd → Prop) : Prop := ∀ (n : Nat) (x y : Wd) (p1 : Int32) (p2 : Int32), n < 512 → Rel n x y → ∃ (r : Int32) (x' : Wd) (y' : Wd), f_X8_learns p1 p2 x = some (r, x') ∧ f_X9_learns p1 p2 y = some (r, y') ∧ Rel (n + 1) x' y'
set_option maxRecDepth 20000 in
theorem lc_learns (C : LX G b Ln xs V) {Rel : Nat → Wd → Wd → Prop} (hst : St_learns Rel) {n j : Nat} (hR : Rel n x y) (hn : n < 512) (hj : 6 * j + 6 ≤ Ln) (hLn : Ln ≤ 3072) (hnext : ∀ x' y', Rel (n + 1) x' y' → V x' y' 1358 [(0, .ref b), (1, .ref (G.2 0)), (2, .ref (G.2 100)), (3, .int (nI (6 * j)))] []) : V x y 795 [(0, .ref b), (1, .ref (G.2 0)), (2, .ref (G.2 100)), (3, .int (nI (6 * j)))] [] := by
  obtain ⟨r, x', y', e1, e2, hR2⟩ := hst n x y (xs (6 * j + 1)) (xs (6 * j + 2)) hn hR
  refine l_aload_n (pc := 795) C dL_law_795 rfl 1 rfl ?_
  refine l_aload_n (pc := 796) C dL_law_796 rfl 0 rfl ?_
  refine l_iload_n (pc := 797) C dL_law_797 rfl 3 rfl ?_
  refine l_iconst (v := (1:Int32)) (pc := 798) C dL_law_798 (by decide) ?_
  refine l_iadd (pc := 799) C dL_law_799 ?_
  refine l_sld (pc := 800) C (6 * j + 1) (nI_pl (6 * j) 1) (by omega) hLn dL_law_800 ?_
  refine l_aload_n (pc := 801) C dL_law_801 rfl 0 rfl ?_
  refine l_iload_n (pc := 802) C dL_law_802 rfl 3 rfl ?_
  refine l_iconst (v := (2:Int32)) (pc := 803) C dL_law_803 (by decide) ?_
  refine l_iadd (pc := 804) C dL_law_804 ?_
  refine l_sld (pc := 805) C (6 * j + 2) (nI_pl (6 * j) 2) (by omega) hLn dL_law_805 ?_
  refine l_callX (As := [.int (xs (6 * j + 1)), .int (xs (6 * j + 2))]) (rest := []) (pc := 806) C dL_law_806 ql_L_97 qi_X8_learns qs_X8_learns qn_X8 qc_X8_learns ⟨rfl, by decide +kernel, by decide +kernel, (by decide +kernel : (parseMethodDescriptor yX8_learns.desc).map (fun d => d.parameters.length) = some 2)⟩ ⟨by decide, by decide⟩ (fun l => c_X8_learns e1 l) rfl (Nat.le_of_ble_eq_true rfl) ?_
  refine l_aload_n (pc := 809) C dL_law_809 rfl 2 rfl ?_
  refine l_aload_n (pc := 810) C dL_law_810 rfl 0 rfl ?_
  refine l_iload_n (pc := 811) C dL_law_811 rfl 3 rfl ?_
  refine l_iconst (v := (1:Int32)) (pc := 812) C dL_law_812 (by decide) ?_
  refine l_iadd (pc := 813) C dL_law_813 ?_
  refine l_sld (pc := 814) C (6 * j + 1) (nI_pl (6 * j) 1) (by omega) hLn dL_law_814 ?_
  refine l_aload_n (pc := 815) C dL_law_815 rfl 0 rfl ?_
  refine l_iload_n (pc := 816) C dL_law_816 rfl 3 rfl ?_
  refine l_iconst (v := (2:Int32)) (pc := 817) C dL_law_817 (by decide) ?_
  refine l_iadd (pc := 818) C dL_law_818 ?_
  refine l_sld (pc := 819) C (6 * j + 2) (nI_pl (6 * j) 2) (by omega) hLn dL_law_819 ?_
  refine l_callM (As := [.int (xs (6 * j + 1)), .int (xs (6 * j + 2))]) (rest := [.int r]) (pc := 820) C dL_law_820 ql_L_100 qi_X9_learns qs_X9_learns qn_X9 qc_X9_learns ⟨rfl, by decide +kernel, by decide +kernel, (by decide +kernel : (parseMethodDescriptor yX9_learns.desc).map (fun d => d.parameters.length) = some 2)⟩ ⟨by decide, by decide⟩ (fun l => c_X9_learns e2 l) rfl (Nat.le_of_ble_eq_true rfl) ?_
  refine l_eq (pc := 823) C 1358 dL_law_823 (by decide) rfl ?_
  exact hnext _ _ hR2
def St_blocked (Rel : Nat → Wd → Wd → Prop) : Prop := ∀ (n : Nat) (x y : Wd), n < 512 → Rel n x y → ∃ (r : Int32), f_X8_blocked x = some r ∧ f_X9_blocked y = some r ∧ Rel (n + 1) x y
set_option maxRecDepth 20000 in
theorem lc_blocked (C : LX G b Ln xs V) {Rel : Nat → Wd → Wd → Prop} (hst : St_blocked Rel) {n j : Nat} (hR : Rel n x y) (hn : n < 512) (hj : 6 * j + 6 ≤ Ln) (hLn : Ln ≤ 3072) (hnext : ∀ x' y', Rel (n + 1) x' y' → V x' y' 1358 [(0, .ref b), (1, .ref (G.2 0)), (2, .ref (G.2 100)), (3, .int (nI (6 * j)))] []) : V x y 828 [(0, .ref b), (1, .ref (G.2 0)), (2, .ref (G.2 100)), (3, .int (nI (6 * j)))] [] := by
  obtain ⟨r, e1, e2, hR2⟩ := hst n x y hn hR
  refine l_aload_n (pc := 828) C dL_law_828 rfl 1 rfl ?_
  refine l_callX (As := []) (rest := []) (pc := 829) C dL_law_829 ql_L_101 qi_X8_blocked qs_X8_blocked qn_X8 qc_X8_blocked ⟨rfl, by decide +kernel, by decide +kernel, (by decide +kernel : (parseMethodDescriptor yX8_blocked.desc).map (fun d => d.parameters.length) = some 0)⟩ ⟨by decide, by decide⟩ (fun l => c_X8_blocked e1 l) rfl (Nat.le_of_ble_eq_true rfl) ?_
  refine l_aload_n (pc := 832) C dL_law_832 rfl 2 rfl ?_
  refine l_callM (As := []) (rest := [.int r]) (pc := 833) C dL_law_833 ql_L_104 qi_X9_blocked qs_X9_blocked qn_X9 qc_X9_blocked ⟨rfl, by decide +kernel, by decide +kernel, (by decide +kernel : (parseMethodDescriptor yX9_blocked.desc).map (fun d => d.parameters.length) = some 0)⟩ ⟨by decide, by decide⟩ (fun l => c_X9_blocked e2 l) rfl (Nat.le_of_ble_eq_true rfl) ?_
  refine l_eq (pc := 836) C 1358 dL_law_836 (by decide) rfl ?_
  exact hnext _ _ hR2
def St_idle (Rel : Nat → Wd → Wd → Prop) : Prop := ∀ (n : Nat) (x y : Wd), n < 512 → Rel n x y → ∃ (r : Int32) (x' : Wd) (y' : Wd), f_X8_idle x = some (r, x') ∧ f_X9_idle y = some (r, y') ∧ Rel (n + 1) x' y'
set_option maxRecDepth 20000 in
theorem lc_idle (C : LX G b Ln xs V) {Rel : Nat → Wd → Wd → Prop} (hst : St_idle Rel) {n j : Nat} (hR : Rel n x y) (hn : n < 512) (hj : 6 * j + 6 ≤ Ln) (hLn : Ln ≤ 3072) (hnext : ∀ x' y', Rel (n + 1) x' y' → V x' y' 1358 [(0, .ref b), (1, .ref (G.2 0)), (2, .ref (G.2 100)), (3, .int (nI (6 * j)))] []) : V x y 841 [(0, .ref b), (1, .ref (G.2 0)), (2, .ref (G.2 100)), (3, .int (nI (6 * j)))] [] := by
  obtain ⟨r, x', y', e1, e2, hR2⟩ := hst n x y hn hR
  refine l_aload_n (pc := 841) C dL_law_841 rfl 1 rfl ?_
  refine l_callX (As := []) (rest := []) (pc := 842) C dL_law_842 ql_L_105 qi_X8_idle qs_X8_idle qn_X8 qc_X8_idle ⟨rfl, by decide +kernel, by decide +kernel, (by decide +kernel : (parseMethodDescriptor yX8_idle.desc).map (fun d => d.parameters.length) = some 0)⟩ ⟨by decide, by decide⟩ (fun l => c_X8_idle e1 l) rfl (Nat.le_of_ble_eq_true rfl) ?_
  refine l_aload_n (pc := 845) C dL_law_845 rfl 2 rfl ?_
  refine l_callM (As := []) (rest := [.int r]) (pc := 846) C dL_law_846 ql_L_108 qi_X9_idle qs_X9_idle qn_X9 qc_X9_idle ⟨rfl, by decide +kernel, by decide +kernel, (by decide +kernel : (parseMethodDescriptor yX9_idle.desc).map (fun d => d.parameters.length) = some 0)⟩ ⟨by decide, by decide⟩ (fun l => c_X9_idle e2 l) rfl (Nat.le_of_ble_eq_true rfl) ?_
  refine l_eq (pc := 849) C 1358 dL_law_849 (by decide) rfl ?_
  exact hnext _ _ hR2
def St_changes (Rel : Nat → Wd → Wd → Prop) : Prop := ∀ (n : Nat) (x y : Wd) (p1 : Int32) (p2 : Int32), n < 512 → Rel n x y → ∃ (r : Int32) (x' : Wd) (y' : Wd), f_X8_changes p1 p2 x = some (r, x') ∧ f_X9_changes p1 p2 y = some (r, y') ∧ Rel (n + 1) x' y'
set_option maxRecDepth 20000 in
theorem lc_changes (C : LX G b Ln xs V) {Rel : Nat → Wd → Wd → Prop} (hst : St_changes Rel) {n j : Nat} (hR : Rel n x y) (hn : n < 512) (hj : 6 * j + 6 ≤ Ln) (hLn : Ln ≤ 3072) (hnext : ∀ x' y', Rel (n + 1) x' y' → V x' y' 1358 [(0, .ref b), (1, .ref (G.2 0)), (2, .ref (G.2 100)), (3, .int (nI (6 * j)))] []) : V x y 854 [(0, .ref b), (1, .ref (G.2 0)), (2, .ref (G.2 100)), (3, .int (nI (6 * j)))] [] := by
  obtain ⟨r, x', y', e1, e2, hR2⟩ := hst n x y (xs (6 * j + 1)) (xs (6 * j + 2)) hn hR
  refine l_aload_n (pc := 854) C dL_law_854 rfl 1 rfl ?_
  refine l_aload_n (pc := 855) C dL_law_855 rfl 0 rfl ?_
  refine l_iload_n (pc := 856) C dL_law_856 rfl 3 rfl ?_
  refine l_iconst (v := (1:Int32)) (pc := 857) C dL_law_857 (by decide) ?_
  refine l_iadd (pc := 858) C dL_law_858 ?_
  refine l_sld (pc := 859) C (6 * j + 1) (nI_pl (6 * j) 1) (by omega) hLn dL_law_859 ?_
  refine l_aload_n (pc := 860) C dL_law_860 rfl 0 rfl ?_
  refine l_iload_n (pc := 861) C dL_law_861 rfl 3 rfl ?_
  refine l_iconst (v := (2:Int32)) (pc := 862) C dL_law_862 (by decide) ?_
  refine l_iadd (pc := 863) C dL_law_863 ?_
  refine l_sld (pc := 864) C (6 * j + 2) (nI_pl (6 * j) 2) (by omega) hLn dL_law_864 ?_
  refine l_callX (As := [.int (xs (6 * j + 1)), .int (xs (6 * j + 2))]) (rest := []) (pc := 865) C dL_law_865 ql_L_109 qi_X8_changes qs_X8_changes qn_X8 qc_X8_changes ⟨rfl, by decide +kernel, by decide +kernel, (by decide +kernel : (parseMethodDescriptor yX8_changes.desc).map (fun d => d.parameters.length) = some 2)⟩ ⟨by decide, by decide⟩ (fun l => c_X8_changes e1 l) rfl (Nat.le_of_ble_eq_true rfl) ?_
  refine l_aload_n (pc := 868) C dL_law_868 rfl 2 rfl ?_
  refine l_aload_n (pc := 869) C dL_law_869 rfl 0 rfl ?_
  refine l_iload_n (pc := 870) C dL_law_870 rfl 3 rfl ?_
  refine l_iconst (v := (1:Int32)) (pc := 871) C dL_law_871 (by decide) ?_
  refine l_iadd (pc := 872) C dL_law_872 ?_
  refine l_sld (pc := 873) C (6 * j + 1) (nI_pl (6 * j) 1) (by omega) hLn dL_law_873 ?_
  refine l_aload_n (pc := 874) C dL_law_874 rfl 0 rfl ?_
  refine l_iload_n (pc := 875) C dL_law_875 rfl 3 rfl ?_
  refine l_iconst (v := (2:Int32)) (pc := 876) C dL_law_876 (by decide) ?_
  refine l_iadd (pc := 877) C dL_law_877 ?_
  refine l_sld (pc := 878) C (6 * j + 2) (nI_pl (6 * j) 2) (by omega) hLn dL_law_878 ?_
  refine l_callM (As := [.int (xs (6 * j + 1)), .int (xs (6 * j + 2))]) (rest := [.int r]) (pc := 879) C dL_law_879 ql_L_112 qi_X9_changes qs_X9_changes qn_X9 qc_X9_changes ⟨rfl, by decide +kernel, by decide +kernel, (by decide +kernel : (parseMethodDescriptor yX9_changes.desc).map (fun d => d.parameters.length) = some 2)⟩ ⟨by decide, by decide⟩ (fun l => c_X9_changes e2 l) rfl (Nat.le_of_ble_eq_true rfl) ?_
  refine l_eq (pc := 882) C 1358 dL_law_882 (by decide) rfl ?_
  exact hnext _ _ hR2
def St_tells (Rel : Nat → Wd → Wd → Prop) : Prop := ∀ (n : Nat) (x y : Wd) (p1 : Int32), n < 512 → Rel n x y → ∃ (r : Int32) (x' : Wd) (y' : Wd), f_X8_tells p1 x = some (r, x') ∧ f_X9_tells p1 y = some (r, y') ∧ Rel (n + 1) x' y'
set_option maxRecDepth 20000 in
theorem lc_tells (C : LX G b Ln xs V) {Rel : Nat → Wd → Wd → Prop} (hst : St_tells Rel) {n j : Nat} (hR : Rel n x y) (hn : n < 512) (hj : 6 * j + 6 ≤ Ln) (hLn : Ln ≤ 3072) (hnext : ∀ x' y', Rel (n + 1) x' y' → V x' y' 1358 [(0, .ref b), (1, .ref (G.2 0)), (2, .ref (G.2 100)), (3, .int (nI (6 * j)))] []) : V x y 887 [(0, .ref b), (1, .ref (G.2 0)), (2, .ref (G.2 100)), (3, .int (nI (6 * j)))] [] := by
  obtain ⟨r, x', y', e1, e2, hR2⟩ := hst n x y (xs (6 * j + 1)) hn hR
  refine l_aload_n (pc := 887) C dL_law_887 rfl 1 rfl ?_
  refine l_aload_n (pc := 888) C dL_law_888 rfl 0 rfl ?_
  refine l_iload_n (pc := 889) C dL_law_889 rfl 3 rfl ?_
  refine l_iconst (v := (1:Int32)) (pc := 890) C dL_law_890 (by decide) ?_
  refine l_iadd (pc := 891) C dL_law_891 ?_
  refine l_sld (pc := 892) C (6 * j + 1) (nI_pl (6 * j) 1) (by omega) hLn dL_law_892 ?_
  refine l_callX (As := [.int (xs (6 * j + 1))]) (rest := []) (pc := 893) C dL_law_893 ql_L_113 qi_X8_tells qs_X8_tells qn_X8 qc_X8_tells ⟨rfl, by decide +kernel, by decide +kernel, (by decide +kernel : (parseMethodDescriptor yX8_tells.desc).map (fun d => d.parameters.length) = some 1)⟩ ⟨by decide, by decide⟩ (fun l => c_X8_tells e1 l) rfl (Nat.le_of_ble_eq_true rfl) ?_
  refine l_aload_n (pc := 896) C dL_law_896 rfl 2 rfl ?_
  refine l_aload_n (pc := 897) C dL_law_897 rfl 0 rfl ?_
  refine l_iload_n (pc := 898) C dL_law_898 rfl 3 rfl ?_
  refine l_iconst (v := (1:Int32)) (pc := 899) C dL_law_899 (by decide) ?_
  refine l_iadd (pc := 900) C dL_law_900 ?_
  refine l_sld (pc := 901) C (6 * j + 1) (nI_pl (6 * j) 1) (by omega) hLn dL_law_901 ?_
  refine l_callM (As := [.int (xs (6 * j + 1))]) (rest := [.int r]) (pc := 902) C dL_law_902 ql_L_116 qi_X9_tells qs_X9_tells qn_X9 qc_X9_tells ⟨rfl, by decide +kernel, by decide +kernel, (by decide +kernel : (parseMethodDescriptor yX9_tells.desc).map (fun d => d.parameters.length) = some 1)⟩ ⟨by decide, by decide⟩ (fun l => c_X9_tells e2 l) rfl (Nat.le_of_ble_eq_true rfl) ?_
  refine l_eq (pc := 905) C 1358 dL_law_905 (by decide) rfl ?_
  exact hnext _ _ hR2
def St_fits (Rel : Nat → Wd → Wd → Prop) : Prop := ∀ (n : Nat) (x y : Wd) (p1 : Int32) (p2 : Int32), n < 512 → Rel n x y → ∃ (r : Int32) (x' : Wd) (y' : Wd), f_X8_fits p1 p2 x = some (r, x') ∧ f_X9_fits p1 p2 y = some (r, y') ∧ Rel (n + 1) x' y'
set_option maxRecDepth 20000 in
theorem lc_fits (C : LX G b Ln xs V) {Rel : Nat → Wd → Wd → Prop} (hst : St_fits Rel) {n j : Nat} (hR : Rel n x y) (hn : n < 512) (hj : 6 * j + 6 ≤ Ln) (hLn : Ln ≤ 3072) (hnext : ∀ x' y', Rel (n + 1) x' y' → V x' y' 1358 [(0, .ref b), (1, .ref (G.2 0)), (2, .ref (G.2 100)), (3, .int (nI (6 * j)))] []) : V x y 910 [(0, .ref b), (1, .ref (G.2 0)), (2, .ref (G.2 100)), (3, .int (nI (6 * j)))] [] := by
  obtain ⟨r, x', y', e1, e2, hR2⟩ := hst n x y (xs (6 * j + 1)) (xs (6 * j + 2)) hn hR
  refine l_aload_n (pc := 910) C dL_law_910 rfl 1 rfl ?_
  refine l_aload_n (pc := 911) C dL_law_911 rfl 0 rfl ?_
  refine l_iload_n (pc := 912) C dL_law_912 rfl 3 rfl ?_
  refine l_iconst (v := (1:Int32)) (pc := 913) C dL_law_913 (by decide) ?_
  refine l_iadd (pc := 914) C dL_law_914 ?_
  refine l_sld (pc := 915) C (6 * j + 1) (nI_pl (6 * j) 1) (by omega) hLn dL_law_915 ?_
  refine l_aload_n (pc := 916) C dL_law_916 rfl 0 rfl ?_
  refine l_iload_n (pc := 917) C dL_law_917 rfl 3 rfl ?_
  refine l_iconst (v := (2:Int32)) (pc := 918) C dL_law_918 (by decide) ?_
  refine l_iadd (pc := 919) C dL_law_919 ?_
  refine l_sld (pc := 920) C (6 * j + 2) (nI_pl (6 * j) 2) (by omega) hLn dL_law_920 ?_
  refine l_callX (As := [.int (xs (6 * j + 1)), .int (xs (6 * j + 2))]) (rest := []) (pc := 921) C dL_law_921 ql_L_117 qi_X8_fits qs_X8_fits qn_X8 qc_X8_fits ⟨rfl, by decide +kernel, by decide +kernel, (by decide +kernel : (parseMethodDescriptor yX8_fits.desc).map (fun d => d.parameters.length) = some 2)⟩ ⟨by decide, by decide⟩ (fun l => c_X8_fits e1 l) rfl (Nat.le_of_ble_eq_true rfl) ?_
  refine l_aload_n (pc := 924) C dL_law_924 rfl 2 rfl ?_
  refine l_aload_n (pc := 925) C dL_law_925 rfl 0 rfl ?_
  refine l_iload_n (pc := 926) C dL_law_926 rfl 3 rfl ?_
  refine l_iconst (v := (1:Int32)) (pc := 927) C dL_law_927 (by decide) ?_
  refine l_iadd (pc := 928) C dL_law_928 ?_
  refine l_sld (pc := 929) C (6 * j + 1) (nI_pl (6 * j) 1) (by omega) hLn dL_law_929 ?_
  refine l_aload_n (pc := 930) C dL_law_930 rfl 0 rfl ?_
  refine l_iload_n (pc := 931) C dL_law_931 rfl 3 rfl ?_
  refine l_iconst (v := (2:Int32)) (pc := 932) C dL_law_932 (by decide) ?_
  refine l_iadd (pc := 933) C dL_law_933 ?_
  refine l_sld (pc := 934) C (6 * j + 2) (nI_pl (6 * j) 2) (by omega) hLn dL_law_934 ?_
  refine l_callM (As := [.int (xs (6 * j + 1)), .int (xs (6 * j + 2))]) (rest := [.int r]) (pc := 935) C dL_law_935 ql_L_120 qi_X9_fits qs_X9_fits qn_X9 qc_X9_fits ⟨rfl, by decide +kernel, by decide +kernel, (by decide +kernel : (parseMethodDescriptor yX9_fits.desc).map (fun d => d.parameters.length) = some 2)⟩ ⟨by decide, by decide⟩ (fun l => c_X9_fits e2 l) rfl (Nat.le_of_ble_eq_true rfl) ?_
  refine l_eq (pc := 938) C 1358 dL_law_938 (by decide) rfl ?_
  exact hnext _ _ hR2
def St_spare (Rel : Nat → Wd → Wd → Prop) : Prop := ∀ (n : Nat) (x y : Wd) (p1 : Int32), n < 512 → Rel n x y → ∃ (r : Int32) (x' : Wd) (y' : Wd), f_X8_spare p1 x = some (r, x') ∧ f_X9_spare p1 y = some (r, y') ∧ Rel (n + 1) x' y'
set_option maxRecDepth 20000 in
theorem lc_spare (C : LX G b Ln xs V) {Rel : Nat → Wd → Wd → Prop} (hst : St_spare Rel) {n j : Nat} (hR : Rel n x y) (hn : n < 512) (hj : 6 * j + 6 ≤ Ln) (hLn : Ln ≤ 3072) (hnext : ∀ x' y', Rel (n + 1) x' y' → V x' y' 1358 [(0, .ref b), (1, .ref (G.2 0)), (2, .ref (G.2 100)), (3, .int (nI (6 * j)))] []) : V x y 943 [(0, .ref b), (1, .ref (G.2 0)), (2, .ref (G.2 100)), (3, .int (nI (6 * j)))] [] := by
  obtain ⟨r, x', y', e1, e2, hR2⟩ := hst n x y (xs (6 * j + 1)) hn hR
  refine l_aload_n (pc := 943) C dL_law_943 rfl 1 rfl ?_
  refine l_aload_n (pc := 944) C dL_law_944 rfl 0 rfl ?_
  refine l_iload_n (pc := 945) C dL_law_945 rfl 3 rfl ?_
  refine l_iconst (v := (1:Int32)) (pc := 946) C dL_law_946 (by decide) ?_
  refine l_iadd (pc := 947) C dL_law_947 ?_
  refine l_sld (pc := 948) C (6 * j + 1) (nI_pl (6 * j) 1) (by omega) hLn dL_law_948 ?_
  refine l_callX (As := [.int (xs (6 * j + 1))]) (rest := []) (pc := 949) C dL_law_949 ql_L_121 qi_X8_spare qs_X8_spare qn_X8 qc_X8_spare ⟨rfl, by decide +kernel, by decide +kernel, (by decide +kernel : (parseMethodDescriptor yX8_spare.desc).map (fun d => d.parameters.length) = some 1)⟩ ⟨by decide, by decide⟩ (fun l => c_X8_spare e1 l) rfl (Nat.le_of_ble_eq_true rfl) ?_
  refine l_aload_n (pc := 952) C dL_law_952 rfl 2 rfl ?_
  refine l_aload_n (pc := 953) C dL_law_953 rfl 0 rfl ?_
  refine l_iload_n (pc := 954) C dL_law_954 rfl 3 rfl ?_
  refine l_iconst (v := (1:Int32)) (pc := 955) C dL_law_955 (by decide) ?_
  refine l_iadd (pc := 956) C dL_law_956 ?_
  refine l_sld (pc := 957) C (6 * j + 1) (nI_pl (6 * j) 1) (by omega) hLn dL_law_957 ?_
  refine l_callM (As := [.int (xs (6 * j + 1))]) (rest := [.int r]) (pc := 958) C dL_law_958 ql_L_124 qi_X9_spare qs_X9_spare qn_X9 qc_X9_spare ⟨rfl, by decide +kernel, by decide +kernel, (by decide +kernel : (parseMethodDescriptor yX9_spare.desc).map (fun d => d.parameters.length) = some 1)⟩ ⟨by decide, by decide⟩ (fun l => c_X9_spare e2 l) rfl (Nat.le_of_ble_eq_true rfl) ?_
  refine l_eq (pc := 961) C 1358 dL_law_961 (by decide) rfl ?_
  exact hnext _ _ hR2
def St_seed (Rel : Nat → Wd → Wd → Prop) : Prop := ∀ (n : Nat) (x y : Wd) (p1 : Int32), n < 512 → Rel n x y → ∃ (r : Int32) (x' : Wd) (y' : Wd), f_X8_seed p1 x = some (r, x') ∧ f_X9_seed p1 y = some (r, y') ∧ Rel (n + 1) x' y'
set_option maxRecDepth 20000 in
theorem lc_seed (C : LX G b Ln xs V) {Rel : Nat → Wd → Wd → Prop} (hst : St_seed Rel) {n j : Nat} (hR : Rel n x y) (hn : n < 512) (hj : 6 * j + 6 ≤ Ln) (hLn : Ln ≤ 3072) (hnext : ∀ x' y', Rel (n + 1) x' y' → V x' y' 1358 [(0, .ref b), (1, .ref (G.2 0)), (2, .ref (G.2 100)), (3, .int (nI (6 * j)))] []) : V x y 966 [(0, .ref b), (1, .ref (G.2 0)), (2, .ref (G.2 100)), (3, .int (nI (6 * j)))] [] := by
  obtain ⟨r, x', y', e1, e2, hR2⟩ := hst n x y (xs (6 * j + 1)) hn hR
  refine l_aload_n (pc := 966) C dL_law_966 rfl 1 rfl ?_
  refine l_aload_n (pc := 967) C dL_law_967 rfl 0 rfl ?_
  refine l_iload_n (pc := 968) C dL_law_968 rfl 3 rfl ?_
  refine l_iconst (v := (1:Int32)) (pc := 969) C dL_law_969 (by decide) ?_
  refine l_iadd (pc := 970) C dL_law_970 ?_
  refine l_sld (pc := 971) C (6 * j + 1) (nI_pl (6 * j) 1) (by omega) hLn dL_law_971 ?_
  refine l_callX (As := [.int (xs (6 * j + 1))]) (rest := []) (pc := 972) C dL_law_972 ql_L_125 qi_X8_seed qs_X8_seed qn_X8 qc_X8_seed ⟨rfl, by decide +kernel, by decide +kernel, (by decide +kernel : (parseMethodDescriptor yX8_seed.desc).map (fun d => d.parameters.length) = some 1)⟩ ⟨by decide, by decide⟩ (fun l => c_X8_seed e1 l) rfl (Nat.le_of_ble_eq_true rfl) ?_
  refine l_aload_n (pc := 975) C dL_law_975 rfl 2 rfl ?_
  refine l_aload_n (pc := 976) C dL_law_976 rfl 0 rfl ?_
  refine l_iload_n (pc := 977) C dL_law_977 rfl 3 rfl ?_
  refine l_iconst (v := (1:Int32)) (pc := 978) C dL_law_978 (by decide) ?_
  refine l_iadd (pc := 979) C dL_law_979 ?_
  refine l_sld (pc := 980) C (6 * j + 1) (nI_pl (6 * j) 1) (by omega) hLn dL_law_980 ?_
  refine l_callM (As := [.int (xs (6 * j + 1))]) (rest := [.int r]) (pc := 981) C dL_law_981 ql_L_128 qi_X9_seed qs_X9_seed qn_X9 qc_X9_seed ⟨rfl, by decide +kernel, by decide +kernel, (by decide +kernel : (parseMethodDescriptor yX9_seed.desc).map (fun d => d.parameters.length) = some 1)⟩ ⟨by decide, by decide⟩ (fun l => c_X9_seed e2 l) rfl (Nat.le_of_ble_eq_true rfl) ?_
  refine l_eq (pc := 984) C 1358 dL_law_984 (by decide) rfl ?_
  exact hnext _ _ hR2
def St_voice (Rel : Nat → Wd → Wd → Prop) : Prop := ∀ (n : Nat) (x y : Wd) (p1 : Int32) (p2 : Int32) (p3 : Int32), n < 512 → Rel n x y → ∃ (r : Int32) (x' : Wd) (y' : Wd), f_X8_voice p1 p2 p3 x = some (r, x') ∧ f_X9_voice p1 p2 p3 y = some (r, y') ∧ Rel (n + 1) x' y'
set_option maxRecDepth 20000 in
theorem lc_voice (C : LX G b Ln xs V) {Rel : Nat → Wd → Wd → Prop} (hst : St_voice Rel) {n j : Nat} (hR : Rel n x y) (hn : n < 512) (hj : 6 * j + 6 ≤ Ln) (hLn : Ln ≤ 3072) (hnext : ∀ x' y', Rel (n + 1) x' y' → V x' y' 1358 [(0, .ref b), (1, .ref (G.2 0)), (2, .ref (G.2 100)), (3, .int (nI (6 * j)))] []) : V x y 989 [(0, .ref b), (1, .ref (G.2 0)), (2, .ref (G.2 100)), (3, .int (nI (6 * j)))] [] := by
  obtain ⟨r, x', y', e1, e2, hR2⟩ := hst n x y (xs (6 * j + 1)) (xs (6 * j + 2)) (xs (6 * j + 3)) hn hR
  refine l_aload_n (pc := 989) C dL_law_989 rfl 1 rfl ?_
  refine l_aload_n (pc := 990) C dL_law_990 rfl 0 rfl ?_
  refine l_iload_n (pc := 991) C dL_law_991 rfl 3 rfl ?_
  refine l_iconst (v := (1:Int32)) (pc := 992) C dL_law_992 (by decide) ?_
  refine l_iadd (pc := 993) C dL_law_993 ?_
  refine l_sld (pc := 994) C (6 * j + 1) (nI_pl (6 * j) 1) (by omega) hLn dL_law_994 ?_
  refine l_aload_n (pc := 995) C dL_law_995 rfl 0 rfl ?_
  refine l_iload_n (pc := 996) C dL_law_996 rfl 3 rfl ?_
  refine l_iconst (v := (2:Int32)) (pc := 997) C dL_law_997 (by decide) ?_
  refine l_iadd (pc := 998) C dL_law_998 ?_
  refine l_sld (pc := 999) C (6 * j + 2) (nI_pl (6 * j) 2) (by omega) hLn dL_law_999 ?_
  refine l_aload_n (pc := 1000) C dL_law_1000 rfl 0 rfl ?_
  refine l_iload_n (pc := 1001) C dL_law_1001 rfl 3 rfl ?_
  refine l_iconst (v := (3:Int32)) (pc := 1002) C dL_law_1002 (by decide) ?_
  refine l_iadd (pc := 1003) C dL_law_1003 ?_
  refine l_sld (pc := 1004) C (6 * j + 3) (nI_pl (6 * j) 3) (by omega) hLn dL_law_1004 ?_
  refine l_callX (As := [.int (xs (6 * j + 1)), .int (xs (6 * j + 2)), .int (xs (6 * j + 3))]) (rest := []) (pc := 1005) C dL_law_1005 ql_L_129 qi_X8_voice qs_X8_voice qn_X8 qc_X8_voice ⟨rfl, by decide +kernel, by decide +kernel, (by decide +kernel : (parseMethodDescriptor yX8_voice.desc).map (fun d => d.parameters.length) = some 3)⟩ ⟨by decide, by decide⟩ (fun l => c_X8_voice e1 l) rfl (Nat.le_of_ble_eq_true rfl) ?_
  refine l_aload_n (pc := 1008) C dL_law_1008 rfl 2 rfl ?_
  refine l_aload_n (pc := 1009) C dL_law_1009 rfl 0 rfl ?_
  refine l_iload_n (pc := 1010) C dL_law_1010 rfl 3 rfl ?_
  refine l_iconst (v := (1:Int32)) (pc := 1011) C dL_law_1011 (by decide) ?_
  refine l_iadd (pc := 1012) C dL_law_1012 ?_
  refine l_sld (pc := 1013) C (6 * j + 1) (nI_pl (6 * j) 1) (by omega) hLn dL_law_1013 ?_
  refine l_aload_n (pc := 1014) C dL_law_1014 rfl 0 rfl ?_
  refine l_iload_n (pc := 1015) C dL_law_1015 rfl 3 rfl ?_
  refine l_iconst (v := (2:Int32)) (pc := 1016) C dL_law_1016 (by decide) ?_
  refine l_iadd (pc := 1017) C dL_law_1017 ?_
  refine l_sld (pc := 1018) C (6 * j + 2) (nI_pl (6 * j) 2) (by omega) hLn dL_law_1018 ?_
  refine l_aload_n (pc := 1019) C dL_law_1019 rfl 0 rfl ?_
  refine l_iload_n (pc := 1020) C dL_law_1020 rfl 3 rfl ?_
  refine l_iconst (v := (3:Int32)) (pc := 1021) C dL_law_1021 (by decide) ?_
  refine l_iadd (pc := 1022) C dL_law_1022 ?_
  refine l_sld (pc := 1023) C (6 * j + 3) (nI_pl (6 * j) 3) (by omega) hLn dL_law_1023 ?_
  refine l_callM (As := [.int (xs (6 * j + 1)), .int (xs (6 * j + 2)), .int (xs (6 * j + 3))]) (rest := [.int r]) (pc := 1024) C dL_law_1024 ql_L_132 qi_X9_voice qs_X9_voice qn_X9 qc_X9_voice ⟨rfl, by decide +kernel, by decide +kernel, (by decide +kernel : (parseMethodDescriptor yX9_voice.desc).map (fun d => d.parameters.length) = some 3)⟩ ⟨by decide, by decide⟩ (fun l => c_X9_voice e2 l) rfl (Nat.le_of_ble_eq_true rfl) ?_
  refine l_eq (pc := 1027) C 1358 dL_law_1027 (by decide) rfl ?_
  exact hnext _ _ hR2
def St_trace (Rel : Nat → Wd → Wd → Prop) : Prop := ∀ (n : Nat) (x y : Wd) (p1 : Int32), n < 512 → Rel n x y → ∃ (r : Int32) (x' : Wd) (y' : Wd), f_X8_trace p1 x = some (r, x') ∧ f_X9_trace p1 y = some (r, y') ∧ Rel (n + 1) x' y'
set_option maxRecDepth 20000 in
theorem lc_trace (C : LX G b Ln xs V) {Rel : Nat → Wd → Wd → Prop} (hst : St_trace Rel) {n j : Nat} (hR : Rel n x y) (hn : n < 512) (hj : 6 * j + 6 ≤ Ln) (hLn : Ln ≤ 3072) (hnext : ∀ x' y', Rel (n + 1) x' y' → V x' y' 1358 [(0, .ref b), (1, .ref (G.2 0)), (2, .ref (G.2 100)), (3, .int (nI (6 * j)))] []) : V x y 1032 [(0, .ref b), (1, .ref (G.2 0)), (2, .ref (G.2 100)), (3, .int (nI (6 * j)))] [] := by
  obtain ⟨r, x', y', e1, e2, hR2⟩ := hst n x y (xs (6 * j + 1)) hn hR
  refine l_aload_n (pc := 1032) C dL_law_1032 rfl 1 rfl ?_
  refine l_aload_n (pc := 1033) C dL_law_1033 rfl 0 rfl ?_
  refine l_iload_n (pc := 1034) C dL_law_1034 rfl 3 rfl ?_
  refine l_iconst (v := (1:Int32)) (pc := 1035) C dL_law_1035 (by decide) ?_
  refine l_iadd (pc := 1036) C dL_law_1036 ?_
  refine l_sld (pc := 1037) C (6 * j + 1) (nI_pl (6 * j) 1) (by omega) hLn dL_law_1037 ?_
  refine l_callX (As := [.int (xs (6 * j + 1))]) (rest := []) (pc := 1038) C dL_law_1038 ql_L_133 qi_X8_trace qs_X8_trace qn_X8 qc_X8_trace ⟨rfl, by decide +kernel, by decide +kernel, (by decide +kernel : (parseMethodDescriptor yX8_trace.desc).map (fun d => d.parameters.length) = some 1)⟩ ⟨by decide, by decide⟩ (fun l => c_X8_trace e1 l) rfl (Nat.le_of_ble_eq_true rfl) ?_
  refine l_aload_n (pc := 1041) C dL_law_1041 rfl 2 rfl ?_
  refine l_aload_n (pc := 1042) C dL_law_1042 rfl 0 rfl ?_
  refine l_iload_n (pc := 1043) C dL_law_1043 rfl 3 rfl ?_
  refine l_iconst (v := (1:Int32)) (pc := 1044) C dL_law_1044 (by decide) ?_
  refine l_iadd (pc := 1045) C dL_law_1045 ?_
  refine l_sld (pc := 1046) C (6 * j + 1) (nI_pl (6 * j) 1) (by omega) hLn dL_law_1046 ?_
  refine l_callM (As := [.int (xs (6 * j + 1))]) (rest := [.int r]) (pc := 1047) C dL_law_1047 ql_L_136 qi_X9_trace qs_X9_trace qn_X9 qc_X9_trace ⟨rfl, by decide +kernel, by decide +kernel, (by decide +kernel : (parseMethodDescriptor yX9_trace.desc).map (fun d => d.parameters.length) = some 1)⟩ ⟨by decide, by decide⟩ (fun l => c_X9_trace e2 l) rfl (Nat.le_of_ble_eq_true rfl) ?_
  refine l_eq (pc := 1050) C 1358 dL_law_1050 (by decide) rfl ?_
  exact hnext _ _ hR2
def St_sheet (Rel : Nat → Wd → Wd → Prop) : Prop := ∀ (n : Nat) (x y : Wd) (p1 : Int32) (p2 : Int32) (p3 : Int32), n < 512 → Rel n x y → ∃ (r : Int32) (x' : Wd) (y' : Wd), f_X8_sheet p1 p2 p3 x = some (r, x') ∧ f_X9_sheet p1 p2 p3 y = some (r, y') ∧ Rel (n + 1) x' y'
set_option maxRecDepth 20000 in
theorem lc_sheet (C : LX G b Ln xs V) {Rel : Nat → Wd → Wd → Prop} (hst : St_sheet Rel) {n j : Nat} (hR : Rel n x y) (hn : n < 512) (hj : 6 * j + 6 ≤ Ln) (hLn : Ln ≤ 3072) (hnext : ∀ x' y', Rel (n + 1) x' y' → V x' y' 1358 [(0, .ref b), (1, .ref (G.2 0)), (2, .ref (G.2 100)), (3, .int (nI (6 * j)))] []) : V x y 1055 [(0, .ref b), (1, .ref (G.2 0)), (2, .ref (G.2 100)), (3, .int (nI (6 * j)))] [] := by
  obtain ⟨r, x', y', e1, e2, hR2⟩ := hst n x y (xs (6 * j + 1)) (xs (6 * j + 2)) (xs (6 * j + 3)) hn hR
  refine l_aload_n (pc := 1055) C dL_law_1055 rfl 1 rfl ?_
  refine l_aload_n (pc := 1056) C dL_law_1056 rfl 0 rfl ?_
  refine l_iload_n (pc := 1057) C dL_law_1057 rfl 3 rfl ?_
  refine l_iconst (v := (1:Int32)) (pc := 1058) C dL_law_1058 (by decide) ?_
  refine l_iadd (pc := 1059) C dL_law_1059 ?_
  refine l_sld (pc := 1060) C (6 * j + 1) (nI_pl (6 * j) 1) (by omega) hLn dL_law_1060 ?_
  refine l_aload_n (pc := 1061) C dL_law_1061 rfl 0 rfl ?_
  refine l_iload_n (pc := 1062) C dL_law_1062 rfl 3 rfl ?_
  refine l_iconst (v := (2:Int32)) (pc := 1063) C dL_law_1063 (by decide) ?_
  refine l_iadd (pc := 1064) C dL_law_1064 ?_
  refine l_sld (pc := 1065) C (6 * j + 2) (nI_pl (6 * j) 2) (by omega) hLn dL_law_1065 ?_
  refine l_aload_n (pc := 1066) C dL_law_1066 rfl 0 rfl ?_
  refine l_iload_n (pc := 1067) C dL_law_1067 rfl 3 rfl ?_
  refine l_iconst (v := (3:Int32)) (pc := 1068) C dL_law_1068 (by decide) ?_
  refine l_iadd (pc := 1069) C dL_law_1069 ?_
  refine l_sld (pc := 1070) C (6 * j + 3) (nI_pl (6 * j) 3) (by omega) hLn dL_law_1070 ?_
  refine l_callX (As := [.int (xs (6 * j + 1)), .int (xs (6 * j + 2)), .int (xs (6 * j + 3))]) (rest := []) (pc := 1071) C dL_law_1071 ql_L_137 qi_X8_sheet qs_X8_sheet qn_X8 qc_X8_sheet ⟨rfl, by decide +kernel, by decide +kernel, (by decide +kernel : (parseMethodDescriptor yX8_sheet.desc).map (fun d => d.parameters.length) = some 3)⟩ ⟨by decide, by decide⟩ (fun l => c_X8_sheet e1 l) rfl (Nat.le_of_ble_eq_true rfl) ?_
  refine l_aload_n (pc := 1074) C dL_law_1074 rfl 2 rfl ?_
  refine l_aload_n (pc := 1075) C dL_law_1075 rfl 0 rfl ?_
  refine l_iload_n (pc := 1076) C dL_law_1076 rfl 3 rfl ?_
  refine l_iconst (v := (1:Int32)) (pc := 1077) C dL_law_1077 (by decide) ?_
  refine l_iadd (pc := 1078) C dL_law_1078 ?_
  refine l_sld (pc := 1079) C (6 * j + 1) (nI_pl (6 * j) 1) (by omega) hLn dL_law_1079 ?_
  refine l_aload_n (pc := 1080) C dL_law_1080 rfl 0 rfl ?_
  refine l_iload_n (pc := 1081) C dL_law_1081 rfl 3 rfl ?_
  refine l_iconst (v := (2:Int32)) (pc := 1082) C dL_law_1082 (by decide) ?_
  refine l_iadd (pc := 1083) C dL_law_1083 ?_
  refine l_sld (pc := 1084) C (6 * j + 2) (nI_pl (6 * j) 2) (by omega) hLn dL_law_1084 ?_
  refine l_aload_n (pc := 1085) C dL_law_1085 rfl 0 rfl ?_
  refine l_iload_n (pc := 1086) C dL_law_1086 rfl 3 rfl ?_
  refine l_iconst (v := (3:Int32)) (pc := 1087) C dL_law_1087 (by decide) ?_
  refine l_iadd (pc := 1088) C dL_law_1088 ?_
  refine l_sld (pc := 1089) C (6 * j + 3) (nI_pl (6 * j) 3) (by omega) hLn dL_law_1089 ?_
  refine l_callM (As := [.int (xs (6 * j + 1)), .int (xs (6 * j + 2)), .int (xs (6 * j + 3))]) (rest := [.int r]) (pc := 1090) C dL_law_1090 ql_L_140 qi_X9_sheet qs_X9_sheet qn_X9 qc_X9_sheet ⟨rfl, by decide +kernel, by decide +kernel, (by decide +kernel : (parseMethodDescriptor yX9_sheet.desc).map (fun d => d.parameters.length) = some 3)⟩ ⟨by decide, by decide⟩ (fun l => c_X9_sheet e2 l) rfl (Nat.le_of_ble_eq_true rfl) ?_
  refine l_eq (pc := 1093) C 1358 dL_law_1093 (by decide) rfl ?_
  exact hnext _ _ hR2
def St_put (Rel : Nat → Wd → Wd → Prop) : Prop := ∀ (n : Nat) (x y : Wd) (p1 : Int32) (p2 : Int32) (p3 : Int32), n < 512 → Rel n x y → ∃ (r : Int32) (x' : Wd) (y' : Wd), f_X8_put p1 p2 p3 x = some (r, x') ∧ f_X9_put p1 p2 p3 y = some (r, y') ∧ Rel (n + 1) x' y'
set_option maxRecDepth 20000 in
theorem lc_put (C : LX G b Ln xs V) {Rel : Nat → Wd → Wd → Prop} (hst : St_put Rel) {n j : Nat} (hR : Rel n x y) (hn : n < 512) (hj : 6 * j + 6 ≤ Ln) (hLn : Ln ≤ 3072) (hnext : ∀ x' y', Rel (n + 1) x' y' → V x' y' 1358 [(0, .ref b), (1, .ref (G.2 0)), (2, .ref (G.2 100)), (3, .int (nI (6 * j)))] []) : V x y 1098 [(0, .ref b), (1, .ref (G.2 0)), (2, .ref (G.2 100)), (3, .int (nI (6 * j)))] [] := by
  obtain ⟨r, x', y', e1, e2, hR2⟩ := hst n x y (xs (6 * j + 1)) (xs (6 * j + 2)) (xs (6 * j + 3)) hn hR
  refine l_aload_n (pc := 1098) C dL_law_1098 rfl 1 rfl ?_
  refine l_aload_n (pc := 1099) C dL_law_1099 rfl 0 rfl ?_
  refine l_iload_n (pc := 1100) C dL_law_1100 rfl 3 rfl ?_
  refine l_iconst (v := (1:Int32)) (pc := 1101) C dL_law_1101 (by decide) ?_
  refine l_iadd (pc := 1102) C dL_law_1102 ?_
  refine l_sld (pc := 1103) C (6 * j + 1) (nI_pl (6 * j) 1) (by omega) hLn dL_law_1103 ?_
  refine l_aload_n (pc := 1104) C dL_law_1104 rfl 0 rfl ?_
  refine l_iload_n (pc := 1105) C dL_law_1105 rfl 3 rfl ?_
  refine l_iconst (v := (2:Int32)) (pc := 1106) C dL_law_1106 (by decide) ?_
  refine l_iadd (pc := 1107) C dL_law_1107 ?_
  refine l_sld (pc := 1108) C (6 * j + 2) (nI_pl (6 * j) 2) (by omega) hLn dL_law_1108 ?_
  refine l_aload_n (pc := 1109) C dL_law_1109 rfl 0 rfl ?_
  refine l_iload_n (pc := 1110) C dL_law_1110 rfl 3 rfl ?_
  refine l_iconst (v := (3:Int32)) (pc := 1111) C dL_law_1111 (by decide) ?_
  refine l_iadd (pc := 1112) C dL_law_1112 ?_
  refine l_sld (pc := 1113) C (6 * j + 3) (nI_pl (6 * j) 3) (by omega) hLn dL_law_1113 ?_
  refine l_callX (As := [.int (xs (6 * j + 1)), .int (xs (6 * j + 2)), .int (xs (6 * j + 3))]) (rest := []) (pc := 1114) C dL_law_1114 ql_L_141 qi_X8_put qs_X8_put qn_X8 qc_X8_put ⟨rfl, by decide +kernel, by decide +kernel, (by decide +kernel : (parseMethodDescriptor yX8_put.desc).map (fun d => d.parameters.length) = some 3)⟩ ⟨by decide, by decide⟩ (fun l => c_X8_put e1 l) rfl (Nat.le_of_ble_eq_true rfl) ?_
  refine l_aload_n (pc := 1117) C dL_law_1117 rfl 2 rfl ?_
  refine l_aload_n (pc := 1118) C dL_law_1118 rfl 0 rfl ?_
  refine l_iload_n (pc := 1119) C dL_law_1119 rfl 3 rfl ?_
  refine l_iconst (v := (1:Int32)) (pc := 1120) C dL_law_1120 (by decide) ?_
  refine l_iadd (pc := 1121) C dL_law_1121 ?_
  refine l_sld (pc := 1122) C (6 * j + 1) (nI_pl (6 * j) 1) (by omega) hLn dL_law_1122 ?_
  refine l_aload_n (pc := 1123) C dL_law_1123 rfl 0 rfl ?_
  refine l_iload_n (pc := 1124) C dL_law_1124 rfl 3 rfl ?_
  refine l_iconst (v := (2:Int32)) (pc := 1125) C dL_law_1125 (by decide) ?_
  refine l_iadd (pc := 1126) C dL_law_1126 ?_
  refine l_sld (pc := 1127) C (6 * j + 2) (nI_pl (6 * j) 2) (by omega) hLn dL_law_1127 ?_
  refine l_aload_n (pc := 1128) C dL_law_1128 rfl 0 rfl ?_
  refine l_iload_n (pc := 1129) C dL_law_1129 rfl 3 rfl ?_
  refine l_iconst (v := (3:Int32)) (pc := 1130) C dL_law_1130 (by decide) ?_
  refine l_iadd (pc := 1131) C dL_law_1131 ?_
  refine l_sld (pc := 1132) C (6 * j + 3) (nI_pl (6 * j) 3) (by omega) hLn dL_law_1132 ?_
  refine l_callM (As := [.int (xs (6 * j + 1)), .int (xs (6 * j + 2)), .int (xs (6 * j + 3))]) (rest := [.int r]) (pc := 1133) C dL_law_1133 ql_L_144 qi_X9_put qs_X9_put qn_X9 qc_X9_put ⟨rfl, by decide +kernel, by decide +kernel, (by decide +kernel : (parseMethodDescriptor yX9_put.desc).map (fun d => d.parameters.length) = some 3)⟩ ⟨by decide, by decide⟩ (fun l => c_X9_put e2 l) rfl (Nat.le_of_ble_eq_true rfl) ?_
  refine l_eq (pc := 1136) C 1358 dL_law_1136 (by decide) rfl ?_
  exact hnext _ _ hR2
def St_move (Rel : Nat → Wd → Wd → Prop) : Prop := ∀ (n : Nat) (x y : Wd) (p1 : Int32) (p2 : Int32) (p3 : Int32) (p4 : Int32) (p5 : Int32), n < 512 → Rel n x y → ∃ (r : Int32) (x' : Wd) (y' : Wd), f_X8_move p1 p2 p3 p4 p5 x = some (r, x') ∧ f_X9_move p1 p2 p3 p4 p5 y = some (r, y') ∧ Rel (n + 1) x' y'
set_option maxRecDepth 20000 in
theorem lc_move (C : LX G b Ln xs V) {Rel : Nat → Wd → Wd → Prop} (hst : St_move Rel) {n j : Nat} (hR : Rel n x y) (hn : n < 512) (hj : 6 * j + 6 ≤ Ln) (hLn : Ln ≤ 3072) (hnext : ∀ x' y', Rel (n + 1) x' y' → V x' y' 1358 [(0, .ref b), (1, .ref (G.2 0)), (2, .ref (G.2 100)), (3, .int (nI (6 * j)))] []) : V x y 1141 [(0, .ref b), (1, .ref (G.2 0)), (2, .ref (G.2 100)), (3, .int (nI (6 * j)))] [] := by
  obtain ⟨r, x', y', e1, e2, hR2⟩ := hst n x y (xs (6 * j + 1)) (xs (6 * j + 2)) (xs (6 * j + 3)) (xs (6 * j + 4)) (xs (6 * j + 5)) hn hR
  refine l_aload_n (pc := 1141) C dL_law_1141 rfl 1 rfl ?_
  refine l_aload_n (pc := 1142) C dL_law_1142 rfl 0 rfl ?_
  refine l_iload_n (pc := 1143) C dL_law_1143 rfl 3 rfl ?_
  refine l_iconst (v := (1:Int32)) (pc := 1144) C dL_law_1144 (by decide) ?_
  refine l_iadd (pc := 1145) C dL_law_1145 ?_
  refine l_sld (pc := 1146) C (6 * j + 1) (nI_pl (6 * j) 1) (by omega) hLn dL_law_1146 ?_
  refine l_aload_n (pc := 1147) C dL_law_1147 rfl 0 rfl ?_
  refine l_iload_n (pc := 1148) C dL_law_1148 rfl 3 rfl ?_
  refine l_iconst (v := (2:Int32)) (pc := 1149) C dL_law_1149 (by decide) ?_
  refine l_iadd (pc := 1150) C dL_law_1150 ?_
  refine l_sld (pc := 1151) C (6 * j + 2) (nI_pl (6 * j) 2) (by omega) hLn dL_law_1151 ?_
  refine l_aload_n (pc := 1152) C dL_law_1152 rfl 0 rfl ?_
  refine l_iload_n (pc := 1153) C dL_law_1153 rfl 3 rfl ?_
  refine l_iconst (v := (3:Int32)) (pc := 1154) C dL_law_1154 (by decide) ?_
  refine l_iadd (pc := 1155) C dL_law_1155 ?_
  refine l_sld (pc := 1156) C (6 * j + 3) (nI_pl (6 * j) 3) (by omega) hLn dL_law_1156 ?_
  refine l_aload_n (pc := 1157) C dL_law_1157 rfl 0 rfl ?_
  refine l_iload_n (pc := 1158) C dL_law_1158 rfl 3 rfl ?_
  refine l_iconst (v := (4:Int32)) (pc := 1159) C dL_law_1159 (by decide) ?_
  refine l_iadd (pc := 1160) C dL_law_1160 ?_
  refine l_sld (pc := 1161) C (6 * j + 4) (nI_pl (6 * j) 4) (by omega) hLn dL_law_1161 ?_
  refine l_aload_n (pc := 1162) C dL_law_1162 rfl 0 rfl ?_
  refine l_iload_n (pc := 1163) C dL_law_1163 rfl 3 rfl ?_
  refine l_iconst (v := (5:Int32)) (pc := 1164) C dL_law_1164 (by decide) ?_
  refine l_iadd (pc := 1165) C dL_law_1165 ?_
  refine l_sld (pc := 1166) C (6 * j + 5) (nI_pl (6 * j) 5) (by omega) hLn dL_law_1166 ?_
  refine l_callX (As := [.int (xs (6 * j + 1)), .int (xs (6 * j + 2)), .int (xs (6 * j + 3)), .int (xs (6 * j + 4)), .int (xs (6 * j + 5))]) (rest := []) (pc := 1167) C dL_law_1167 ql_L_145 qi_X8_move qs_X8_move qn_X8 qc_X8_move ⟨rfl, by decide +kernel, by decide +kernel, (by decide +kernel : (parseMethodDescriptor yX8_move.desc).map (fun d => d.parameters.length) = some 5)⟩ ⟨by decide, by decide⟩ (fun l => c_X8_move e1 l) rfl (Nat.le_of_ble_eq_true rfl) ?_
  refine l_aload_n (pc := 1170) C dL_law_1170 rfl 2 rfl ?_
  refine l_aload_n (pc := 1171) C dL_law_1171 rfl 0 rfl ?_
  refine l_iload_n (pc := 1172) C dL_law_1172 rfl 3 rfl ?_
  refine l_iconst (v := (1:Int32)) (pc := 1173) C dL_law_1173 (by decide) ?_
  refine l_iadd (pc := 1174) C dL_law_1174 ?_
  refine l_sld (pc := 1175) C (6 * j + 1) (nI_pl (6 * j) 1) (by omega) hLn dL_law_1175 ?_
  refine l_aload_n (pc := 1176) C dL_law_1176 rfl 0 rfl ?_
  refine l_iload_n (pc := 1177) C dL_law_1177 rfl 3 rfl ?_
  refine l_iconst (v := (2:Int32)) (pc := 1178) C dL_law_1178 (by decide) ?_
  refine l_iadd (pc := 1179) C dL_law_1179 ?_
  refine l_sld (pc := 1180) C (6 * j + 2) (nI_pl (6 * j) 2) (by omega) hLn dL_law_1180 ?_
  refine l_aload_n (pc := 1181) C dL_law_1181 rfl 0 rfl ?_
  refine l_iload_n (pc := 1182) C dL_law_1182 rfl 3 rfl ?_
  refine l_iconst (v := (3:Int32)) (pc := 1183) C dL_law_1183 (by decide) ?_
  refine l_iadd (pc := 1184) C dL_law_1184 ?_
  refine l_sld (pc := 1185) C (6 * j + 3) (nI_pl (6 * j) 3) (by omega) hLn dL_law_1185 ?_
  refine l_aload_n (pc := 1186) C dL_law_1186 rfl 0 rfl ?_
  refine l_iload_n (pc := 1187) C dL_law_1187 rfl 3 rfl ?_
  refine l_iconst (v := (4:Int32)) (pc := 1188) C dL_law_1188 (by decide) ?_
  refine l_iadd (pc := 1189) C dL_law_1189 ?_
  refine l_sld (pc := 1190) C (6 * j + 4) (nI_pl (6 * j) 4) (by omega) hLn dL_law_1190 ?_
  refine l_aload_n (pc := 1191) C dL_law_1191 rfl 0 rfl ?_
  refine l_iload_n (pc := 1192) C dL_law_1192 rfl 3 rfl ?_
  refine l_iconst (v := (5:Int32)) (pc := 1193) C dL_law_1193 (by decide) ?_
  refine l_iadd (pc := 1194) C dL_law_1194 ?_
  refine l_sld (pc := 1195) C (6 * j + 5) (nI_pl (6 * j) 5) (by omega) hLn dL_law_1195 ?_
  refine l_callM (As := [.int (xs (6 * j + 1)), .int (xs (6 * j + 2)), .int (xs (6 * j + 3)), .int (xs (6 * j + 4)), .int (xs (6 * j + 5))]) (rest := [.int r]) (pc := 1196) C dL_law_1196 ql_L_149 qi_X9_move qs_X9_move qn_X9 qc_X9_move ⟨rfl, by decide +kernel, by decide +kernel, (by decide +kernel : (parseMethodDescriptor yX9_move.desc).map (fun d => d.parameters.length) = some 5)⟩ ⟨by decide, by decide⟩ (fun l => c_X9_move e2 l) rfl (Nat.le_of_ble_eq_true rfl) ?_
  refine l_eq (pc := 1199) C 1358 dL_law_1199 (by decide) rfl ?_
  exact hnext _ _ hR2
def St_loads (Rel : Nat → Wd → Wd → Prop) : Prop := ∀ (n : Nat) (x y : Wd) (p1 : Int32), n < 512 → Rel n x y → ∃ (r : Int32) (x' : Wd) (y' : Wd), f_X8_loads p1 x = some (r, x') ∧ f_X9_loads p1 y = some (r, y') ∧ Rel (n + 1) x' y'
set_option maxRecDepth 20000 in
theorem lc_loads (C : LX G b Ln xs V) {Rel : Nat → Wd → Wd → Prop} (hst : St_loads Rel) {n j : Nat} (hR : Rel n x y) (hn : n < 512) (hj : 6 * j + 6 ≤ Ln) (hLn : Ln ≤ 3072) (hnext : ∀ x' y', Rel (n + 1) x' y' → V x' y' 1358 [(0, .ref b), (1, .ref (G.2 0)), (2, .ref (G.2 100)), (3, .int (nI (6 * j)))] []) : V x y 1204 [(0, .ref b), (1, .ref (G.2 0)), (2, .ref (G.2 100)), (3, .int (nI (6 * j)))] [] := by
  obtain ⟨r, x', y', e1, e2, hR2⟩ := hst n x y (xs (6 * j + 1)) hn hR
  refine l_aload_n (pc := 1204) C dL_law_1204 rfl 1 rfl ?_
  refine l_aload_n (pc := 1205) C dL_law_1205 rfl 0 rfl ?_
  refine l_iload_n (pc := 1206) C dL_law_1206 rfl 3 rfl ?_
  refine l_iconst (v := (1:Int32)) (pc := 1207) C dL_law_1207 (by decide) ?_
  refine l_iadd (pc := 1208) C dL_law_1208 ?_
  refine l_sld (pc := 1209) C (6 * j + 1) (nI_pl (6 * j) 1) (by omega) hLn dL_law_1209 ?_
  refine l_callX (As := [.int (xs (6 * j + 1))]) (rest := []) (pc := 1210) C dL_law_1210 ql_L_150 qi_X8_loads qs_X8_loads qn_X8 qc_X8_loads ⟨rfl, by decide +kernel, by decide +kernel, (by decide +kernel : (parseMethodDescriptor yX8_loads.desc).map (fun d => d.parameters.length) = some 1)⟩ ⟨by decide, by decide⟩ (fun l => c_X8_loads e1 l) rfl (Nat.le_of_ble_eq_true rfl) ?_
  refine l_aload_n (pc := 1213) C dL_law_1213 rfl 2 rfl ?_
  refine l_aload_n (pc := 1214) C dL_law_1214 rfl 0 rfl ?_
  refine l_iload_n (pc := 1215) C dL_law_1215 rfl 3 rfl ?_
  refine l_iconst (v := (1:Int32)) (pc := 1216) C dL_law_1216 (by decide) ?_
  refine l_iadd (pc := 1217) C dL_law_1217 ?_
  refine l_sld (pc := 1218) C (6 * j + 1) (nI_pl (6 * j) 1) (by omega) hLn dL_law_1218 ?_
  refine l_callM (As := [.int (xs (6 * j + 1))]) (rest := [.int r]) (pc := 1219) C dL_law_1219 ql_L_153 qi_X9_loads qs_X9_loads qn_X9 qc_X9_loads ⟨rfl, by decide +kernel, by decide +kernel, (by decide +kernel : (parseMethodDescriptor yX9_loads.desc).map (fun d => d.parameters.length) = some 1)⟩ ⟨by decide, by decide⟩ (fun l => c_X9_loads e2 l) rfl (Nat.le_of_ble_eq_true rfl) ?_
  refine l_eq (pc := 1222) C 1358 dL_law_1222 (by decide) rfl ?_
  exact hnext _ _ hR2
def St_judge (Rel : Nat → Wd → Wd → Prop) : Prop := ∀ (n : Nat) (x y : Wd) (p1 : Int32), n < 512 → Rel n x y → ∃ (r : Int32) (x' : Wd) (y' : Wd), f_X8_judge p1 x = some (r, x') ∧ f_X9_judge p1 y = some (r, y') ∧ Rel (n + 1) x' y'
set_option maxRecDepth 20000 in
theorem lc_judge (C : LX G b Ln xs V) {Rel : Nat → Wd → Wd → Prop} (hst : St_judge Rel) {n j : Nat} (hR : Rel n x y) (hn : n < 512) (hj : 6 * j + 6 ≤ Ln) (hLn : Ln ≤ 3072) (hnext : ∀ x' y', Rel (n + 1) x' y' → V x' y' 1358 [(0, .ref b), (1, .ref (G.2 0)), (2, .ref (G.2 100)), (3, .int (nI (6 * j)))] []) : V x y 1227 [(0, .ref b), (1, .ref (G.2 0)), (2, .ref (G.2 100)), (3, .int (nI (6 * j)))] [] := by
  obtain ⟨r, x', y', e1, e2, hR2⟩ := hst n x y (xs (6 * j + 1)) hn hR
  refine l_aload_n (pc := 1227) C dL_law_1227 rfl 1 rfl ?_
  refine l_aload_n (pc := 1228) C dL_law_1228 rfl 0 rfl ?_
  refine l_iload_n (pc := 1229) C dL_law_1229 rfl 3 rfl ?_
  refine l_iconst (v := (1:Int32)) (pc := 1230) C dL_law_1230 (by decide) ?_
  refine l_iadd (pc := 1231) C dL_law_1231 ?_
  refine l_sld (pc := 1232) C (6 * j + 1) (nI_pl (6 * j) 1) (by omega) hLn dL_law_1232 ?_
  refine l_callX (As := [.int (xs (6 * j + 1))]) (rest := []) (pc := 1233) C dL_law_1233 ql_L_154 qi_X8_judge qs_X8_judge qn_X8 qc_X8_judge ⟨rfl, by decide +kernel, by decide +kernel, (by decide +kernel : (parseMethodDescriptor yX8_judge.desc).map (fun d => d.parameters.length) = some 1)⟩ ⟨by decide, by decide⟩ (fun l => c_X8_judge e1 l) rfl (Nat.le_of_ble_eq_true rfl) ?_
  refine l_aload_n (pc := 1236) C dL_law_1236 rfl 2 rfl ?_
  refine l_aload_n (pc := 1237) C dL_law_1237 rfl 0 rfl ?_
  refine l_iload_n (pc := 1238) C dL_law_1238 rfl 3 rfl ?_
  refine l_iconst (v := (1:Int32)) (pc := 1239) C dL_law_1239 (by decide) ?_
  refine l_iadd (pc := 1240) C dL_law_1240 ?_
  refine l_sld (pc := 1241) C (6 * j + 1) (nI_pl (6 * j) 1) (by omega) hLn dL_law_1241 ?_
  refine l_callM (As := [.int (xs (6 * j + 1))]) (rest := [.int r]) (pc := 1242) C dL_law_1242 ql_L_157 qi_X9_judge qs_X9_judge qn_X9 qc_X9_judge ⟨rfl, by decide +kernel, by decide +kernel, (by decide +kernel : (parseMethodDescriptor yX9_judge.desc).map (fun d => d.parameters.length) = some 1)⟩ ⟨by decide, by decide⟩ (fun l => c_X9_judge e2 l) rfl (Nat.le_of_ble_eq_true rfl) ?_
  refine l_eq (pc := 1245) C 1358 dL_law_1245 (by decide) rfl ?_
  exact hnext _ _ hR2
def St_image (Rel : Nat → Wd → Wd → Prop) : Prop := ∀ (n : Nat) (x y : Wd), n < 512 → Rel n x y → ∃ (r : Int32) (x' : Wd) (y' : Wd), f_X8_image x = some (r, x') ∧ f_X9_image y = some (r, y') ∧ Rel (n + 1) x' y'
set_option maxRecDepth 20000 in
theorem lc_image (C : LX G b Ln xs V) {Rel : Nat → Wd → Wd → Prop} (hst : St_image Rel) {n j : Nat} (hR : Rel n x y) (hn : n < 512) (hj : 6 * j + 6 ≤ Ln) (hLn : Ln ≤ 3072) (hnext : ∀ x' y', Rel (n + 1) x' y' → V x' y' 1358 [(0, .ref b), (1, .ref (G.2 0)), (2, .ref (G.2 100)), (3, .int (nI (6 * j)))] []) : V x y 1250 [(0, .ref b), (1, .ref (G.2 0)), (2, .ref (G.2 100)), (3, .int (nI (6 * j)))] [] := by
  obtain ⟨r, x', y', e1, e2, hR2⟩ := hst n x y hn hR
  refine l_aload_n (pc := 1250) C dL_law_1250 rfl 1 rfl ?_
  refine l_callX (As := []) (rest := []) (pc := 1251) C dL_law_1251 ql_L_158 qi_X8_image qs_X8_image qn_X8 qc_X8_image ⟨rfl, by decide +kernel, by decide +kernel, (by decide +kernel : (parseMethodDescriptor yX8_image.desc).map (fun d => d.parameters.length) = some 0)⟩ ⟨by decide, by decide⟩ (fun l => c_X8_image e1 l) rfl (Nat.le_of_ble_eq_true rfl) ?_
  refine l_aload_n (pc := 1254) C dL_law_1254 rfl 2 rfl ?_
  refine l_callM (As := []) (rest := [.int r]) (pc := 1255) C dL_law_1255 ql_L_161 qi_X9_image qs_X9_image qn_X9 qc_X9_image ⟨rfl, by decide +kernel, by decide +kernel, (by decide +kernel : (parseMethodDescriptor yX9_image.desc).map (fun d => d.parameters.length) = some 0)⟩ ⟨by decide, by decide⟩ (fun l => c_X9_image e2 l) rfl (Nat.le_of_ble_eq_true rfl) ?_
  refine l_eq (pc := 1258) C 1358 dL_law_1258 (by decide) rfl ?_
  exact hnext _ _ hR2
def St_restore (Rel : Nat → Wd → Wd → Prop) : Prop := ∀ (n : Nat) (x y : Wd), n < 512 → Rel n x y → ∃ (r : Int32) (x' : Wd) (y' : Wd), f_X8_restore x = some (r, x') ∧ f_X9_restore y = some (r, y') ∧ Rel (n + 1) x' y'
set_option maxRecDepth 20000 in
theorem lc_restore (C : LX G b Ln xs V) {Rel : Nat → Wd → Wd → Prop} (hst : St_restore Rel) {n j : Nat} (hR : Rel n x y) (hn : n < 512) (hj : 6 * j + 6 ≤ Ln) (hLn : Ln ≤ 3072) (hnext : ∀ x' y', Rel (n + 1) x' y' → V x' y' 1358 [(0, .ref b), (1, .ref (G.2 0)), (2, .ref (G.2 100)), (3, .int (nI (6 * j)))] []) : V x y 1263 [(0, .ref b), (1, .ref (G.2 0)), (2, .ref (G.2 100)), (3, .int (nI (6 * j)))] [] := by
  obtain ⟨r, x', y', e1, e2, hR2⟩ := hst n x y hn hR
  refine l_aload_n (pc := 1263) C dL_law_1263 rfl 1 rfl ?_
  refine l_callX (As := []) (rest := []) (pc := 1264) C dL_law_1264 ql_L_162 qi_X8_restore qs_X8_restore qn_X8 qc_X8_restore ⟨rfl, by decide +kernel, by decide +kernel, (by decide +kernel : (parseMethodDescriptor yX8_restore.desc).map (fun d => d.parameters.length) = some 0)⟩ ⟨by decide, by decide⟩ (fun l => c_X8_restore e1 l) rfl (Nat.le_of_ble_eq_true rfl) ?_
  refine l_aload_n (pc := 1267) C dL_law_1267 rfl 2 rfl ?_
  refine l_callM (As := []) (rest := [.int r]) (pc := 1268) C dL_law_1268 ql_L_165 qi_X9_restore qs_X9_restore qn_X9 qc_X9_restore ⟨rfl, by decide +kernel, by decide +kernel, (by decide +kernel : (parseMethodDescriptor yX9_restore.desc).map (fun d => d.parameters.length) = some 0)⟩ ⟨by decide, by decide⟩ (fun l => c_X9_restore e2 l) rfl (Nat.le_of_ble_eq_true rfl) ?_
  refine l_eq (pc := 1271) C 1358 dL_law_1271 (by decide) rfl ?_
  exact hnext _ _ hR2
def St_tell (Rel : Nat → Wd → Wd → Prop) : Prop := ∀ (n : Nat) (x y : Wd) (p1 : Int32), n < 512 → Rel n x y → ∃ (r : Int32) (x' : Wd) (y' : Wd), f_X8_tell p1 x = some (r, x') ∧ f_X9_tell p1 y = some (r, y') ∧ Rel (n + 1) x' y'
set_option maxRecDepth 20000 in
theorem lc_tell (C : LX G b Ln xs V) {Rel : Nat → Wd → Wd → Prop} (hst : St_tell Rel) {n j : Nat} (hR : Rel n x y) (hn : n < 512) (hj : 6 * j + 6 ≤ Ln) (hLn : Ln ≤ 3072) (hnext : ∀ x' y', Rel (n + 1) x' y' → V x' y' 1358 [(0, .ref b), (1, .ref (G.2 0)), (2, .ref (G.2 100)), (3, .int (nI (6 * j)))] []) : V x y 1276 [(0, .ref b), (1, .ref (G.2 0)), (2, .ref (G.2 100)), (3, .int (nI (6 * j)))] [] := by
  obtain ⟨r, x', y', e1, e2, hR2⟩ := hst n x y (xs (6 * j + 1)) hn hR
  refine l_aload_n (pc := 1276) C dL_law_1276 rfl 1 rfl ?_
  refine l_aload_n (pc := 1277) C dL_law_1277 rfl 0 rfl ?_
  refine l_iload_n (pc := 1278) C dL_law_1278 rfl 3 rfl ?_
  refine l_iconst (v := (1:Int32)) (pc := 1279) C dL_law_1279 (by decide) ?_
  refine l_iadd (pc := 1280) C dL_law_1280 ?_
  refine l_sld (pc := 1281) C (6 * j + 1) (nI_pl (6 * j) 1) (by omega) hLn dL_law_1281 ?_
  refine l_callX (As := [.int (xs (6 * j + 1))]) (rest := []) (pc := 1282) C dL_law_1282 ql_L_166 qi_X8_tell qs_X8_tell qn_X8 qc_X8_tell ⟨rfl, by decide +kernel, by decide +kernel, (by decide +kernel : (parseMethodDescriptor yX8_tell.desc).map (fun d => d.parameters.length) = some 1)⟩ ⟨by decide, by decide⟩ (fun l => c_X8_tell e1 l) rfl (Nat.le_of_ble_eq_true rfl) ?_
  refine l_aload_n (pc := 1285) C dL_law_1285 rfl 2 rfl ?_
  refine l_aload_n (pc := 1286) C dL_law_1286 rfl 0 rfl ?_
  refine l_iload_n (pc := 1287) C dL_law_1287 rfl 3 rfl ?_
  refine l_iconst (v := (1:Int32)) (pc := 1288) C dL_law_1288 (by decide) ?_
  refine l_iadd (pc := 1289) C dL_law_1289 ?_
  refine l_sld (pc := 1290) C (6 * j + 1) (nI_pl (6 * j) 1) (by omega) hLn dL_law_1290 ?_
  refine l_callM (As := [.int (xs (6 * j + 1))]) (rest := [.int r]) (pc := 1291) C dL_law_1291 ql_L_169 qi_X9_tell qs_X9_tell qn_X9 qc_X9_tell ⟨rfl, by decide +kernel, by decide +kernel, (by decide +kernel : (parseMethodDescriptor yX9_tell.desc).map (fun d => d.parameters.length) = some 1)⟩ ⟨by decide, by decide⟩ (fun l => c_X9_tell e2 l) rfl (Nat.le_of_ble_eq_true rfl) ?_
  refine l_eq (pc := 1294) C 1358 dL_law_1294 (by decide) rfl ?_
  exact hnext _ _ hR2
def St_check (Rel : Nat → Wd → Wd → Prop) : Prop := ∀ (n : Nat) (x y : Wd), n < 512 → Rel n x y → ∃ (r : Int32) (x' : Wd) (y' : Wd), f_X8_check x = some (r, x') ∧ f_X9_check y = some (r, y') ∧ Rel (n + 1) x' y'
set_option maxRecDepth 20000 in
theorem lc_check (C : LX G b Ln xs V) {Rel : Nat → Wd → Wd → Prop} (hst : St_check Rel) {n j : Nat} (hR : Rel n x y) (hn : n < 512) (hj : 6 * j + 6 ≤ Ln) (hLn : Ln ≤ 3072) (hnext : ∀ x' y', Rel (n + 1) x' y' → V x' y' 1358 [(0, .ref b), (1, .ref (G.2 0)), (2, .ref (G.2 100)), (3, .int (nI (6 * j)))] []) : V x y 1299 [(0, .ref b), (1, .ref (G.2 0)), (2, .ref (G.2 100)), (3, .int (nI (6 * j)))] [] := by
  obtain ⟨r, x', y', e1, e2, hR2⟩ := hst n x y hn hR
  refine l_aload_n (pc := 1299) C dL_law_1299 rfl 1 rfl ?_
  refine l_callX (As := []) (rest := []) (pc := 1300) C dL_law_1300 ql_L_170 qi_X8_check qs_X8_check qn_X8 qc_X8_check ⟨rfl, by decide +kernel, by decide +kernel, (by decide +kernel : (parseMethodDescriptor yX8_check.desc).map (fun d => d.parameters.length) = some 0)⟩ ⟨by decide, by decide⟩ (fun l => c_X8_check e1 l) rfl (Nat.le_of_ble_eq_true rfl) ?_
  refine l_aload_n (pc := 1303) C dL_law_1303 rfl 2 rfl ?_
  refine l_callM (As := []) (rest := [.int r]) (pc := 1304) C dL_law_1304 ql_L_173 qi_X9_check qs_X9_check qn_X9 qc_X9_check ⟨rfl, by decide +kernel, by decide +kernel, (by decide +kernel : (parseMethodDescriptor yX9_check.desc).map (fun d => d.parameters.length) = some 0)⟩ ⟨by decide, by decide⟩ (fun l => c_X9_check e2 l) rfl (Nat.le_of_ble_eq_true rfl) ?_
  refine l_eq (pc := 1307) C 1358 dL_law_1307 (by decide) rfl ?_
  exact hnext _ _ hR2
def St_count (Rel : Nat → Wd → Wd → Prop) : Prop := ∀ (n : Nat) (x y : Wd) (p1 : Int32), n < 512 → Rel n x y → ∃ (r : Int32) (x' : Wd) (y' : Wd), f_X8_count p1 x = some (r, x') ∧ f_X9_count p1 y = some (r, y') ∧ Rel (n + 1) x' y'
set_option maxRecDepth 20000 in
theorem lc_count (C : LX G b Ln xs V) {Rel : Nat → Wd → Wd → Prop} (hst : St_count Rel) {n j : Nat} (hR : Rel n x y) (hn : n < 512) (hj : 6 * j + 6 ≤ Ln) (hLn : Ln ≤ 3072) (hnext : ∀ x' y', Rel (n + 1) x' y' → V x' y' 1358 [(0, .ref b), (1, .ref (G.2 0)), (2, .ref (G.2 100)), (3, .int (nI (6 * j)))] []) : V x y 1312 [(0, .ref b), (1, .ref (G.2 0)), (2, .ref (G.2 100)), (3, .int (nI (6 * j)))] [] := by
  obtain ⟨r, x', y', e1, e2, hR2⟩ := hst n x y (xs (6 * j + 1)) hn hR
  refine l_aload_n (pc := 1312) C dL_law_1312 rfl 1 rfl ?_
  refine l_aload_n (pc := 1313) C dL_law_1313 rfl 0 rfl ?_
  refine l_iload_n (pc := 1314) C dL_law_1314 rfl 3 rfl ?_
  refine l_iconst (v := (1:Int32)) (pc := 1315) C dL_law_1315 (by decide) ?_
  refine l_iadd (pc := 1316) C dL_law_1316 ?_
  refine l_sld (pc := 1317) C (6 * j + 1) (nI_pl (6 * j) 1) (by omega) hLn dL_law_1317 ?_
  refine l_callX (As := [.int (xs (6 * j + 1))]) (rest := []) (pc := 1318) C dL_law_1318 ql_L_174 qi_X8_count qs_X8_count qn_X8 qc_X8_count ⟨rfl, by decide +kernel, by decide +kernel, (by decide +kernel : (parseMethodDescriptor yX8_count.desc).map (fun d => d.parameters.length) = some 1)⟩ ⟨by decide, by decide⟩ (fun l => c_X8_count e1 l) rfl (Nat.le_of_ble_eq_true rfl) ?_
  refine l_aload_n (pc := 1321) C dL_law_1321 rfl 2 rfl ?_
  refine l_aload_n (pc := 1322) C dL_law_1322 rfl 0 rfl ?_
  refine l_iload_n (pc := 1323) C dL_law_1323 rfl 3 rfl ?_
  refine l_iconst (v := (1:Int32)) (pc := 1324) C dL_law_1324 (by decide) ?_
  refine l_iadd (pc := 1325) C dL_law_1325 ?_
  refine l_sld (pc := 1326) C (6 * j + 1) (nI_pl (6 * j) 1) (by omega) hLn dL_law_1326 ?_
  refine l_callM (As := [.int (xs (6 * j + 1))]) (rest := [.int r]) (pc := 1327) C dL_law_1327 ql_L_177 qi_X9_count qs_X9_count qn_X9 qc_X9_count ⟨rfl, by decide +kernel, by decide +kernel, (by decide +kernel : (parseMethodDescriptor yX9_count.desc).map (fun d => d.parameters.length) = some 1)⟩ ⟨by decide, by decide⟩ (fun l => c_X9_count e2 l) rfl (Nat.le_of_ble_eq_true rfl) ?_
  refine l_eq (pc := 1330) C 1358 dL_law_1330 (by decide) rfl ?_
  exact hnext _ _ hR2
def St_told (Rel : Nat → Wd → Wd → Prop) : Prop := ∀ (n : Nat) (x y : Wd) (p1 : Int32), n < 512 → Rel n x y → ∃ (r : Int32) (x' : Wd) (y' : Wd), f_X8_told p1 x = some (r, x') ∧ f_X9_told p1 y = some (r, y') ∧ Rel (n + 1) x' y'
set_option maxRecDepth 20000 in
theorem lc_told (C : LX G b Ln xs V) {Rel : Nat → Wd → Wd → Prop} (hst : St_told Rel) {n j : Nat} (hR : Rel n x y) (hn : n < 512) (hj : 6 * j + 6 ≤ Ln) (hLn : Ln ≤ 3072) (hnext : ∀ x' y', Rel (n + 1) x' y' → V x' y' 1358 [(0, .ref b), (1, .ref (G.2 0)), (2, .ref (G.2 100)), (3, .int (nI (6 * j)))] []) : V x y 1335 [(0, .ref b), (1, .ref (G.2 0)), (2, .ref (G.2 100)), (3, .int (nI (6 * j)))] [] := by
  obtain ⟨r, x', y', e1, e2, hR2⟩ := hst n x y (xs (6 * j + 1)) hn hR
  refine l_aload_n (pc := 1335) C dL_law_1335 rfl 1 rfl ?_
  refine l_aload_n (pc := 1336) C dL_law_1336 rfl 0 rfl ?_
  refine l_iload_n (pc := 1337) C dL_law_1337 rfl 3 rfl ?_
  refine l_iconst (v := (1:Int32)) (pc := 1338) C dL_law_1338 (by decide) ?_
  refine l_iadd (pc := 1339) C dL_law_1339 ?_
  refine l_sld (pc := 1340) C (6 * j + 1) (nI_pl (6 * j) 1) (by omega) hLn dL_law_1340 ?_
  refine l_callX (As := [.int (xs (6 * j + 1))]) (rest := []) (pc := 1341) C dL_law_1341 ql_L_178 qi_X8_told qs_X8_told qn_X8 qc_X8_told ⟨rfl, by decide +kernel, by decide +kernel, (by decide +kernel : (parseMethodDescriptor yX8_told.desc).map (fun d => d.parameters.length) = some 1)⟩ ⟨by decide, by decide⟩ (fun l => c_X8_told e1 l) rfl (Nat.le_of_ble_eq_true rfl) ?_
  refine l_aload_n (pc := 1344) C dL_law_1344 rfl 2 rfl ?_
  refine l_aload_n (pc := 1345) C dL_law_1345 rfl 0 rfl ?_
  refine l_iload_n (pc := 1346) C dL_law_1346 rfl 3 rfl ?_
  refine l_iconst (v := (1:Int32)) (pc := 1347) C dL_law_1347 (by decide) ?_
  refine l_iadd (pc := 1348) C dL_law_1348 ?_
  refine l_sld (pc := 1349) C (6 * j + 1) (nI_pl (6 * j) 1) (by omega) hLn dL_law_1349 ?_
  refine l_callM (As := [.int (xs (6 * j + 1))]) (rest := [.int r]) (pc := 1350) C dL_law_1350 ql_L_181 qi_X9_told qs_X9_told qn_X9 qc_X9_told ⟨rfl, by decide +kernel, by decide +kernel, (by decide +kernel : (parseMethodDescriptor yX9_told.desc).map (fun d => d.parameters.length) = some 1)⟩ ⟨by decide, by decide⟩ (fun l => c_X9_told e2 l) rfl (Nat.le_of_ble_eq_true rfl) ?_
  refine l_eq (pc := 1353) C 1358 dL_law_1353 (by decide) rfl ?_
  exact hnext _ _ hR2
theorem lw_gt {a Ln : Nat} (hL : Ln ≤ 3072) (ha : a ≤ 4000) (h : ¬ nI Ln - 6 < nI a) : a + 6 ≤ Ln := by
  have e1 : (nI Ln - 6).toInt = (Ln : Int) - 6 := by
    rw [Int32.toInt_sub, nI_toInt (by omega)]
    show Int.bmod ((Ln : Int) - 6) _ = _
    apply Int.bmod_eq_of_le <;> omega
  have e2 : (nI a).toInt = (a : Int) := nI_toInt (by omega)
  have e3 : ¬ (nI Ln - 6).toInt < (nI a).toInt := fun q => h (Int32.lt_iff_toInt_lt.mpr q)
  rw [e1, e2] at e3
  omega
set_option maxRecDepth 20000 in
set_option maxHeartbeats 4000000 in
theorem lc_switch (C : LX G b Ln xs V) {Rel : Nat → Wd → Wd → Prop} (hmono : ∀ n x y, Rel n x y → Rel (n + 1) x y) (h_part : St_part Rel) (h_ofPart : St_ofPart Rel) (h_lines : St_lines Rel) (h_become : St_become Rel) (h_as : St_as Rel) (h_player : St_player Rel) (h_ofPlayer : St_ofPlayer Rel) (h_change : St_change Rel) (h_gala : St_gala Rel) (h_feed : St_feed Rel) (h_text : St_text Rel) (h_law : St_law Rel) (h_cast : St_cast Rel) (h_nights : St_nights Rel) (h_loose : St_loose Rel) (h_first : St_first Rel) (h_castings : St_castings Rel) (h_season : St_season Rel) (h_then : St_then Rel) (h_learns : St_learns Rel) (h_blocked : St_blocked Rel) (h_idle : St_idle Rel) (h_changes : St_changes Rel) (h_tells : St_tells Rel) (h_fits : St_fits Rel) (h_spare : St_spare Rel) (h_seed : St_seed Rel) (h_voice : St_voice Rel) (h_trace : St_trace Rel) (h_sheet : St_sheet Rel) (h_put : St_put Rel) (h_move : St_move Rel) (h_loads : St_loads Rel) (h_judge : St_judge Rel) (h_image : St_image Rel) (h_restore : St_restore Rel) (h_tell : St_tell Rel) (h_check : St_check Rel) (h_count : St_count Rel) (h_told : St_told Rel) {n j : Nat} (hR : Rel n x y) (hn : n < 512) (hj : 6 * j + 6 ≤ Ln) (hLn : Ln ≤ 3072) (hnext : ∀ x' y', Rel (n + 1) x' y' → V x' y' 1358 [(0, .ref b), (1, .ref (G.2 0)), (2, .ref (G.2 100)), (3, .int (nI (6 * j)))] []) : V x y 33 [(0, .ref b), (1, .ref (G.2 0)), (2, .ref (G.2 100)), (3, .int (nI (6 * j)))] [.int (xs (6 * j) &&& (63:Int32))] := by
  by_cases q0 : xs (6 * j) &&& 63 = (0:Int32)
  · refine l_tsw (pc := 33) C (0:Int32) 208 dL_law_33 (by decide) (by decide) rfl (by decide) q0 ?_
    exact lc_part C h_part hR hn hj hLn hnext
  by_cases q1 : xs (6 * j) &&& 63 = (1:Int32)
  · refine l_tsw (pc := 33) C (1:Int32) 241 dL_law_33 (by decide) (by decide) rfl (by decide) q1 ?_
    exact lc_ofPart C h_ofPart hR hn hj hLn hnext
  by_cases q2 : xs (6 * j) &&& 63 = (2:Int32)
  · refine l_tsw (pc := 33) C (2:Int32) 274 dL_law_33 (by decide) (by decide) rfl (by decide) q2 ?_
    exact lc_lines C h_lines hR hn hj hLn hnext
  by_cases q3 : xs (6 * j) &&& 63 = (3:Int32)
  · refine l_tsw (pc := 33) C (3:Int32) 307 dL_law_33 (by decide) (by decide) rfl (by decide) q3 ?_
    exact lc_become C h_become hR hn hj hLn hnext
  by_cases q4 : xs (6 * j) &&& 63 = (4:Int32)
  · refine l_tsw (pc := 33) C (4:Int32) 340 dL_law_33 (by decide) (by decide) rfl (by decide) q4 ?_
    exact lc_as C h_as hR hn hj hLn hnext
  by_cases q5 : xs (6 * j) &&& 63 = (5:Int32)
  · refine l_tsw (pc := 33) C (5:Int32) 373 dL_law_33 (by decide) (by decide) rfl (by decide) q5 ?_
    exact lc_player C h_player hR hn hj hLn hnext
  by_cases q6 : xs (6 * j) &&& 63 = (6:Int32)
  · refine l_tsw (pc := 33) C (6:Int32) 396 dL_law_33 (by decide) (by decide) rfl (by decide) q6 ?_
    exact lc_ofPlayer C h_ofPlayer hR hn hj hLn hnext
  by_cases q7 : xs (6 * j) &&& 63 = (7:Int32)
  · refine l_tsw (pc := 33) C (7:Int32) 429 dL_law_33 (by decide) (by decide) rfl (by decide) q7 ?_
    exact lc_change C h_change hR hn hj hLn hnext
  by_cases q8 : xs (6 * j) &&& 63 = (8:Int32)
  · refine l_tsw (pc := 33) C (8:Int32) 472 dL_law_33 (by decide) (by decide) rfl (by decide) q8 ?_
    exact lc_gala C h_gala hR hn hj hLn hnext
  by_cases q9 : xs (6 * j) &&& 63 = (9:Int32)
  · refine l_tsw (pc := 33) C (9:Int32) 495 dL_law_33 (by decide) (by decide) rfl (by decide) q9 ?_
    exact lc_feed C h_feed hR hn hj hLn hnext
  by_cases q10 : xs (6 * j) &&& 63 = (10:Int32)
  · refine l_tsw (pc := 33) C (10:Int32) 558 dL_law_33 (by decide) (by decide) rfl (by decide) q10 ?_
    exact lc_text C h_text hR hn hj hLn hnext
  by_cases q11 : xs (6 * j) &&& 63 = (11:Int32)
  · refine l_tsw (pc := 33) C (11:Int32) 581 dL_law_33 (by decide) (by decide) rfl (by decide) q11 ?_
    exact lc_law C h_law hR hn hj hLn hnext
  by_cases q12 : xs (6 * j) &&& 63 = (12:Int32)
  · refine l_tsw (pc := 33) C (12:Int32) 634 dL_law_33 (by decide) (by decide) rfl (by decide) q12 ?_
    exact lc_cast C h_cast hR hn hj hLn hnext
  by_cases q13 : xs (6 * j) &&& 63 = (13:Int32)
  · refine l_tsw (pc := 33) C (13:Int32) 657 dL_law_33 (by decide) (by decide) rfl (by decide) q13 ?_
    exact lc_nights C h_nights hR hn hj hLn hnext
  by_cases q14 : xs (6 * j) &&& 63 = (14:Int32)
  · refine l_tsw (pc := 33) C (14:Int32) 680 dL_law_33 (by decide) (by decide) rfl (by decide) q14 ?_
    exact lc_loose C h_loose hR hn hj hLn hnext
  by_cases q15 : xs (6 * j) &&& 63 = (15:Int32)
  · refine l_tsw (pc := 33) C (15:Int32) 703 dL_law_33 (by decide) (by decide) rfl (by decide) q15 ?_
    exact lc_first C h_first hR hn hj hLn hnext
  by_cases q16 : xs (6 * j) &&& 63 = (16:Int32)
  · refine l_tsw (pc := 33) C (16:Int32) 726 dL_law_33 (by decide) (by decide) rfl (by decide) q16 ?_
    exact lc_castings C h_castings hR hn hj hLn hnext
  by_cases q17 : xs (6 * j) &&& 63 = (17:Int32)
  · refine l_tsw (pc := 33) C (17:Int32) 739 dL_law_33 (by decide) (by decide) rfl (by decide) q17 ?_
    exact lc_season C h_season hR hn hj hLn hnext
  by_cases q18 : xs (6 * j) &&& 63 = (18:Int32)
  · refine l_tsw (pc := 33) C (18:Int32) 752 dL_law_33 (by decide) (by decide) rfl (by decide) q18 ?_
    exact lc_then C h_then hR hn hj hLn hnext
  by_cases q19 : xs (6 * j) &&& 63 = (19:Int32)
  · refine l_tsw (pc := 33) C (19:Int32) 795 dL_law_33 (by decide) (by decide) rfl (by decide) q19 ?_
    exact lc_learns C h_learns hR hn hj hLn hnext
  by_cases q20 : xs (6 * j) &&& 63 = (20:Int32)
  · refine l_tsw (pc := 33) C (20:Int32) 828 dL_law_33 (by decide) (by decide) rfl (by decide) q20 ?_
    exact lc_blocked C h_blocked hR hn hj hLn hnext
  by_cases q21 : xs (6 * j) &&& 63 = (21:Int32)
  · refine l_tsw (pc := 33) C (21:Int32) 841 dL_law_33 (by decide) (by decide) rfl (by decide) q21 ?_
    exact lc_idle C h_idle hR hn hj hLn hnext
  by_cases q22 : xs (6 * j) &&& 63 = (22:Int32)
  · refine l_tsw (pc := 33) C (22:Int32) 854 dL_law_33 (by decide) (by decide) rfl (by decide) q22 ?_
    exact lc_changes C h_changes hR hn hj hLn hnext
  by_cases q23 : xs (6 * j) &&& 63 = (23:Int32)
  · refine l_tsw (pc := 33) C (23:Int32) 887 dL_law_33 (by decide) (by decide) rfl (by decide) q23 ?_
    exact lc_tells C h_tells hR hn hj hLn hnext
  by_cases q24 : xs (6 * j) &&& 63 = (24:Int32)
  · refine l_tsw (pc := 33) C (24:Int32) 910 dL_law_33 (by decide) (by decide) rfl (by decide) q24 ?_
    exact lc_fits C h_fits hR hn hj hLn hnext
  by_cases q25 : xs (6 * j) &&& 63 = (25:Int32)
  · refine l_tsw (pc := 33) C (25:Int32) 943 dL_law_33 (by decide) (by decide) rfl (by decide) q25 ?_
    exact lc_spare C h_spare hR hn hj hLn hnext
  by_cases q26 : xs (6 * j) &&& 63 = (26:Int32)
  · refine l_tsw (pc := 33) C (26:Int32) 966 dL_law_33 (by decide) (by decide) rfl (by decide) q26 ?_
    exact lc_seed C h_seed hR hn hj hLn hnext
  by_cases q27 : xs (6 * j) &&& 63 = (27:Int32)
  · refine l_tsw (pc := 33) C (27:Int32) 989 dL_law_33 (by decide) (by decide) rfl (by decide) q27 ?_
    exact lc_voice C h_voice hR hn hj hLn hnext
  by_cases q28 : xs (6 * j) &&& 63 = (28:Int32)
  · refine l_tsw (pc := 33) C (28:Int32) 1032 dL_law_33 (by decide) (by decide) rfl (by decide) q28 ?_
    exact lc_trace C h_trace hR hn hj hLn hnext
  by_cases q29 : xs (6 * j) &&& 63 = (29:Int32)
  · refine l_tsw (pc := 33) C (29:Int32) 1055 dL_law_33 (by decide) (by decide) rfl (by decide) q29 ?_
    exact lc_sheet C h_sheet hR hn hj hLn hnext
  by_cases q30 : xs (6 * j) &&& 63 = (30:Int32)
  · refine l_tsw (pc := 33) C (30:Int32) 1098 dL_law_33 (by decide) (by decide) rfl (by decide) q30 ?_
    exact lc_put C h_put hR hn hj hLn hnext
  by_cases q31 : xs (6 * j) &&& 63 = (31:Int32)
  · refine l_tsw (pc := 33) C (31:Int32) 1141 dL_law_33 (by decide) (by decide) rfl (by decide) q31 ?_
    exact lc_move C h_move hR hn hj hLn hnext
  by_cases q32 : xs (6 * j) &&& 63 = (32:Int32)
  · refine l_tsw (pc := 33) C (32:Int32) 1204 dL_law_33 (by decide) (by decide) rfl (by decide) q32 ?_
    exact lc_loads C h_loads hR hn hj hLn hnext
  by_cases q33 : xs (6 * j) &&& 63 = (33:Int32)
  · refine l_tsw (pc := 33) C (33:Int32) 1227 dL_law_33 (by decide) (by decide) rfl (by decide) q33 ?_
    exact lc_judge C h_judge hR hn hj hLn hnext
  by_cases q34 : xs (6 * j) &&& 63 = (34:Int32)
  · refine l_tsw (pc := 33) C (34:Int32) 1250 dL_law_33 (by decide) (by decide) rfl (by decide) q34 ?_
    exact lc_image C h_image hR hn hj hLn hnext
  by_cases q35 : xs (6 * j) &&& 63 = (35:Int32)
  · refine l_tsw (pc := 33) C (35:Int32) 1263 dL_law_33 (by decide) (by decide) rfl (by decide) q35 ?_
    exact lc_restore C h_restore hR hn hj hLn hnext
  by_cases q36 : xs (6 * j) &&& 63 = (36:Int32)
  · refine l_tsw (pc := 33) C (36:Int32) 1276 dL_law_33 (by decide) (by decide) rfl (by decide) q36 ?_
    exact lc_tell C h_tell hR hn hj hLn hnext
  by_cases q37 : xs (6 * j) &&& 63 = (37:Int32)
  · refine l_tsw (pc := 33) C (37:Int32) 1299 dL_law_33 (by decide) (by decide) rfl (by decide) q37 ?_
    exact lc_check C h_check hR hn hj hLn hnext
  by_cases q38 : xs (6 * j) &&& 63 = (38:Int32)
  · refine l_tsw (pc := 33) C (38:Int32) 1312 dL_law_33 (by decide) (by decide) rfl (by decide) q38 ?_
    exact lc_count C h_count hR hn hj hLn hnext
  by_cases q39 : xs (6 * j) &&& 63 = (39:Int32)
  · refine l_tsw (pc := 33) C (39:Int32) 1335 dL_law_33 (by decide) (by decide) rfl (by decide) q39 ?_
    exact lc_told C h_told hR hn hj hLn hnext
  refine l_tswD (pc := 33) C 1358 dL_law_33 (by have z0 := toInt_ne q0; have z1 := toInt_ne q1; have z2 := toInt_ne q2; have z3 := toInt_ne q3; have z4 := toInt_ne q4; have z5 := toInt_ne q5; have z6 := toInt_ne q6; have z7 := toInt_ne q7; have z8 := toInt_ne q8; have z9 := toInt_ne q9; have z10 := toInt_ne q10; have z11 := toInt_ne q11; have z12 := toInt_ne q12; have z13 := toInt_ne q13; have z14 := toInt_ne q14; have z15 := toInt_ne q15; have z16 := toInt_ne q16; have z17 := toInt_ne q17; have z18 := toInt_ne q18; have z19 := toInt_ne q19; have z20 := toInt_ne q20; have z21 := toInt_ne q21; have z22 := toInt_ne q22; have z23 := toInt_ne q23; have z24 := toInt_ne q24; have z25 := toInt_ne q25; have z26 := toInt_ne q26; have z27 := toInt_ne q27; have z28 := toInt_ne q28; have z29 := toInt_ne q29; have z30 := toInt_ne q30; have z31 := toInt_ne q31; have z32 := toInt_ne q32; have z33 := toInt_ne q33; have z34 := toInt_ne q34; have z35 := toInt_ne q35; have z36 := toInt_ne q36; have z37 := toInt_ne q37; have z38 := toInt_ne q38; have z39 := toInt_ne q39; simp only [Int32.reduceToInt, ne_eq] at *; omega) (by decide) ?_
  exact hnext x y (hmono n x y hR)
set_option maxRecDepth 20000 in
theorem lc_loop (C : LX G b Ln xs V) {Rel : Nat → Wd → Wd → Prop} (hmono : ∀ n x y, Rel n x y → Rel (n + 1) x y) (h_part : St_part Rel) (h_ofPart : St_ofPart Rel) (h_lines : St_lines Rel) (h_become : St_become Rel) (h_as : St_as Rel) (h_player : St_player Rel) (h_ofPlayer : St_ofPlayer Rel) (h_change : St_change Rel) (h_gala : St_gala Rel) (h_feed : St_feed Rel) (h_text : St_text Rel) (h_law : St_law Rel) (h_cast : St_cast Rel) (h_nights : St_nights Rel) (h_loose : St_loose Rel) (h_first : St_first Rel) (h_castings : St_castings Rel) (h_season : St_season Rel) (h_then : St_then Rel) (h_learns : St_learns Rel) (h_blocked : St_blocked Rel) (h_idle : St_idle Rel) (h_changes : St_changes Rel) (h_tells : St_tells Rel) (h_fits : St_fits Rel) (h_spare : St_spare Rel) (h_seed : St_seed Rel) (h_voice : St_voice Rel) (h_trace : St_trace Rel) (h_sheet : St_sheet Rel) (h_put : St_put Rel) (h_move : St_move Rel) (h_loads : St_loads Rel) (h_judge : St_judge Rel) (h_image : St_image Rel) (h_restore : St_restore Rel) (h_tell : St_tell Rel) (h_check : St_check Rel) (h_count : St_count Rel) (h_told : St_told Rel) (hLn : Ln ≤ 3072) : ∀ (d j : Nat) (x y : Wd), j + d = 513 → Rel j x y → 6 * j ≤ 3072 → V x y 18 [(0, .ref b), (1, .ref (G.2 0)), (2, .ref (G.2 100)), (3, .int (nI (6 * j)))] [] := by
  intro d
  induction d with
  | zero => intro j x y h1 h2 h3; omega
  | succ d ih =>
  intro j x y hjd hR hj0
  refine l_iload_n (pc := 18) C dL_law_18 rfl 3 rfl ?_
  refine l_aload_n (pc := 19) C dL_law_19 rfl 0 rfl ?_
  refine l_slen (pc := 20) C dL_law_20 ?_
  refine l_bipush (v := (6:Int32)) (pc := 21) C dL_law_21 (by decide) ?_
  refine l_isub (pc := 23) C dL_law_23 ?_
  refine l_gt (pc := 24) C 1364 dL_law_24 (by decide) (fun q => ?_) (fun q => ?_)
  · refine l_iconst (v := (1:Int32)) (pc := 1364) C dL_law_1364 (by decide) ?_
    exact l_ret (pc := 1365) C dL_law_1365
  · have hj := lw_gt hLn (by omega) q
    refine l_aload_n (pc := 27) C dL_law_27 rfl 0 rfl ?_
    refine l_iload_n (pc := 28) C dL_law_28 rfl 3 rfl ?_
    refine l_sld (pc := 29) C (6 * j) rfl (by omega) hLn dL_law_29 ?_
    refine l_bipush (v := (63:Int32)) (pc := 30) C dL_law_30 (by decide) ?_
    refine l_iand (pc := 32) C dL_law_32 ?_
    refine lc_switch C hmono h_part h_ofPart h_lines h_become h_as h_player h_ofPlayer h_change h_gala h_feed h_text h_law h_cast h_nights h_loose h_first h_castings h_season h_then h_learns h_blocked h_idle h_changes h_tells h_fits h_spare h_seed h_voice h_trace h_sheet h_put h_move h_loads h_judge h_image h_restore h_tell h_check h_count h_told hR (by omega) hj hLn (fun x' y' hR' => ?_)
    refine l_iinc (v := nI (6 * (j + 1))) (L' := [(3, .int (nI (6 * (j + 1)))), (0, .ref b), (1, .ref (G.2 0)), (2, .ref (G.2 100))]) (pc := 1358) C dL_law_1358 3 rfl (nI_pl (6 * j) 6) (by decide) rfl ?_
    refine l_goto (pc := 1361) C 18 dL_law_1361 (by decide) ?_
    exact l_sub C [1, 2, 3, 0] rfl (ih (j + 1) x' y' (by omega) hR' (by omega))
end LW
