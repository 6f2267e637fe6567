theorem qcl_L_7 : Cond.classLink RL 7 RX8 ∈ TB := tb_mem 89 (by decide +kernel) rfl
theorem qin_X8 : Cond.instantiable RX8 10 ∈ TB := tb_mem 90 (by decide +kernel) rfl
theorem qlo_X8 : Cond.methodLink RX8 1 Lib.objectInit ∈ TB := tb_mem 94 (by decide +kernel) rfl
theorem qio : Cond.instanceMethod Lib.objectInit ∈ TB := tb_mem 95 (by decide +kernel) rfl
theorem qco : Cond.code Lib.objectInit ⟨#[0xb1]⟩ 1 none ∈ TB := tb_mem 96 (by decide +kernel) rfl
theorem qcl_X8_7 : Cond.classLink RX8 7 RX0 ∈ TB := tb_mem 97 (by decide +kernel) rfl
theorem qin_X0 : Cond.instantiable RX0 6 ∈ TB := tb_mem 98 (by decide +kernel) rfl
theorem qlo_X0 : Cond.methodLink RX0 3 Lib.objectInit ∈ TB := tb_mem 102 (by decide +kernel) rfl
theorem qcl_X0_9 : Cond.classLink RX0 9 RX6 ∈ TB := tb_mem 103 (by decide +kernel) rfl
theorem qin_X6 : Cond.instantiable RX6 13 ∈ TB := tb_mem 104 (by decide +kernel) rfl
theorem qlo_X6 : Cond.methodLink RX6 3 Lib.objectInit ∈ TB := tb_mem 108 (by decide +kernel) rfl
theorem qar_int : Cond.arrayClass .int ∈ TB := tb_mem 163 (by decide +kernel) rfl
theorem qcl_X0_18 : Cond.classLink RX0 18 RX2 ∈ TB := tb_mem 164 (by decide +kernel) rfl
theorem qin_X2 : Cond.instantiable RX2 3 ∈ TB := tb_mem 165 (by decide +kernel) rfl
theorem qlo_X2 : Cond.methodLink RX2 3 Lib.objectInit ∈ TB := tb_mem 169 (by decide +kernel) rfl
theorem qcl_X2_9 : Cond.classLink RX2 9 RX4 ∈ TB := tb_mem 170 (by decide +kernel) rfl
theorem qin_X4 : Cond.instantiable RX4 2 ∈ TB := tb_mem 171 (by decide +kernel) rfl
theorem qlo_X4 : Cond.methodLink RX4 1 Lib.objectInit ∈ TB := tb_mem 175 (by decide +kernel) rfl
theorem qcl_X0_30 : Cond.classLink RX0 30 RX4 ∈ TB := tb_mem 202 (by decide +kernel) rfl
theorem qcl_X8_19 : Cond.classLink RX8 19 RX6 ∈ TB := tb_mem 229 (by decide +kernel) rfl
theorem qcl_X8_26 : Cond.classLink RX8 26 RX1 ∈ TB := tb_mem 231 (by decide +kernel) rfl
theorem qin_X1 : Cond.instantiable RX1 8 ∈ TB := tb_mem 232 (by decide +kernel) rfl
theorem qlo_X1 : Cond.methodLink RX1 3 Lib.objectInit ∈ TB := tb_mem 236 (by decide +kernel) rfl
theorem qar_boolean : Cond.arrayClass .boolean ∈ TB := tb_mem 263 (by decide +kernel) rfl
theorem qcl_X8_33 : Cond.classLink RX8 33 RX3 ∈ TB := tb_mem 264 (by decide +kernel) rfl
theorem qin_X3 : Cond.instantiable RX3 4 ∈ TB := tb_mem 265 (by decide +kernel) rfl
theorem qlo_X3 : Cond.methodLink RX3 3 Lib.objectInit ∈ TB := tb_mem 269 (by decide +kernel) rfl
theorem qcl_X3_9 : Cond.classLink RX3 9 RX4 ∈ TB := tb_mem 270 (by decide +kernel) rfl
theorem qar_byte : Cond.arrayClass .byte ∈ TB := tb_mem 288 (by decide +kernel) rfl
theorem qcl_X8_40 : Cond.classLink RX8 40 RX7 ∈ TB := tb_mem 289 (by decide +kernel) rfl
theorem qin_X7 : Cond.instantiable RX7 4 ∈ TB := tb_mem 290 (by decide +kernel) rfl
theorem qlo_X7 : Cond.methodLink RX7 3 Lib.objectInit ∈ TB := tb_mem 294 (by decide +kernel) rfl
theorem qcl_X7_9 : Cond.classLink RX7 9 RX4 ∈ TB := tb_mem 295 (by decide +kernel) rfl
theorem qcl_X8_47 : Cond.classLink RX8 47 RX5 ∈ TB := tb_mem 311 (by decide +kernel) rfl
theorem qin_X5 : Cond.instantiable RX5 3 ∈ TB := tb_mem 313 (by decide +kernel) rfl
theorem qlo_X5 : Cond.methodLink RX5 3 Lib.objectInit ∈ TB := tb_mem 317 (by decide +kernel) rfl
theorem qcl_L_10 : Cond.classLink RL 10 RX9 ∈ TB := tb_mem 929 (by decide +kernel) rfl
theorem qin_X9 : Cond.instantiable RX9 28 ∈ TB := tb_mem 930 (by decide +kernel) rfl
theorem qlo_X9 : Cond.methodLink RX9 1 Lib.objectInit ∈ TB := tb_mem 934 (by decide +kernel) rfl
section KT
def SK (G : Gv) (U : State) : Prop := vk_R RX3 23 "lmk" (G.2 1004) U ∧ va_AO RX5 U ∧ va_Nw (.methodLinkNest RX8 9 yX0_init RX8) U ∧ va_Nw (.methodLinkNest RX0 11 yX6_init RX8) U ∧ va_Nw (.methodLinkNest RX8 21 yX6_init RX8) U ∧ va_Nw (.methodLinkNest RX8 28 yX1_init RX8) U ∧ va_Nw (.methodLinkNest RX8 35 yX3_init RX8) U ∧ va_Nw (.methodLinkNest RX8 42 yX7_init RX8) U ∧ va_Nw (.methodLinkNest RX8 53 yX5_init RX8) U
theorem SK.warm {G : Gv} {s U : State} (hW : s.WarmedH U.vm) (h : SK G s) : SK G U := by
  obtain ⟨a, b, h0, h1, h2, h3, h4, h5, h6⟩ := h
  exact ⟨a.warm hW, b.moved hW.alike, h0.warmM hW, h1.warmM hW, h2.warmM hW, h3.warmM hW, h4.warmM hW, h5.warmM hW, h6.warmM hW⟩
theorem SK.same {G : Gv} {u U : State} (hv : u.vm = U.vm) (hA : u.vm.Alike U.vm) (h : SK G u) : SK G U := by
  obtain ⟨a, b, h0, h1, h2, h3, h4, h5, h6⟩ := h
  exact ⟨a.same hv.symm, b.moved hA, va_tabs rfl hv h0, va_tabs rfl hv h1, va_tabs rfl hv h2, va_tabs rfl hv h3, va_tabs rfl hv h4, va_tabs rfl hv h5, va_tabs rfl hv h6⟩

abbrev RmK (h mc ms : Nat) : Room := { frames := h, cells := mc, slots := ms, locals := 40 * h }
abbrev Fa : Type := Nat → Nat
def QK (G : Gv) (A : Nat → Prop) (h0 : Nat) (e1 : Fa → va_E) (wn : Fa → va_W) : Array Value → State → Outcome → State → Prop := fun _ st oc t => (oc = .returned none ∧ ∃ f : Fa, va_P G.1 vwCl ((h0, e1 f) :: wn f) t.heap ∧ va_D A ((h0, e1 f) :: wn f)) ∧ va_F A st t
abbrev AK (h0 : Nat) (e0 : va_E) (sz : Nat) : Nat → Prop := va_A [(h0, e0)] sz
def PK (G : Gv) (sz h0 : Nat) (e0 : va_E) (U : State) : Prop := U.heap.size = sz ∧ va_P G.1 vwCl [(h0, e0)] U.heap ∧ va_K G.1 vwCl (tysG G) U ∧ SK G U
def MK (l : Launch) (y : MethodName) (cc : ByteArray) (n hc : Nat) (G : Gv) (sz h0 : Nat) (e0 : va_E) (As : List Value) (mc ms : Nat) (e1 : Fa → va_E) (wn : Fa → va_W) : Prop :=
  Met l y (wsA y cc n none) (RmK hc mc ms) (va_Pc (.ref h0 :: As) (PK G sz h0 e0)) (QK G (AK h0 e0 sz) h0 e1 wn) mc ms (AK h0 e0 sz)
abbrev Kt : Type := va_W → Nat → Nat → Nat → List (Nat × Value) → List Value → Prop
def KC (cc : ByteArray) (own : String) (G : Gv) (n hc mc ms h0 : Nat) (e0 : va_E) (e1 : Fa → va_E) (wn : Fa → va_W) (V : Kt) : Prop :=
  ∃ (p : Program) (l : Launch) (e : Env) (s : State) (m : MethodId) (args : Array Value) (below : List Frame) (meth : Method) (c : Code),
    V = (fun ws k z pc L st => ∀ (ls : Array Slot) (H : Heap) (locs : List Loc), lv_has ls n L → va_P G.1 vwCl ws H → va_D (AK h0 e0 s.heap.size) ws → va_S (AK h0 e0 s.heap.size) s.heap H locs → W p l e (RmK hc mc ms) s m args below meth c H locs k z (MQ below (QK G (AK h0 e0 s.heap.size) h0 e1 wn) args s mc ms (AK h0 e0 s.heap.size)) (F0 m pc ls st)) ∧
    p.tables.exec = Jvm.exec ∧ c.code = cc ∧ c.maxLocals = n ∧ s.vm.findClass own = some m.cls ∧ (∀ w ∈ TB, w.before args s = true) ∧ va_K G.1 vwCl (tysG G) s ∧ SK G s ∧ meth.locks = false ∧ meth.sig.returnType = none ∧ meth.name = "<init>"
theorem PK.blind {G : Gv} {sz h0 : Nat} {e0 : va_E} {av : List Value} : FrameBlind (va_Pc av (PK G sz h0 e0)) := fun a U g mk q => by
  obtain ⟨q0, qZ, qP, qK, qN⟩ := q
  exact ⟨q0, qZ, qP, va_K.moved (u := U) (U := U.calling g mk a) (Vm.Alike.refl U.vm) qK, SK.same (u := U) (U := U.calling g mk a) rfl (Vm.Alike.refl U.vm) qN⟩
theorem nd_of : ∀ (l : List Nat), l.Nodup → va_nd l = true := by
  intro l
  induction l with
  | nil => intro _; rfl
  | cons a l ih =>
    intro h
    obtain ⟨h1, h2⟩ := List.nodup_cons.mp h
    simp only [va_nd, Bool.and_eq_true, decide_eq_true_eq]
    exact ⟨h1, ih h2⟩
theorem join_last {D : va_G} {cl : List vw_C} {A0 : Nat → Prop} {W0 w1 : va_W} {c : Nat × va_E} {H H1 : Heap} (hP : va_P D cl (W0 ++ [c]) H) (hD : va_D A0 (W0 ++ [c])) (hk : ∀ q : Nat, q < H.size → ¬ va_A [c] H.size q → H1[q]? = H[q]?) (hF : ∀ q, va_A [c] H.size q → A0 q) (hP1 : va_P D cl w1 H1) (hD1 : va_D (va_A [c] H.size) w1) : va_P D cl (W0 ++ w1) H1 ∧ va_D A0 (W0 ++ w1) := by
  refine va_join (wc := [c]) (wr := W0) hP hD [W0.length] (List.range W0.length) ?_ ?_ (nd_of _ List.nodup_range) ?_ hk hF hP1 hD1
  · simp
  · apply List.ext_getElem?
    intro i
    rw [List.getElem?_map, List.getElem?_map]
    by_cases hi : i < W0.length
    · rw [List.getElem?_range hi]
      simp only [Option.map_some]
      rw [List.getElem?_append_left hi, List.getElem?_eq_getElem hi]
      rfl
    · rw [List.getElem?_eq_none (by simp; omega), List.getElem?_eq_none (by omega)]
      rfl
  · intro i hi hj
    have h1 := List.mem_range.mp hi
    rcases List.mem_cons.mp hj with h | h
    · omega
    · cases h
variable {cc : ByteArray} {own : String} {G : Gv} {n hc mc ms h0 : Nat} {e0 : va_E} {e1 : Fa → va_E} {wn : Fa → va_W} {V : Kt} {ws : va_W} {c0 : Nat × va_E} {k z pc : Nat} {L L' : List (Nat × Value)} {rest : List Value}
theorem mk_of {y : MethodName} {As : List Value} (hy : plainName y.cls = true) (hn : y.name = "<init>") (ho : y.cls = own) (hlen : (lg_sl (.ref h0 :: As)).length ≤ n) (hL : lv_args 0 (.ref h0 :: As) = L) (body : ∀ V : Kt, KC cc own G n hc mc ms h0 e0 e1 wn V → V [(h0, e0)] 0 0 0 L []) (l : Launch) (sz : Nat) : MK l y cc n hc G sz h0 e0 As mc ms e1 wn := by
  refine Met.ofW (cc := cc) (maxL := n) (ret := none) hy rfl ?_
  intro p e s m av below meth c s₁ B hml hv
  obtain ⟨rfl, hsz, hP, hK, hN⟩ := hv
  subst ho
  subst hL
  subst hsz
  have hts := atoms_spec (ws := wsA y cc n none) B.pre
  have hl := lv_entry (.ref h0 :: As) (n := n) hlen
  have hnm : meth.name = "<init>" := (name_of_methodNamed B.named B.method).1.trans hn
  have hD0 : va_D (fun _ => True) [(h0, e0)] := ⟨fun i j x q h1 h2 _ => by
    have a1 := (List.getElem?_eq_some_iff.mp h1).1
    have a2 := (List.getElem?_eq_some_iff.mp h2).1
    simp only [List.length_cons, List.length_nil] at a1 a2
    omega, fun _ _ _ => trivial⟩
  rw [lg_entry_eq]
  exact body _ ⟨p, l, e, s, m, _, below, meth, c, rfl, B.exec, B.bytes, hml, findClass_of_methodNamed B.named, fun w hw => hts w (List.mem_cons_of_mem _ hw), hK, hN, B.notSynchronized, B.returns, hnm⟩ _ _ _ hl hP hD0.self va_S.rf

theorem bytes_ok {N : Nat} {ty : FieldType} (h : N ≤ 1000) : N * componentBytes ty ≤ 536870912 := by
  have h1 : componentBytes ty ≤ 8 := by cases ty <;> first | decide | (show (4 : Nat) ≤ 8; decide)
  exact Nat.le_trans (Nat.mul_le_mul h h1) (by decide)
theorem k_dup (C : KC cc own G n hc mc ms h0 e0 e1 wn V) {v : Value} (hd : decode cc pc = .ok (.dup, 1)) (hv : v.category = 1) (kk : V ws k z (pc + 1) L (v :: v :: rest)) : V ws k z pc L (v :: rest) := by
  obtain ⟨p, l, e, s, m, args, below, meth, c, rfl, hx, hb, hml, hown, hts, hK, hN, hlk, hrt, hnm⟩ := C
  exact fun ls H locs hl hP hD hS => lv_dup hx hb hd hv (kk ls H locs hl hP hD hS)
theorem k_iconst (C : KC cc own G n hc mc ms h0 e0 e1 wn V) {a : Int} {v : Int32} (hd : decode cc pc = .ok (.iconst a, 1)) (hv : Int32.ofInt a = v) (kk : V ws k z (pc + 1) L (.int v :: rest)) : V ws k z pc L (rest) := by
  obtain ⟨p, l, e, s, m, args, below, meth, c, rfl, hx, hb, hml, hown, hts, hK, hN, hlk, hrt, hnm⟩ := C
  exact fun ls H locs hl hP hD hS => lv_iconst hx hb hd hv (kk ls H locs hl hP hD hS)
theorem k_bipush (C : KC cc own G n hc mc ms h0 e0 e1 wn V) {a : Int} {v : Int32} (hd : decode cc pc = .ok (.bipush a, 2)) (hv : (Int8.ofInt a).toInt32 = v) (kk : V ws k z (pc + 2) L (.int v :: rest)) : V ws k z pc L (rest) := by
  obtain ⟨p, l, e, s, m, args, below, meth, c, rfl, hx, hb, hml, hown, hts, hK, hN, hlk, hrt, hnm⟩ := C
  exact fun ls H locs hl hP hD hS => lv_bipush hx hb hd hv (kk ls H locs hl hP hD hS)
theorem k_sipush (C : KC cc own G n hc mc ms h0 e0 e1 wn V) {a : Int} {v : Int32} (hd : decode cc pc = .ok (.sipush a, 3)) (hv : (Int16.ofInt a).toInt32 = v) (kk : V ws k z (pc + 3) L (.int v :: rest)) : V ws k z pc L (rest) := by
  obtain ⟨p, l, e, s, m, args, below, meth, c, rfl, hx, hb, hml, hown, hts, hK, hN, hlk, hrt, hnm⟩ := C
  exact fun ls H locs hl hP hD hS => lv_sipush hx hb hd hv (kk ls H locs hl hP hD hS)
theorem k_iload_n (C : KC cc own G n hc mc ms h0 e0 e1 wn V) {a : Fin 4} {i : Nat} {x : Int32} (hd : decode cc pc = .ok (.iload_n a, 1)) (hi : (a : Nat) = i) (pos : Nat) (hL : L[pos]? = some (i, .int x)) (kk : V ws k z (pc + 1) L (.int x :: rest)) : V ws k z pc L rest := by
  obtain ⟨p, l, e, s, m, args, below, meth, c, rfl, hx, hb, hml, hown, hts, hK, hN, hlk, hrt, hnm⟩ := C
  exact fun ls H locs hl hP hD hS => lv_iload_n hx hb hd hi (lv_at hl pos hL) (kk ls H locs hl hP hD hS)
theorem k_aload_n (C : KC cc own G n hc mc ms h0 e0 e1 wn V) {a : Fin 4} {i : Nat} {x : Nat} (hd : decode cc pc = .ok (.aload_n a, 1)) (hi : (a : Nat) = i) (pos : Nat) (hL : L[pos]? = some (i, .ref x)) (kk : V ws k z (pc + 1) L (.ref x :: rest)) : V ws k z pc L rest := by
  obtain ⟨p, l, e, s, m, args, below, meth, c, rfl, hx, hb, hml, hown, hts, hK, hN, hlk, hrt, hnm⟩ := C
  exact fun ls H locs hl hP hD hS => lv_aload_n hx hb hd hi (lv_at hl pos hL) (kk ls H locs hl hP hD hS)
theorem k_istore_n (C : KC cc own G n hc mc ms h0 e0 e1 wn V) {a : Fin 4} {i : Nat} {x : Int32} (hd : decode cc pc = .ok (.istore_n a, 1)) (hi : (a : Nat) = i) (hn : i < n) (hL : (i, Value.int x) :: L.filter (fun q => !(q.1 == i) && !(q.1 + 1 == i && q.2.category == 2)) = L') (kk : V ws k z (pc + 1) L' rest) : V ws k z pc L (.int x :: rest) := by
  obtain ⟨p, l, e, s, m, args, below, meth, c, rfl, hx, hb, hml, hown, hts, hK, hN, hlk, hrt, hnm⟩ := C
  exact fun ls H locs hl hP hD hS => lv_istore_n hx hb hd hi hl hn hL (fun ls' hl' => kk ls' H locs hl' hP hD hS)
theorem k_iinc (C : KC cc own G n hc mc ms h0 e0 e1 wn V) {i : Nat} {a : Int} {x v : Int32} (hd : decode cc pc = .ok (.iinc i a, 3)) (pos : Nat) (hp : L[pos]? = some (i, .int x)) (hv : x + Int32.ofInt a = v) (hn : i < n) (hL : (i, Value.int v) :: L.filter (fun q => !(q.1 == i) && !(q.1 + 1 == i && q.2.category == 2)) = L') (kk : V ws k z (pc + 3) L' rest) : V ws k z pc L rest := by
  obtain ⟨p, l, e, s, m, args, below, meth, c, rfl, hx, hb, hml, hown, hts, hK, hN, hlk, hrt, hnm⟩ := C
  exact fun ls H locs hl hP hD hS => lv_iinc hx hb hd hl hp hv hn hL (fun ls' hl' => kk ls' H locs hl' hP hD hS)
theorem k_goto (C : KC cc own G n hc mc ms h0 e0 e1 wn V) {off : Int} (tgt : Nat) (hd : decode cc pc = .ok (.goto off, 3)) (ht : (pc : Int) + off = (tgt : Int)) (kk : V ws k z tgt L rest) : V ws k z pc L rest := by
  obtain ⟨p, l, e, s, m, args, below, meth, c, rfl, hx, hb, hml, hown, hts, hK, hN, hlk, hrt, hnm⟩ := C
  exact fun ls H locs hl hP hD hS => lv_goto hx hb hd ht (kk ls H locs hl hP hD hS)
theorem k_geT (C : KC cc own G n hc mc ms h0 e0 e1 wn V) {x y : Int32} {off : Int} (tgt : Nat) (hd : decode cc pc = .ok (.if_icmp .ge off, 3)) (ht : (pc : Int) + off = (tgt : Int)) (h : y ≤ x) (kk : V ws k z tgt L rest) : V ws k z pc L (.int y :: .int x :: rest) := by
  obtain ⟨p, l, e, s, m, args, below, meth, c, rfl, hx, hb, hml, hown, hts, hK, hN, hlk, hrt, hnm⟩ := C
  exact fun ls H locs hl hP hD hS => lv_icmp_ge hx hb hd ht (fun _ => kk ls H locs hl hP hD hS) (fun q => absurd h q)
theorem k_geF (C : KC cc own G n hc mc ms h0 e0 e1 wn V) {x y : Int32} {off : Int} (tgt : Nat) (hd : decode cc pc = .ok (.if_icmp .ge off, 3)) (ht : (pc : Int) + off = (tgt : Int)) (h : ¬ y ≤ x) (kk : V ws k z (pc + 3) L rest) : V ws k z pc L (.int y :: .int x :: rest) := by
  obtain ⟨p, l, e, s, m, args, below, meth, c, rfl, hx, hb, hml, hown, hts, hK, hN, hlk, hrt, hnm⟩ := C
  exact fun ls H locs hl hP hD hS => lv_icmp_ge hx hb hd ht (fun q => absurd q h) (fun _ => kk ls H locs hl hP hD hS)
theorem k_ldcS (C : KC cc RX3 G n hc mc ms h0 e0 e1 wn V) (hd : decode cc pc = .ok (.ldc 23, 2)) (kk : V ws k z (pc + 2) L (.ref (G.2 1004) :: rest)) : V ws k z pc L rest := by
  obtain ⟨p, l, e, s, m, args, below, meth, c, rfl, hx, hb, hml, hown, hts, hK, hN, hlk, hrt, hnm⟩ := C
  exact fun ls H locs hl hP hD hS => va_ldcS hx hb hown hN.1 hd (kk ls H locs hl hP hD hS)
theorem k_max (C : KC cc own G n (hc + 1) mc ms h0 e0 e1 wn V) {x y : Int32} {idx : Nat} (hd : decode cc pc = .ok (.invokestatic idx, 3)) (q1 : Cond.methodLink own idx Lib.Math.max.name ∈ TB) (hk : k ≤ mc) (hz : z ≤ ms) (hr : (rest.map fun v => v.category).sum ≤ 8) (kk : V ws k z (pc + 3) L (.int (mmax x y) :: rest)) : V ws k z pc L (.int y :: .int x :: rest) := by
  obtain ⟨p, l, e, s, m, args, below, meth, c, rfl, hx, hb, hml, hown, hts, hK, hN, hlk, hrt, hnm⟩ := C
  intro ls H locs hl hP hD hS
  exact va_mmax hx hb (by rw [hml]; exact hl.1.symm) hown (hts _ q1) (hts _ qt_Math_max) (hts _ qn_J9) (hts _ qc_Math_max) (by show 1 ≤ hc + 1; omega) (by show _ + 13 ≤ 40 * (hc + 1); omega) hk hz hd (kk ls H locs hl hP hD hS)
theorem k_objinit (C : KC cc own G n (hc + 1) mc ms h0 e0 e1 wn V) {a idx : Nat} (hd : decode cc pc = .ok (.invokespecial idx, 3)) (q1 : Cond.methodLink own idx Lib.objectInit ∈ TB) (hr : (rest.map fun v => v.category).sum ≤ 8) (kk : V ws k z (pc + 3) L rest) : V ws k z pc L (.ref a :: rest) := by
  obtain ⟨p, l, e, s, m, args, below, meth, c, rfl, hx, hb, hml, hown, hts, hK, hN, hlk, hrt, hnm⟩ := C
  intro ls H locs hl hP hD hS
  exact W.objInit hx hb hown (hts _ q1) (hts _ qio) (hts _ qco) rfl (by rw [hml]; exact hl.1) rfl hd (by show 1 ≤ hc + 1; omega) (by show 2 * 0 + _ + 12 ≤ 40 * (hc + 1); omega) (kk ls H locs hl hP hD hS)
theorem k_new (C : KC cc own G n hc mc ms h0 e0 e1 wn V) {ci N idx : Nat} {Cn : String} {T : u_T} {fs : List Value} (ty : Nat → FieldType) (hd : decode cc pc = .ok (.new idx, 3)) (q1 : Cond.classLink own idx Cn ∈ TB) (q2 : Cond.instantiable Cn N ∈ TB) (q3 : Cond.initialized Cn ∈ TB) (hin : ∀ w ∈ u_ws Cn T N, w ∈ TB) (hty : ∀ a, a < N → parseFieldDescriptor (T a).2.2.1 = some (ty a)) (hcl : vwCl[ci]? = some (Cn, T, N)) (hfs : ∀ j, j < N → defaultValue (ty j) = vp_V fs j) (hk : k + 1 ≤ mc) (hz : z + N ≤ ms) (kk : ∀ q, V (c0 :: (ws ++ [(q, .inr (ci, fs))])) (k + 1) (z + N) (pc + 3) L (.ref q :: rest)) : V (c0 :: ws) k z pc L rest := by
  obtain ⟨p, l, e, s, m, args, below, meth, c, rfl, hx, hb, hml, hown, hts, hK, hN, hlk, hrt, hnm⟩ := C
  intro ls H locs hl hP hD hS
  exact va_new hx hb hts hin ty hty hown (hts _ q1) (hts _ q2) (hts _ q3) hK hP hD hS (fun q h => Or.inr h) hcl hfs hk hz hd (fun q H1 hP1 hD1 hS1 => kk q ls H1 locs hl hP1 hD1 hS1)
theorem k_newa_int (C : KC cc own G n hc mc ms h0 e0 e1 wn V) {x : Int32} {N : Nat} (hd : decode cc pc = .ok (.newarray .int, 2)) (hx0 : ¬ x < 0) (hNN : x.toNatClampNeg = N) (hb0 : N ≤ 1000) (hk : k + 1 ≤ mc) (hz : z + N ≤ ms) (kk : ∀ q, V (c0 :: (ws ++ [(q, .inl (G.2 1001, N, .inl (fun _ => 0)))])) (k + 1) (z + N) (pc + 2) L (.ref q :: rest)) : V (c0 :: ws) k z pc L (.int x :: rest) := by
  obtain ⟨p, l, e, s, m, args, below, meth, c, rfl, hx, hb, hml, hown, hts, hK, hN, hlk, hrt, hnm⟩ := C
  intro ls H locs hl hP hD hS
  refine va_newa (atype := .int) (ty := .int) (a0 := (N, .inl (fun _ => 0))) (N' := N) hx hb (hts _ qar_int) rfl hK hP hD hS (fun q h => Or.inr h) (fun cA => rfl) hx0 hNN (bytes_ok hb0) hk hz hd (fun q cA H1 hK1 hP1 hD1 hS1 => ?_)
  have hcA : cA = G.2 1001 := by
    have h1 := (hK1.2 3 (cA, .int) rfl).2
    have h2 := (hK.2 0 (G.2 1001, .int) rfl).2
    have h3 : s.vm.findClass ("[" ++ (FieldType.int).toString) = some cA := h1
    have h4 : s.vm.findClass ("[" ++ (FieldType.int).toString) = some (G.2 1001) := h2
    exact Option.some.inj (h3.symm.trans h4)
  subst hcA
  exact kk q ls H1 locs hl hP1 hD1 hS1
theorem k_newa_boolean (C : KC cc own G n hc mc ms h0 e0 e1 wn V) {x : Int32} {N : Nat} (hd : decode cc pc = .ok (.newarray .boolean, 2)) (hx0 : ¬ x < 0) (hNN : x.toNatClampNeg = N) (hb0 : N ≤ 1000) (hk : k + 1 ≤ mc) (hz : z + N ≤ ms) (kk : ∀ q, V (c0 :: (ws ++ [(q, .inl (G.2 1002, N, .inl (fun _ => 0)))])) (k + 1) (z + N) (pc + 2) L (.ref q :: rest)) : V (c0 :: ws) k z pc L (.int x :: rest) := by
  obtain ⟨p, l, e, s, m, args, below, meth, c, rfl, hx, hb, hml, hown, hts, hK, hN, hlk, hrt, hnm⟩ := C
  intro ls H locs hl hP hD hS
  refine va_newa (atype := .boolean) (ty := .boolean) (a0 := (N, .inl (fun _ => 0))) (N' := N) hx hb (hts _ qar_boolean) rfl hK hP hD hS (fun q h => Or.inr h) (fun cA => rfl) hx0 hNN (bytes_ok hb0) hk hz hd (fun q cA H1 hK1 hP1 hD1 hS1 => ?_)
  have hcA : cA = G.2 1002 := by
    have h1 := (hK1.2 3 (cA, .boolean) rfl).2
    have h2 := (hK.2 1 (G.2 1002, .boolean) rfl).2
    have h3 : s.vm.findClass ("[" ++ (FieldType.boolean).toString) = some cA := h1
    have h4 : s.vm.findClass ("[" ++ (FieldType.boolean).toString) = some (G.2 1002) := h2
    exact Option.some.inj (h3.symm.trans h4)
  subst hcA
  exact kk q ls H1 locs hl hP1 hD1 hS1
theorem k_newq (C : KC cc own G n hc mc ms h0 e0 e1 wn V) {x : Int32} {N idx : Nat} (hd : decode cc pc = .ok (.anewarray idx, 3)) (q1 : Cond.classLink own idx RX5 ∈ TB) (hx0 : ¬ x < 0) (hNN : x.toNatClampNeg = N) (hb0 : N ≤ 1000) (hk : k + 1 ≤ mc) (hz : z + N ≤ ms) (kk : ∀ q, V (c0 :: (ws ++ [(q, .inl (G.2 1003, N, .inr (.inr (.inr (.inr (fun _ => none))))))])) (k + 1) (z + N) (pc + 3) L (.ref q :: rest)) : V (c0 :: ws) k z pc L (.int x :: rest) := by
  obtain ⟨p, l, e, s, m, args, below, meth, c, rfl, hx, hb, hml, hown, hts, hK, hN, hlk, hrt, hnm⟩ := C
  intro ls H locs hl hP hD hS
  refine va_newq hx hb hown (hts _ q1) hN.2.1 hK hP hD hS (fun q h => Or.inr h) hx0 hNN (by omega) hk hz hd (fun q cA H1 hK1 hP1 hD1 hS1 => ?_)
  have hcA : cA = G.2 1003 := by
    obtain ⟨kA, comp, -, -, -, h3⟩ := (hK1.2 3 (cA, .object RX5) rfl).2
    obtain ⟨kA', comp', -, -, -, h4⟩ := (hK.2 2 (G.2 1003, .object RX5) rfl).2
    exact Option.some.inj (h3.symm.trans h4)
  subst hcA
  exact kk q ls H1 locs hl hP1 hD1 hS1
theorem k_putF (C : KC cc own G n hc mc ms h0 e0 e1 wn V) {a ci j N idx : Nat} {fs fs' : List Value} {Cn ref : String} {T : u_T} {v : Value} {ty : FieldType} (ty0 : Nat → FieldType) (hd : decode cc pc = .ok (.putfield idx, 3)) (hcl : vwCl[ci]? = some (Cn, T, N)) (hin : ∀ w ∈ u_ws Cn T N, w ∈ TB) (hj : j < N) (hq : Cond.fieldLink own idx ref (T j).2.1 (T j).2.2.1 ∈ TB) (hsame : ref = (T j).1) (hty : ∀ x, x < N → parseFieldDescriptor (T x).2.2.1 = some (ty0 x)) (hnn : ∀ x, x < N → ∀ b, b < N → x ≠ b → (T x).2.1 ≠ (T b).2.1) (hfin : (T j).2.2.2 = true) (hdecl : (T j).1 = own) (hdd : parseFieldDescriptor (T j).2.2.1 = some ty) (hnar : narrow ty v = v) (hfit : fits ty v = true) (hl0 : j < fs.length) (hfs : fs.set j v = fs') (kk : V ((a, .inr (ci, fs')) :: ws) k z (pc + 3) L rest) : V ((a, .inr (ci, fs)) :: ws) k z pc L (v :: .ref a :: rest) := by
  subst hfs
  subst hsame
  obtain ⟨p, l, e, s, m, args, below, meth, c, rfl, hx, hb, hml, hown, hts, hK, hN, hlk, hrt, hnm⟩ := C
  intro ls H locs hl hP hD hS
  exact va_putF hx hb hts hin ty0 hty hnn hown hK hP hD hS 0 rfl hcl j hj (hts _ hq) (fun _ h9 => h9) hfin hnm hdecl hdd hnar hfit hl0 hd (fun H1 locs1 hP1 hD1 hS1 => kk ls H1 locs1 hl hP1 hD1 hS1)
theorem k_put (C : KC cc own G n hc mc ms h0 e0 e1 wn V) {a ci j N idx : Nat} {fs fs' : List Value} {Cn ref : String} {T : u_T} {v : Value} {ty : FieldType} (ty0 : Nat → FieldType) (hd : decode cc pc = .ok (.putfield idx, 3)) (hcl : vwCl[ci]? = some (Cn, T, N)) (hin : ∀ w ∈ u_ws Cn T N, w ∈ TB) (hj : j < N) (hq : Cond.fieldLink own idx ref (T j).2.1 (T j).2.2.1 ∈ TB) (hsame : ref = (T j).1) (hty : ∀ x, x < N → parseFieldDescriptor (T x).2.2.1 = some (ty0 x)) (hnn : ∀ x, x < N → ∀ b, b < N → x ≠ b → (T x).2.1 ≠ (T b).2.1) (hfin : (T j).2.2.2 = false) (hdecl : (T j).1 = own) (hdd : parseFieldDescriptor (T j).2.2.1 = some ty) (hnar : narrow ty v = v) (hfit : fits ty v = true) (hl0 : j < fs.length) (hfs : fs.set j v = fs') (kk : V ((a, .inr (ci, fs')) :: ws) k z (pc + 3) L rest) : V ((a, .inr (ci, fs)) :: ws) k z pc L (v :: .ref a :: rest) := by
  subst hfs
  subst hsame
  obtain ⟨p, l, e, s, m, args, below, meth, c, rfl, hx, hb, hml, hown, hts, hK, hN, hlk, hrt, hnm⟩ := C
  intro ls H locs hl hP hD hS
  exact va_put hx hb hts hin ty0 hty hnn hown hK hP hD hS 0 rfl hcl j hj (hts _ hq) (fun _ h9 => h9) hfin hdd hnar hfit hl0 hd (fun H1 locs1 hP1 hD1 hS1 => kk ls H1 locs1 hl hP1 hD1 hS1)
theorem k_get (C : KC cc own G n hc mc ms h0 e0 e1 wn V) {a ci j N idx q0 : Nat} {fs : List Value} {Cn ref : String} {T : u_T} {v : Value} (hd : decode cc pc = .ok (.getfield idx, 3)) (he : ws[q0]? = some (a, .inr (ci, fs))) (hcl : vwCl[ci]? = some (Cn, T, N)) (hin : ∀ w ∈ u_ws Cn T N, w ∈ TB) (hj : j < N) (hq : Cond.fieldLink own idx ref (T j).2.1 (T j).2.2.1 ∈ TB) (hsame : ref = (T j).1) (hv : fs[j]? = some v) (kk : V ws k z (pc + 3) L (v :: rest)) : V ws k z pc L (.ref a :: rest) := by
  subst hsame
  obtain ⟨p, l, e, s, m, args, below, meth, c, rfl, hx, hb, hml, hown, hts, hK, hN, hlk, hrt, hnm⟩ := C
  intro ls H locs hl hP hD hS
  exact va_get hx hb hts hin hown hK hP q0 he hcl j hj (hts _ hq) (fun _ h9 => h9) hv hd (kk ls H locs hl hP hD hS)
theorem k_astq (C : KC cc own G n hc mc ms h0 e0 e1 wn V) {qa v N q0 qk : Nat} {vs : List Value} {f : Nat → Option Nat} {i : Int32} {ws' : va_W} (hd : decode cc pc = .ok (.aastore, 1)) (ha : ws[q0]? = some (qa, .inl (G.2 1003, N, .inr (.inr (.inr (.inr f)))))) (hv : ws[qk]? = some (v, .inr (5, vs))) (hin : vp_in i N) (hws : ws.set q0 (qa, .inl (G.2 1003, N, .inr (.inr (.inr (.inr (va_up f i.toNatClampNeg (some v))))))) = ws') (kk : V ws' k z (pc + 1) L rest) : V ws k z pc L (.ref v :: .int i :: .ref qa :: rest) := by
  subst hws
  obtain ⟨p, l, e, s, m, args, below, meth, c, rfl, hx, hb, hml, hown, hts, hK, hN, hlk, hrt, hnm⟩ := C
  intro ls H locs hl hP hD hS
  exact va_astq hx hb hK hP hD hS q0 2 qk 5 (r := (RX5, TX5, 3)) ha rfl hv rfl hin hd (fun H1 locs1 hP1 hD1 hS1 => kk ls H1 locs1 hl hP1 hD1 hS1)
theorem k_vret (C : KC cc own G n hc mc ms h0 e0 e1 wn V) (hd : decode cc pc = .ok (.return_, 1)) (hk : k ≤ mc) (hz : z ≤ ms) (f : Fa) (hw : ws = (h0, e1 f) :: wn f) : V ws k z pc L [] := by
  subst hw
  obtain ⟨p, l, e, s, m, args, below, meth, c, rfl, hx, hb, hml, hown, hts, hK, hN, hlk, hrt, hnm⟩ := C
  intro ls H locs hl hP hD hS
  refine W.widen hk hz ?_
  exact W.vret hx hb hrt (fun t ht hW => ⟨⟨rfl, f, by rw [ht]; exact hP, hD⟩, hS.F ht⟩) hS.2.2 hd hlk
theorem kx_call {p : Program} {l : Launch} {e : Env} {R : Room} {s : State} {m : MethodId} {args av : Array Value} {below : List Frame} {meth : Method} {c : Code} {H : Heap} {locs : List Loc} {Q : State → Prop} {ls : Array Slot} {st0 : List Value} {A0 : Nat → Prop} {q mc2 ms2 : Nat} {x0 : va_E} {x1 : Fa → va_E} {xn : Fa → va_W} (hr : va_Run p l e R s m args below meth c H locs k z mc2 ms2 (F0 m pc ls st0) rest (QK G (AK q x0 H.size) q x1 xn av) (AK q x0 H.size)) (hA : ∀ q, s.heap.size ≤ q → A0 q) (hP : va_P G.1 vwCl (c0 :: (ws ++ [(q, x0)])) H) (hD : va_D A0 (c0 :: (ws ++ [(q, x0)]))) (hS : va_S A0 s.heap H locs)
    (kk : ∀ (f : Fa) (H1 : Heap) (locs1 : List Loc), va_P G.1 vwCl (c0 :: (ws ++ ((q, x1 f) :: xn f))) H1 → va_D A0 (c0 :: (ws ++ ((q, x1 f) :: xn f))) → va_S A0 s.heap H1 locs1 → W p l e R s m args below meth c H1 locs1 (k + mc2) (z + ms2) Q (F0 m (pc + 3) ls rest)) : W p l e R s m args below meth c H locs k z Q (F0 m pc ls st0) := by
  have hF : ∀ a, AK q x0 H.size a → A0 a := fun a h => by
    rcases h with ⟨i, ee, h⟩ | h
    · have hi := (List.getElem?_eq_some_iff.mp h).1
      simp only [List.length_cons, List.length_nil] at hi
      rw [show i = 0 by omega] at h
      cases h
      have hg : (c0 :: (ws ++ [(q, x0)]))[ws.length + 1]? = some (q, x0) := by simp
      exact hD.2 _ _ hg
    · exact hA a (Nat.le_trans hS.1 h)
  intro T hT X
  obtain ⟨v, st₀, t, T', Lx, h0, X', hL, e1, e2, ⟨⟨hv, f, hP1, hD1⟩, hz, hk⟩, st⟩ := hr T hT X
  cases hv
  rw [h0] at hz hk
  obtain ⟨jP, jD⟩ := join_last (W0 := c0 :: ws) hP hD (fun a h1 h2 => by have := hk a h1 h2; exact this) hF hP1 hD1
  obtain ⟨t2, a1, b1⟩ := kk f T'.heap (locs ++ Lx) (by rw [e1]; exact jP) jD
    ⟨Nat.le_trans hS.1 (by rw [e1]; exact hz), fun a h1 h2 => by rw [e1, hk a (Nat.lt_of_lt_of_le h1 hS.1) (fun zz => h2 (hF a zz))]; exact hS.2.1 a h1 h2, fun a hq => by
      rcases List.mem_append.mp hq with h | h
      · exact hS.2.2 a h
      · exact hF _ (hL a h)⟩ T' rfl X'
  exact ⟨t2, st t2 a1, b1⟩
theorem roomK {h hc ny mc ms mc2 ms2 : Nat} (hR : h + 1 ≤ hc ∧ ny ≤ 21) : (RmK h mc2 ms2).frames + 1 ≤ (RmK hc mc ms).frames ∧ 8 + (ny + 11) + (RmK h mc2 ms2).locals ≤ (RmK hc mc ms).locals := by
  show h + 1 ≤ hc ∧ 8 + (ny + 11) + 40 * h ≤ 40 * hc
  omega
theorem last_P {q : Nat} {x0 : va_E} {H : Heap} {A0 : Nat → Prop} (hP : va_P G.1 vwCl (c0 :: (ws ++ [(q, x0)])) H) : va_P G.1 vwCl [(q, x0)] H := by
  intro i y hy
  have hi := (List.getElem?_eq_some_iff.mp hy).1
  simp only [List.length_cons, List.length_nil] at hi
  rw [show i = 0 by omega] at hy
  cases hy
  have hg : (c0 :: (ws ++ [(q, x0)]))[ws.length + 1]? = some (q, x0) := by simp
  exact hP _ _ hg

theorem k_call (C : KC cc own G n hc mc ms h0 e0 e1 wn V) {y : MethodName} {cy : ByteArray} {ny h2 idx q mc2 ms2 : Nat} {x0 : va_E} {x1 : Fa → va_E} {xn : Fa → va_W} {As st : List Value} (hd : decode cc pc = .ok (.invokespecial idx, 3)) (q1 : Cond.methodLink own idx y ∈ TB) (q2 : Cond.instanceMethod y ∈ TB) (q4 : Cond.initialized y.cls ∈ TB) (q5 : Cond.code y cy ny none ∈ TB) (hyn : y.name = "<init>") (hy : y.cls ≠ "java/lang/invoke/MethodHandle" ∧ y.cls ≠ "java/lang/invoke/VarHandle" ∧ (parseMethodDescriptor y.desc).map (fun d => d.parameters.length) = some As.length) (hR : h2 + 1 ≤ hc ∧ ny ≤ 21) (hM : ∀ l sz, MK l y cy ny h2 G sz q x0 As mc2 ms2 x1 xn) (hst : st = As.reverse ++ .ref q :: rest) (hr : (rest.map fun v => v.category).sum ≤ 8) (hk : k + mc2 ≤ mc) (hz : z + ms2 ≤ ms) (kk : ∀ f : Fa, V (c0 :: (ws ++ ((q, x1 f) :: xn f))) (k + mc2) (z + ms2) (pc + 3) L rest) : V (c0 :: (ws ++ [(q, x0)])) k z pc L st := by
  subst hst
  obtain ⟨p, l, e, s, m, args, below, meth, c, rfl, hx, hb, hml, hown, hts, hK, hN, hlk, hrt, hnm⟩ := C
  intro ls H locs hl hP hD hS
  exact kx_call (va_runI (As := As) (rest := rest) ⟨hx, hb, hml, hown, hts⟩ (hM l H.size) (cwI As.length hts (gB (gB1 q5)) rfl rfl rfl (hts _ q4) (hts _ q1) (hts _ q2) hyn hy (roomK hR)) ⟨PK.blind, fun U hU hW => ⟨rfl, by rw [hU], by rw [hU]; exact last_P (A0 := fun _ => True) hP, hK.moved hW.alike, hN.warm hW⟩⟩ rfl rfl hl.1 rfl (lv_room hr) hd ⟨hk, hz⟩) (fun a h => Or.inr h) hP hD hS (fun f H1 locs1 hP1 hD1 hS1 => kk f ls H1 locs1 hl hP1 hD1 hS1)
theorem k_callN (C : KC cc own G n hc mc ms h0 e0 e1 wn V) {y : MethodName} {cy : ByteArray} {ny h2 idx q mc2 ms2 : Nat} {x0 : va_E} {x1 : Fa → va_E} {xn : Fa → va_W} {As st : List Value} {host : String} (hd : decode cc pc = .ok (.invokespecial idx, 3)) (q1 : ∀ (G : Gv) (U : State), SK G U → va_Nw (.methodLinkNest own idx y host) U) (q2 : Cond.instanceMethod y ∈ TB) (q4 : Cond.initialized y.cls ∈ TB) (q5 : Cond.code y cy ny none ∈ TB) (hyn : y.name = "<init>") (hy : y.cls ≠ "java/lang/invoke/MethodHandle" ∧ y.cls ≠ "java/lang/invoke/VarHandle" ∧ (parseMethodDescriptor y.desc).map (fun d => d.parameters.length) = some As.length) (hR : h2 + 1 ≤ hc ∧ ny ≤ 21) (hM : ∀ l sz, MK l y cy ny h2 G sz q x0 As mc2 ms2 x1 xn) (hst : st = As.reverse ++ .ref q :: rest) (hr : (rest.map fun v => v.category).sum ≤ 8) (hk : k + mc2 ≤ mc) (hz : z + ms2 ≤ ms) (kk : ∀ f : Fa, V (c0 :: (ws ++ ((q, x1 f) :: xn f))) (k + mc2) (z + ms2) (pc + 3) L rest) : V (c0 :: (ws ++ [(q, x0)])) k z pc L st := by
  subst hst
  obtain ⟨p, l, e, s, m, args, below, meth, c, rfl, hx, hb, hml, hown, hts, hK, hN, hlk, hrt, hnm⟩ := C
  intro ls H locs hl hP hD hS
  exact kx_call (va_runIN (As := As) (rest := rest) ⟨hx, hb, hml, hown, hts⟩ (hM l H.size) ⟨va_cnB As.length hts (gB (gB1 q5)) rfl rfl rfl (q1 G s hN) (hts _ q4) hy (roomK hR), hyn, hts _ q2⟩ ⟨PK.blind, fun U hU hW => ⟨rfl, by rw [hU], by rw [hU]; exact last_P (A0 := fun _ => True) hP, hK.moved hW.alike, hN.warm hW⟩⟩ rfl rfl hl.1 rfl (lv_room hr) hd ⟨hk, hz⟩) (fun a h => Or.inr h) hP hD hS (fun f H1 locs1 hP1 hD1 hS1 => kk f ls H1 locs1 hl hP1 hD1 hS1)
end KT
theorem row_mm {n : Nat} (hn : n ≤ 1000) : mmax (nI n) 0 = nI n := by
  unfold mmax
  rw [if_neg (nI_pos (by omega))]
theorem row_mm0 {n : Nat} (hn : n ≤ 1000) : ¬ mmax (nI n) (0:Int32) < 0 := by
  rw [row_mm hn]
  exact nI_pos (by omega)
theorem row_mm1 {n : Nat} (hn : n ≤ 1000) : (mmax (nI n) (0:Int32)).toNatClampNeg = n := by
  rw [row_mm hn]
  exact nI_clamp (by omega)
def ke_X4 (G : Gv) (n : Nat) (f : Fa) : va_E := .inr (4, [.ref (f 0), .int 0])
def kw_X4 (G : Gv) (n : Nat) (f : Fa) : va_W := [(f 0, .inl (G.2 1001, n, .inl (fun _ => 0)))]
set_option maxRecDepth 100000 in
set_option maxHeartbeats 4000000 in
theorem k_X4 {G : Gv} (n : Nat) (h0 : Nat) (hn : n ≤ 1000) (l : Launch) (sz : Nat) : MK l yX4_init cX4_init 2 2 G sz h0 (.inr (4, [.null, .int 0])) [.int (nI n)] 1 n (ke_X4 G n) (kw_X4 G n) := by
  refine mk_of (by decide +kernel) rfl rfl (Nat.le_of_ble_eq_true rfl) rfl (fun V C => ?_) l sz
  refine k_aload_n (pc := 0) C dX4_init_0 rfl 0 rfl ?_
  refine k_objinit (pc := 1) C dX4_init_1 qlo_X4 (Nat.le_of_ble_eq_true rfl) ?_
  refine k_aload_n (pc := 4) C dX4_init_4 rfl 0 rfl ?_
  refine k_iload_n (pc := 5) C dX4_init_5 rfl 1 rfl ?_
  refine k_iconst (v := (0:Int32)) (pc := 6) C dX4_init_6 (by decide) ?_
  refine k_max (pc := 7) C dX4_init_7 ql_X4_7 (Nat.zero_le _) (Nat.zero_le _) (Nat.le_of_ble_eq_true rfl) ?_
  refine k_newa_int (N := n) (pc := 10) C dX4_init_10 (row_mm0 hn) (row_mm1 hn) (by omega) (Nat.le_refl _) (Nat.le_of_eq (Nat.zero_add n)) (fun q1 => ?_)
  refine k_putF (fs' := [.ref q1, .int 0]) (ci := 4) (j := 0) (ty := tyX4 0) (pc := 12) C tyX4 dX4_init_12 rfl inX4 (by decide) qf_X4_13 rfl tyX4_ok nmX4 rfl rfl (tyX4_ok 0 (by decide)) rfl rfl (Nat.le_of_ble_eq_true rfl) rfl ?_
  refine k_vret (pc := 15) C dX4_init_15 (Nat.le_refl _) (Nat.le_of_eq (Nat.zero_add n)) (fun i => [q1].getD i 0) ?_
  rfl
def ke_X5 (G : Gv) (f : Fa) : va_E := .inr (5, [.int 0, .int 0, .ref (f 0)])
def kw_X5 (G : Gv) (f : Fa) : va_W := [(f 0, .inl (G.2 1001, 40, .inl (fun _ => 0)))]
set_option maxRecDepth 100000 in
set_option maxHeartbeats 4000000 in
theorem k_X5 {G : Gv} (h0 : Nat) (l : Launch) (sz : Nat) : MK l yX5_init cX5_init 1 2 G sz h0 (.inr (5, [.int 0, .int 0, .null])) [] 1 40 (ke_X5 G) (kw_X5 G) := by
  refine mk_of (by decide +kernel) rfl rfl (Nat.le_of_ble_eq_true rfl) rfl (fun V C => ?_) l sz
  refine k_aload_n (pc := 0) C dX5_init_0 rfl 0 rfl ?_
  refine k_objinit (pc := 1) C dX5_init_1 qlo_X5 (Nat.le_of_ble_eq_true rfl) ?_
  refine k_aload_n (pc := 4) C dX5_init_4 rfl 0 rfl ?_
  refine k_bipush (v := (40:Int32)) (pc := 5) C dX5_init_5 (by decide) ?_
  refine k_newa_int (N := 40) (pc := 7) C dX5_init_7 (by decide) (by decide) (by decide) (Nat.le_of_ble_eq_true rfl) (Nat.le_of_ble_eq_true rfl) (fun q1 => ?_)
  refine k_putF (fs' := [.int 0, .int 0, .ref q1]) (ci := 5) (j := 2) (ty := tyX5 2) (pc := 9) C tyX5 dX5_init_9 rfl inX5 (by decide) qf_X5_9 rfl tyX5_ok nmX5 rfl rfl (tyX5_ok 2 (by decide)) rfl rfl (Nat.le_of_ble_eq_true rfl) rfl ?_
  refine k_vret (pc := 12) C dX5_init_12 (Nat.le_of_ble_eq_true rfl) (Nat.le_of_ble_eq_true rfl) (fun i => [q1].getD i 0) ?_
  rfl
def ke_X2 (G : Gv) (u : Int32) (f : Fa) : va_E := .inr (2, [.int u, .ref (f 0), .ref (f 2)])
def kw_X2 (G : Gv) (u : Int32) (f : Fa) : va_W := [(f 0, .inr (4, [.ref (f 1), .int 0])), (f 1, .inl (G.2 1001, 50, .inl (fun _ => 0))), (f 2, .inr (4, [.ref (f 3), .int 0])), (f 3, .inl (G.2 1001, 50, .inl (fun _ => 0)))]
set_option maxRecDepth 100000 in
set_option maxHeartbeats 4000000 in
theorem k_X2 {G : Gv} (u : Int32) (h0 : Nat) (l : Launch) (sz : Nat) : MK l yX2_init cX2_init 2 4 G sz h0 (.inr (2, [.int 0, .null, .null])) [.int u] 4 104 (ke_X2 G u) (kw_X2 G u) := by
  refine mk_of (by decide +kernel) rfl rfl (Nat.le_of_ble_eq_true rfl) rfl (fun V C => ?_) l sz
  refine k_aload_n (pc := 0) C dX2_init_0 rfl 0 rfl ?_
  refine k_objinit (pc := 1) C dX2_init_1 qlo_X2 (Nat.le_of_ble_eq_true rfl) ?_
  refine k_aload_n (pc := 4) C dX2_init_4 rfl 0 rfl ?_
  refine k_new (ci := 4) (fs := [.null, .int 0]) (pc := 5) C tyX4 dX2_init_5 qcl_X2_9 qin_X4 qn_X4 inX4 tyX4_ok rfl (fun j hj => by rcases (show j = 0 ∨ j = 1 by omega) with rfl | rfl <;> rfl) (Nat.le_of_ble_eq_true rfl) (Nat.le_of_ble_eq_true rfl) (fun q1 => ?_)
  refine k_dup (pc := 8) C dX2_init_8 rfl ?_
  refine k_bipush (v := (50:Int32)) (pc := 9) C dX2_init_9 (by decide) ?_
  refine k_call (As := [.int (50:Int32)]) (rest := [.ref q1, .ref h0]) (pc := 11) C dX2_init_11 ql_X2_11 qi_X4_init qn_X4 qc_X4_init rfl ⟨by decide +kernel, by decide +kernel, (by decide +kernel : (parseMethodDescriptor yX4_init.desc).map (fun d => d.parameters.length) = some 1)⟩ ⟨by decide, by decide⟩ (fun l sz => k_X4 (G := G) 50 q1 (by decide) l sz) rfl (Nat.le_of_ble_eq_true rfl) (Nat.le_of_ble_eq_true rfl) (Nat.le_of_ble_eq_true rfl) (fun f2 => ?_)
  refine k_putF (fs' := [.int 0, .ref q1, .null]) (ci := 2) (j := 1) (ty := tyX2 1) (pc := 14) C tyX2 dX2_init_14 rfl inX2 (by decide) qf_X2_14 rfl tyX2_ok nmX2 rfl rfl (tyX2_ok 1 (by decide)) rfl rfl (Nat.le_of_ble_eq_true rfl) rfl ?_
  refine k_aload_n (pc := 17) C dX2_init_17 rfl 0 rfl ?_
  refine k_new (ci := 4) (fs := [.null, .int 0]) (pc := 18) C tyX4 dX2_init_18 qcl_X2_9 qin_X4 qn_X4 inX4 tyX4_ok rfl (fun j hj => by rcases (show j = 0 ∨ j = 1 by omega) with rfl | rfl <;> rfl) (Nat.le_of_ble_eq_true rfl) (Nat.le_of_ble_eq_true rfl) (fun q3 => ?_)
  refine k_dup (pc := 21) C dX2_init_21 rfl ?_
  refine k_bipush (v := (50:Int32)) (pc := 22) C dX2_init_22 (by decide) ?_
  refine k_call (As := [.int (50:Int32)]) (rest := [.ref q3, .ref h0]) (pc := 24) C dX2_init_24 ql_X2_11 qi_X4_init qn_X4 qc_X4_init rfl ⟨by decide +kernel, by decide +kernel, (by decide +kernel : (parseMethodDescriptor yX4_init.desc).map (fun d => d.parameters.length) = some 1)⟩ ⟨by decide, by decide⟩ (fun l sz => k_X4 (G := G) 50 q3 (by decide) l sz) rfl (Nat.le_of_ble_eq_true rfl) (Nat.le_of_ble_eq_true rfl) (Nat.le_of_ble_eq_true rfl) (fun f4 => ?_)
  refine k_putF (fs' := [.int 0, .ref q1, .ref q3]) (ci := 2) (j := 2) (ty := tyX2 2) (pc := 27) C tyX2 dX2_init_27 rfl inX2 (by decide) qf_X2_20 rfl tyX2_ok nmX2 rfl rfl (tyX2_ok 2 (by decide)) rfl rfl (Nat.le_of_ble_eq_true rfl) rfl ?_
  refine k_aload_n (pc := 30) C dX2_init_30 rfl 0 rfl ?_
  refine k_iload_n (pc := 31) C dX2_init_31 rfl 1 rfl ?_
  refine k_putF (fs' := [.int u, .ref q1, .ref q3]) (ci := 2) (j := 0) (ty := tyX2 0) (pc := 32) C tyX2 dX2_init_32 rfl inX2 (by decide) qf_X2_23 rfl tyX2_ok nmX2 rfl rfl (tyX2_ok 0 (by decide)) rfl rfl (Nat.le_of_ble_eq_true rfl) rfl ?_
  refine k_vret (pc := 35) C dX2_init_35 (Nat.le_of_ble_eq_true rfl) (Nat.le_of_ble_eq_true rfl) (fun i => [q1, f2 0, q3, f4 0].getD i 0) ?_
  rfl
def ke_X6 (G : Gv) (f : Fa) : va_E := .inr (6, [.int 0, .ref (f 0), .ref (f 1), .ref (f 2), .ref (f 3), .int 0, .ref (f 4), .ref (f 5), .ref (f 6), .ref (f 7), .int 0, .int 0, .int 0])
def kw_X6 (G : Gv) (f : Fa) : va_W := [(f 0, .inl (G.2 1001, 5, .inl (fun _ => 0))), (f 1, .inl (G.2 1001, 5, .inl (fun _ => 0))), (f 2, .inl (G.2 1001, 5, .inl (fun _ => 0))), (f 3, .inl (G.2 1001, 5, .inl (fun _ => 0))), (f 4, .inl (G.2 1001, 6, .inl (fun _ => 0))), (f 5, .inl (G.2 1001, 6, .inl (fun _ => 0))), (f 6, .inl (G.2 1001, 6, .inl (fun _ => 0))), (f 7, .inl (G.2 1001, 6, .inl (fun _ => 0)))]
set_option maxRecDepth 100000 in
set_option maxHeartbeats 4000000 in
theorem k_X6 {G : Gv} (h0 : Nat) (l : Launch) (sz : Nat) : MK l yX6_init cX6_init 1 2 G sz h0 (.inr (6, [.int 0, .null, .null, .null, .null, .int 0, .null, .null, .null, .null, .int 0, .int 0, .int 0])) [] 8 44 (ke_X6 G) (kw_X6 G) := by
  refine mk_of (by decide +kernel) rfl rfl (Nat.le_of_ble_eq_true rfl) rfl (fun V C => ?_) l sz
  refine k_aload_n (pc := 0) C dX6_init_0 rfl 0 rfl ?_
  refine k_objinit (pc := 1) C dX6_init_1 qlo_X6 (Nat.le_of_ble_eq_true rfl) ?_
  refine k_aload_n (pc := 4) C dX6_init_4 rfl 0 rfl ?_
  refine k_iconst (v := (5:Int32)) (pc := 5) C dX6_init_5 (by decide) ?_
  refine k_newa_int (N := 5) (pc := 6) C dX6_init_6 (by decide) (by decide) (by decide) (Nat.le_of_ble_eq_true rfl) (Nat.le_of_ble_eq_true rfl) (fun q1 => ?_)
  refine k_putF (fs' := [.int 0, .ref q1, .null, .null, .null, .int 0, .null, .null, .null, .null, .int 0, .int 0, .int 0]) (ci := 6) (j := 1) (ty := tyX6 1) (pc := 8) C tyX6 dX6_init_8 rfl inX6 (by decide) qf_X6_9 rfl tyX6_ok nmX6 rfl rfl (tyX6_ok 1 (by decide)) rfl rfl (Nat.le_of_ble_eq_true rfl) rfl ?_
  refine k_aload_n (pc := 11) C dX6_init_11 rfl 0 rfl ?_
  refine k_iconst (v := (5:Int32)) (pc := 12) C dX6_init_12 (by decide) ?_
  refine k_newa_int (N := 5) (pc := 13) C dX6_init_13 (by decide) (by decide) (by decide) (Nat.le_of_ble_eq_true rfl) (Nat.le_of_ble_eq_true rfl) (fun q2 => ?_)
  refine k_putF (fs' := [.int 0, .ref q1, .ref q2, .null, .null, .int 0, .null, .null, .null, .null, .int 0, .int 0, .int 0]) (ci := 6) (j := 2) (ty := tyX6 2) (pc := 15) C tyX6 dX6_init_15 rfl inX6 (by decide) qf_X6_15 rfl tyX6_ok nmX6 rfl rfl (tyX6_ok 2 (by decide)) rfl rfl (Nat.le_of_ble_eq_true rfl) rfl ?_
  refine k_aload_n (pc := 18) C dX6_init_18 rfl 0 rfl ?_
  refine k_iconst (v := (5:Int32)) (pc := 19) C dX6_init_19 (by decide) ?_
  refine k_newa_int (N := 5) (pc := 20) C dX6_init_20 (by decide) (by decide) (by decide) (Nat.le_of_ble_eq_true rfl) (Nat.le_of_ble_eq_true rfl) (fun q3 => ?_)
  refine k_putF (fs' := [.int 0, .ref q1, .ref q2, .ref q3, .null, .int 0, .null, .null, .null, .null, .int 0, .int 0, .int 0]) (ci := 6) (j := 3) (ty := tyX6 3) (pc := 22) C tyX6 dX6_init_22 rfl inX6 (by decide) qf_X6_18 rfl tyX6_ok nmX6 rfl rfl (tyX6_ok 3 (by decide)) rfl rfl (Nat.le_of_ble_eq_true rfl) rfl ?_
  refine k_aload_n (pc := 25) C dX6_init_25 rfl 0 rfl ?_
  refine k_iconst (v := (5:Int32)) (pc := 26) C dX6_init_26 (by decide) ?_
  refine k_newa_int (N := 5) (pc := 27) C dX6_init_27 (by decide) (by decide) (by decide) (Nat.le_of_ble_eq_true rfl) (Nat.le_of_ble_eq_true rfl) (fun q4 => ?_)
  refine k_putF (fs' := [.int 0, .ref q1, .ref q2, .ref q3, .ref q4, .int 0, .null, .null, .null, .null, .int 0, .int 0, .int 0]) (ci := 6) (j := 4) (ty := tyX6 4) (pc := 29) C tyX6 dX6_init_29 rfl inX6 (by decide) qf_X6_21 rfl tyX6_ok nmX6 rfl rfl (tyX6_ok 4 (by decide)) rfl rfl (Nat.le_of_ble_eq_true rfl) rfl ?_
  refine k_aload_n (pc := 32) C dX6_init_32 rfl 0 rfl ?_
  refine k_bipush (v := (6:Int32)) (pc := 33) C dX6_init_33 (by decide) ?_
  refine k_newa_int (N := 6) (pc := 35) C dX6_init_35 (by decide) (by decide) (by decide) (Nat.le_of_ble_eq_true rfl) (Nat.le_of_ble_eq_true rfl) (fun q5 => ?_)
  refine k_putF (fs' := [.int 0, .ref q1, .ref q2, .ref q3, .ref q4, .int 0, .ref q5, .null, .null, .null, .int 0, .int 0, .int 0]) (ci := 6) (j := 6) (ty := tyX6 6) (pc := 37) C tyX6 dX6_init_37 rfl inX6 (by decide) qf_X6_24 rfl tyX6_ok nmX6 rfl rfl (tyX6_ok 6 (by decide)) rfl rfl (Nat.le_of_ble_eq_true rfl) rfl ?_
  refine k_aload_n (pc := 40) C dX6_init_40 rfl 0 rfl ?_
  refine k_bipush (v := (6:Int32)) (pc := 41) C dX6_init_41 (by decide) ?_
  refine k_newa_int (N := 6) (pc := 43) C dX6_init_43 (by decide) (by decide) (by decide) (Nat.le_of_ble_eq_true rfl) (Nat.le_of_ble_eq_true rfl) (fun q6 => ?_)
  refine k_putF (fs' := [.int 0, .ref q1, .ref q2, .ref q3, .ref q4, .int 0, .ref q5, .ref q6, .null, .null, .int 0, .int 0, .int 0]) (ci := 6) (j := 7) (ty := tyX6 7) (pc := 45) C tyX6 dX6_init_45 rfl inX6 (by decide) qf_X6_27 rfl tyX6_ok nmX6 rfl rfl (tyX6_ok 7 (by decide)) rfl rfl (Nat.le_of_ble_eq_true rfl) rfl ?_
  refine k_aload_n (pc := 48) C dX6_init_48 rfl 0 rfl ?_
  refine k_bipush (v := (6:Int32)) (pc := 49) C dX6_init_49 (by decide) ?_
  refine k_newa_int (N := 6) (pc := 51) C dX6_init_51 (by decide) (by decide) (by decide) (Nat.le_of_ble_eq_true rfl) (Nat.le_of_ble_eq_true rfl) (fun q7 => ?_)
  refine k_putF (fs' := [.int 0, .ref q1, .ref q2, .ref q3, .ref q4, .int 0, .ref q5, .ref q6, .ref q7, .null, .int 0, .int 0, .int 0]) (ci := 6) (j := 8) (ty := tyX6 8) (pc := 53) C tyX6 dX6_init_53 rfl inX6 (by decide) qf_X6_30 rfl tyX6_ok nmX6 rfl rfl (tyX6_ok 8 (by decide)) rfl rfl (Nat.le_of_ble_eq_true rfl) rfl ?_
  refine k_aload_n (pc := 56) C dX6_init_56 rfl 0 rfl ?_
  refine k_bipush (v := (6:Int32)) (pc := 57) C dX6_init_57 (by decide) ?_
  refine k_newa_int (N := 6) (pc := 59) C dX6_init_59 (by decide) (by decide) (by decide) (Nat.le_of_ble_eq_true rfl) (Nat.le_of_ble_eq_true rfl) (fun q8 => ?_)
  refine k_putF (fs' := [.int 0, .ref q1, .ref q2, .ref q3, .ref q4, .int 0, .ref q5, .ref q6, .ref q7, .ref q8, .int 0, .int 0, .int 0]) (ci := 6) (j := 9) (ty := tyX6 9) (pc := 61) C tyX6 dX6_init_61 rfl inX6 (by decide) qf_X6_33 rfl tyX6_ok nmX6 rfl rfl (tyX6_ok 9 (by decide)) rfl rfl (Nat.le_of_ble_eq_true rfl) rfl ?_
  refine k_vret (pc := 64) C dX6_init_64 (Nat.le_of_ble_eq_true rfl) (Nat.le_of_ble_eq_true rfl) (fun i => [q1, q2, q3, q4, q5, q6, q7, q8].getD i 0) ?_
  rfl
def ke_X0 (G : Gv) (f : Fa) : va_E := .inr (0, [.ref (f 0), .ref (f 9), .ref (f 14), .ref (f 19), .ref (f 21), .int 1])
def kw_X0 (G : Gv) (f : Fa) : va_W := [(f 0, .inr (6, [.int 0, .ref (f 1), .ref (f 2), .ref (f 3), .ref (f 4), .int 0, .ref (f 5), .ref (f 6), .ref (f 7), .ref (f 8), .int 0, .int 0, .int 0])), (f 1, .inl (G.2 1001, 5, .inl (fun _ => 0))), (f 2, .inl (G.2 1001, 5, .inl (fun _ => 0))), (f 3, .inl (G.2 1001, 5, .inl (fun _ => 0))), (f 4, .inl (G.2 1001, 5, .inl (fun _ => 0))), (f 5, .inl (G.2 1001, 6, .inl (fun _ => 0))), (f 6, .inl (G.2 1001, 6, .inl (fun _ => 0))), (f 7, .inl (G.2 1001, 6, .inl (fun _ => 0))), (f 8, .inl (G.2 1001, 6, .inl (fun _ => 0))), (f 9, .inr (2, [.int 0, .ref (f 10), .ref (f 12)])), (f 10, .inr (4, [.ref (f 11), .int 0])), (f 11, .inl (G.2 1001, 50, .inl (fun _ => 0))), (f 12, .inr (4, [.ref (f 13), .int 0])), (f 13, .inl (G.2 1001, 50, .inl (fun _ => 0))), (f 14, .inr (2, [.int 1, .ref (f 15), .ref (f 17)])), (f 15, .inr (4, [.ref (f 16), .int 0])), (f 16, .inl (G.2 1001, 50, .inl (fun _ => 0))), (f 17, .inr (4, [.ref (f 18), .int 0])), (f 18, .inl (G.2 1001, 50, .inl (fun _ => 0))), (f 19, .inr (4, [.ref (f 20), .int 0])), (f 20, .inl (G.2 1001, 50, .inl (fun _ => 0))), (f 21, .inr (4, [.ref (f 22), .int 0])), (f 22, .inl (G.2 1001, 20, .inl (fun _ => 0)))]
set_option maxRecDepth 100000 in
set_option maxHeartbeats 4000000 in
theorem k_X0 {G : Gv} (h0 : Nat) (l : Launch) (sz : Nat) : MK l yX0_init cX0_init 1 6 G sz h0 (.inr (0, [.null, .null, .null, .null, .null, .int 0])) [] 23 345 (ke_X0 G) (kw_X0 G) := by
  refine mk_of (by decide +kernel) rfl rfl (Nat.le_of_ble_eq_true rfl) rfl (fun V C => ?_) l sz
  refine k_aload_n (pc := 0) C dX0_init_0 rfl 0 rfl ?_
  refine k_objinit (pc := 1) C dX0_init_1 qlo_X0 (Nat.le_of_ble_eq_true rfl) ?_
  refine k_aload_n (pc := 4) C dX0_init_4 rfl 0 rfl ?_
  refine k_new (ci := 6) (fs := [.int 0, .null, .null, .null, .null, .int 0, .null, .null, .null, .null, .int 0, .int 0, .int 0]) (pc := 5) C tyX6 dX0_init_5 qcl_X0_9 qin_X6 qn_X6 inX6 tyX6_ok rfl (fun j hj => by rcases (show j = 0 ∨ j = 1 ∨ j = 2 ∨ j = 3 ∨ j = 4 ∨ j = 5 ∨ j = 6 ∨ j = 7 ∨ j = 8 ∨ j = 9 ∨ j = 10 ∨ j = 11 ∨ j = 12 by omega) with rfl | rfl | rfl | rfl | rfl | rfl | rfl | rfl | rfl | rfl | rfl | rfl | rfl <;> rfl) (Nat.le_of_ble_eq_true rfl) (Nat.le_of_ble_eq_true rfl) (fun q1 => ?_)
  refine k_dup (pc := 8) C dX0_init_8 rfl ?_
  refine k_callN (As := []) (rest := [.ref q1, .ref h0]) (pc := 9) C dX0_init_9 (fun _ _ h => h.2.2.2.1) qi_X6_init qn_X6 qc_X6_init rfl ⟨by decide +kernel, by decide +kernel, (by decide +kernel : (parseMethodDescriptor yX6_init.desc).map (fun d => d.parameters.length) = some 0)⟩ ⟨by decide, by decide⟩ (fun l sz => k_X6 (G := G) q1 l sz) rfl (Nat.le_of_ble_eq_true rfl) (Nat.le_of_ble_eq_true rfl) (Nat.le_of_ble_eq_true rfl) (fun f2 => ?_)
  refine k_putF (fs' := [.ref q1, .null, .null, .null, .null, .int 0]) (ci := 0) (j := 0) (ty := tyX0 0) (pc := 12) C tyX0 dX0_init_12 rfl inX0 (by decide) qf_X0_12 rfl tyX0_ok nmX0 rfl rfl (tyX0_ok 0 (by decide)) rfl rfl (Nat.le_of_ble_eq_true rfl) rfl ?_
  refine k_aload_n (pc := 15) C dX0_init_15 rfl 0 rfl ?_
  refine k_new (ci := 2) (fs := [.int 0, .null, .null]) (pc := 16) C tyX2 dX0_init_16 qcl_X0_18 qin_X2 qn_X2 inX2 tyX2_ok rfl (fun j hj => by rcases (show j = 0 ∨ j = 1 ∨ j = 2 by omega) with rfl | rfl | rfl <;> rfl) (Nat.le_of_ble_eq_true rfl) (Nat.le_of_ble_eq_true rfl) (fun q3 => ?_)
  refine k_dup (pc := 19) C dX0_init_19 rfl ?_
  refine k_iconst (v := (0:Int32)) (pc := 20) C dX0_init_20 (by decide) ?_
  refine k_call (As := [.int (0:Int32)]) (rest := [.ref q3, .ref h0]) (pc := 21) C dX0_init_21 ql_X0_20 qi_X2_init qn_X2 qc_X2_init rfl ⟨by decide +kernel, by decide +kernel, (by decide +kernel : (parseMethodDescriptor yX2_init.desc).map (fun d => d.parameters.length) = some 1)⟩ ⟨by decide, by decide⟩ (fun l sz => k_X2 (G := G) (0:Int32) q3 l sz) rfl (Nat.le_of_ble_eq_true rfl) (Nat.le_of_ble_eq_true rfl) (Nat.le_of_ble_eq_true rfl) (fun f4 => ?_)
  refine k_putF (fs' := [.ref q1, .ref q3, .null, .null, .null, .int 0]) (ci := 0) (j := 1) (ty := tyX0 1) (pc := 24) C tyX0 dX0_init_24 rfl inX0 (by decide) qf_X0_23 rfl tyX0_ok nmX0 rfl rfl (tyX0_ok 1 (by decide)) rfl rfl (Nat.le_of_ble_eq_true rfl) rfl ?_
  refine k_aload_n (pc := 27) C dX0_init_27 rfl 0 rfl ?_
  refine k_new (ci := 2) (fs := [.int 0, .null, .null]) (pc := 28) C tyX2 dX0_init_28 qcl_X0_18 qin_X2 qn_X2 inX2 tyX2_ok rfl (fun j hj => by rcases (show j = 0 ∨ j = 1 ∨ j = 2 by omega) with rfl | rfl | rfl <;> rfl) (Nat.le_of_ble_eq_true rfl) (Nat.le_of_ble_eq_true rfl) (fun q5 => ?_)
  refine k_dup (pc := 31) C dX0_init_31 rfl ?_
  refine k_iconst (v := (1:Int32)) (pc := 32) C dX0_init_32 (by decide) ?_
  refine k_call (As := [.int (1:Int32)]) (rest := [.ref q5, .ref h0]) (pc := 33) C dX0_init_33 ql_X0_20 qi_X2_init qn_X2 qc_X2_init rfl ⟨by decide +kernel, by decide +kernel, (by decide +kernel : (parseMethodDescriptor yX2_init.desc).map (fun d => d.parameters.length) = some 1)⟩ ⟨by decide, by decide⟩ (fun l sz => k_X2 (G := G) (1:Int32) q5 l sz) rfl (Nat.le_of_ble_eq_true rfl) (Nat.le_of_ble_eq_true rfl) (Nat.le_of_ble_eq_true rfl) (fun f6 => ?_)
  refine k_putF (fs' := [.ref q1, .ref q3, .ref q5, .null, .null, .int 0]) (ci := 0) (j := 2) (ty := tyX0 2) (pc := 36) C tyX0 dX0_init_36 rfl inX0 (by decide) qf_X0_27 rfl tyX0_ok nmX0 rfl rfl (tyX0_ok 2 (by decide)) rfl rfl (Nat.le_of_ble_eq_true rfl) rfl ?_
  refine k_aload_n (pc := 39) C dX0_init_39 rfl 0 rfl ?_
  refine k_new (ci := 4) (fs := [.null, .int 0]) (pc := 40) C tyX4 dX0_init_40 qcl_X0_30 qin_X4 qn_X4 inX4 tyX4_ok rfl (fun j hj => by rcases (show j = 0 ∨ j = 1 by omega) with rfl | rfl <;> rfl) (Nat.le_of_ble_eq_true rfl) (Nat.le_of_ble_eq_true rfl) (fun q7 => ?_)
  refine k_dup (pc := 43) C dX0_init_43 rfl ?_
  refine k_bipush (v := (50:Int32)) (pc := 44) C dX0_init_44 (by decide) ?_
  refine k_call (As := [.int (50:Int32)]) (rest := [.ref q7, .ref h0]) (pc := 46) C dX0_init_46 ql_X0_32 qi_X4_init qn_X4 qc_X4_init rfl ⟨by decide +kernel, by decide +kernel, (by decide +kernel : (parseMethodDescriptor yX4_init.desc).map (fun d => d.parameters.length) = some 1)⟩ ⟨by decide, by decide⟩ (fun l sz => k_X4 (G := G) 50 q7 (by decide) l sz) rfl (Nat.le_of_ble_eq_true rfl) (Nat.le_of_ble_eq_true rfl) (Nat.le_of_ble_eq_true rfl) (fun f8 => ?_)
  refine k_putF (fs' := [.ref q1, .ref q3, .ref q5, .ref q7, .null, .int 0]) (ci := 0) (j := 3) (ty := tyX0 3) (pc := 49) C tyX0 dX0_init_49 rfl inX0 (by decide) qf_X0_33 rfl tyX0_ok nmX0 rfl rfl (tyX0_ok 3 (by decide)) rfl rfl (Nat.le_of_ble_eq_true rfl) rfl ?_
  refine k_aload_n (pc := 52) C dX0_init_52 rfl 0 rfl ?_
  refine k_new (ci := 4) (fs := [.null, .int 0]) (pc := 53) C tyX4 dX0_init_53 qcl_X0_30 qin_X4 qn_X4 inX4 tyX4_ok rfl (fun j hj => by rcases (show j = 0 ∨ j = 1 by omega) with rfl | rfl <;> rfl) (Nat.le_of_ble_eq_true rfl) (Nat.le_of_ble_eq_true rfl) (fun q9 => ?_)
  refine k_dup (pc := 56) C dX0_init_56 rfl ?_
  refine k_bipush (v := (20:Int32)) (pc := 57) C dX0_init_57 (by decide) ?_
  refine k_call (As := [.int (20:Int32)]) (rest := [.ref q9, .ref h0]) (pc := 59) C dX0_init_59 ql_X0_32 qi_X4_init qn_X4 qc_X4_init rfl ⟨by decide +kernel, by decide +kernel, (by decide +kernel : (parseMethodDescriptor yX4_init.desc).map (fun d => d.parameters.length) = some 1)⟩ ⟨by decide, by decide⟩ (fun l sz => k_X4 (G := G) 20 q9 (by decide) l sz) rfl (Nat.le_of_ble_eq_true rfl) (Nat.le_of_ble_eq_true rfl) (Nat.le_of_ble_eq_true rfl) (fun f10 => ?_)
  refine k_putF (fs' := [.ref q1, .ref q3, .ref q5, .ref q7, .ref q9, .int 0]) (ci := 0) (j := 4) (ty := tyX0 4) (pc := 62) C tyX0 dX0_init_62 rfl inX0 (by decide) qf_X0_37 rfl tyX0_ok nmX0 rfl rfl (tyX0_ok 4 (by decide)) rfl rfl (Nat.le_of_ble_eq_true rfl) rfl ?_
  refine k_aload_n (pc := 65) C dX0_init_65 rfl 0 rfl ?_
  refine k_iconst (v := (1:Int32)) (pc := 66) C dX0_init_66 (by decide) ?_
  refine k_put (fs' := [.ref q1, .ref q3, .ref q5, .ref q7, .ref q9, .int (1:Int32)]) (ci := 0) (j := 5) (ty := tyX0 5) (pc := 67) C tyX0 dX0_init_67 rfl inX0 (by decide) qf_X0_40 rfl tyX0_ok nmX0 rfl rfl (tyX0_ok 5 (by decide)) rfl rfl (Nat.le_of_ble_eq_true rfl) rfl ?_
  refine k_vret (pc := 70) C dX0_init_70 (Nat.le_of_ble_eq_true rfl) (Nat.le_of_ble_eq_true rfl) (fun i => [q1, f2 0, f2 1, f2 2, f2 3, f2 4, f2 5, f2 6, f2 7, q3, f4 0, f4 1, f4 2, f4 3, q5, f6 0, f6 1, f6 2, f6 3, q7, f8 0, q9, f10 0].getD i 0) ?_
  rfl
def ke_X1 (G : Gv) (f : Fa) : va_E := .inr (1, [.ref (f 0), .ref (f 1), .ref (f 2), .ref (f 3), .ref (f 4), .int 0, .int 0, .int 0])
def kw_X1 (G : Gv) (f : Fa) : va_W := [(f 0, .inl (G.2 1001, 5, .inl (fun _ => 0))), (f 1, .inl (G.2 1001, 5, .inl (fun _ => 0))), (f 2, .inl (G.2 1001, 5, .inl (fun _ => 0))), (f 3, .inl (G.2 1002, 5, .inl (fun _ => 0))), (f 4, .inl (G.2 1001, 6, .inl (fun _ => 0)))]
set_option maxRecDepth 100000 in
set_option maxHeartbeats 4000000 in
theorem k_X1 {G : Gv} (h0 : Nat) (l : Launch) (sz : Nat) : MK l yX1_init cX1_init 1 2 G sz h0 (.inr (1, [.null, .null, .null, .null, .null, .int 0, .int 0, .int 0])) [] 5 26 (ke_X1 G) (kw_X1 G) := by
  refine mk_of (by decide +kernel) rfl rfl (Nat.le_of_ble_eq_true rfl) rfl (fun V C => ?_) l sz
  refine k_aload_n (pc := 0) C dX1_init_0 rfl 0 rfl ?_
  refine k_objinit (pc := 1) C dX1_init_1 qlo_X1 (Nat.le_of_ble_eq_true rfl) ?_
  refine k_aload_n (pc := 4) C dX1_init_4 rfl 0 rfl ?_
  refine k_iconst (v := (5:Int32)) (pc := 5) C dX1_init_5 (by decide) ?_
  refine k_newa_int (N := 5) (pc := 6) C dX1_init_6 (by decide) (by decide) (by decide) (Nat.le_of_ble_eq_true rfl) (Nat.le_of_ble_eq_true rfl) (fun q1 => ?_)
  refine k_putF (fs' := [.ref q1, .null, .null, .null, .null, .int 0, .int 0, .int 0]) (ci := 1) (j := 0) (ty := tyX1 0) (pc := 8) C tyX1 dX1_init_8 rfl inX1 (by decide) qf_X1_9 rfl tyX1_ok nmX1 rfl rfl (tyX1_ok 0 (by decide)) rfl rfl (Nat.le_of_ble_eq_true rfl) rfl ?_
  refine k_aload_n (pc := 11) C dX1_init_11 rfl 0 rfl ?_
  refine k_iconst (v := (5:Int32)) (pc := 12) C dX1_init_12 (by decide) ?_
  refine k_newa_int (N := 5) (pc := 13) C dX1_init_13 (by decide) (by decide) (by decide) (Nat.le_of_ble_eq_true rfl) (Nat.le_of_ble_eq_true rfl) (fun q2 => ?_)
  refine k_putF (fs' := [.ref q1, .ref q2, .null, .null, .null, .int 0, .int 0, .int 0]) (ci := 1) (j := 1) (ty := tyX1 1) (pc := 15) C tyX1 dX1_init_15 rfl inX1 (by decide) qf_X1_15 rfl tyX1_ok nmX1 rfl rfl (tyX1_ok 1 (by decide)) rfl rfl (Nat.le_of_ble_eq_true rfl) rfl ?_
  refine k_aload_n (pc := 18) C dX1_init_18 rfl 0 rfl ?_
  refine k_iconst (v := (5:Int32)) (pc := 19) C dX1_init_19 (by decide) ?_
  refine k_newa_int (N := 5) (pc := 20) C dX1_init_20 (by decide) (by decide) (by decide) (Nat.le_of_ble_eq_true rfl) (Nat.le_of_ble_eq_true rfl) (fun q3 => ?_)
  refine k_putF (fs' := [.ref q1, .ref q2, .ref q3, .null, .null, .int 0, .int 0, .int 0]) (ci := 1) (j := 2) (ty := tyX1 2) (pc := 22) C tyX1 dX1_init_22 rfl inX1 (by decide) qf_X1_18 rfl tyX1_ok nmX1 rfl rfl (tyX1_ok 2 (by decide)) rfl rfl (Nat.le_of_ble_eq_true rfl) rfl ?_
  refine k_aload_n (pc := 25) C dX1_init_25 rfl 0 rfl ?_
  refine k_iconst (v := (5:Int32)) (pc := 26) C dX1_init_26 (by decide) ?_
  refine k_newa_boolean (N := 5) (pc := 27) C dX1_init_27 (by decide) (by decide) (by decide) (Nat.le_of_ble_eq_true rfl) (Nat.le_of_ble_eq_true rfl) (fun q4 => ?_)
  refine k_putF (fs' := [.ref q1, .ref q2, .ref q3, .ref q4, .null, .int 0, .int 0, .int 0]) (ci := 1) (j := 3) (ty := tyX1 3) (pc := 29) C tyX1 dX1_init_29 rfl inX1 (by decide) qf_X1_21 rfl tyX1_ok nmX1 rfl rfl (tyX1_ok 3 (by decide)) rfl rfl (Nat.le_of_ble_eq_true rfl) rfl ?_
  refine k_aload_n (pc := 32) C dX1_init_32 rfl 0 rfl ?_
  refine k_bipush (v := (6:Int32)) (pc := 33) C dX1_init_33 (by decide) ?_
  refine k_newa_int (N := 6) (pc := 35) C dX1_init_35 (by decide) (by decide) (by decide) (Nat.le_of_ble_eq_true rfl) (Nat.le_of_ble_eq_true rfl) (fun q5 => ?_)
  refine k_putF (fs' := [.ref q1, .ref q2, .ref q3, .ref q4, .ref q5, .int 0, .int 0, .int 0]) (ci := 1) (j := 4) (ty := tyX1 4) (pc := 37) C tyX1 dX1_init_37 rfl inX1 (by decide) qf_X1_25 rfl tyX1_ok nmX1 rfl rfl (tyX1_ok 4 (by decide)) rfl rfl (Nat.le_of_ble_eq_true rfl) rfl ?_
  refine k_vret (pc := 40) C dX1_init_40 (Nat.le_of_ble_eq_true rfl) (Nat.le_of_ble_eq_true rfl) (fun i => [q1, q2, q3, q4, q5].getD i 0) ?_
  rfl
def ke_X3 (G : Gv) (f : Fa) : va_E := .inr (3, [.ref (f 0), .int 0, .ref (f 2), .ref (G.2 1004)])
def kw_X3 (G : Gv) (f : Fa) : va_W := [(f 0, .inr (4, [.ref (f 1), .int 0])), (f 1, .inl (G.2 1001, 50, .inl (fun _ => 0))), (f 2, .inr (4, [.ref (f 3), .int 0])), (f 3, .inl (G.2 1001, 50, .inl (fun _ => 0)))]
set_option maxRecDepth 100000 in
set_option maxHeartbeats 4000000 in
theorem k_X3 {G : Gv} (h0 : Nat) (l : Launch) (sz : Nat) : MK l yX3_init cX3_init 1 4 G sz h0 (.inr (3, [.null, .int 0, .null, .null])) [] 4 104 (ke_X3 G) (kw_X3 G) := by
  refine mk_of (by decide +kernel) rfl rfl (Nat.le_of_ble_eq_true rfl) rfl (fun V C => ?_) l sz
  refine k_aload_n (pc := 0) C dX3_init_0 rfl 0 rfl ?_
  refine k_objinit (pc := 1) C dX3_init_1 qlo_X3 (Nat.le_of_ble_eq_true rfl) ?_
  refine k_aload_n (pc := 4) C dX3_init_4 rfl 0 rfl ?_
  refine k_new (ci := 4) (fs := [.null, .int 0]) (pc := 5) C tyX4 dX3_init_5 qcl_X3_9 qin_X4 qn_X4 inX4 tyX4_ok rfl (fun j hj => by rcases (show j = 0 ∨ j = 1 by omega) with rfl | rfl <;> rfl) (Nat.le_of_ble_eq_true rfl) (Nat.le_of_ble_eq_true rfl) (fun q1 => ?_)
  refine k_dup (pc := 8) C dX3_init_8 rfl ?_
  refine k_bipush (v := (50:Int32)) (pc := 9) C dX3_init_9 (by decide) ?_
  refine k_call (As := [.int (50:Int32)]) (rest := [.ref q1, .ref h0]) (pc := 11) C dX3_init_11 ql_X3_11 qi_X4_init qn_X4 qc_X4_init rfl ⟨by decide +kernel, by decide +kernel, (by decide +kernel : (parseMethodDescriptor yX4_init.desc).map (fun d => d.parameters.length) = some 1)⟩ ⟨by decide, by decide⟩ (fun l sz => k_X4 (G := G) 50 q1 (by decide) l sz) rfl (Nat.le_of_ble_eq_true rfl) (Nat.le_of_ble_eq_true rfl) (Nat.le_of_ble_eq_true rfl) (fun f2 => ?_)
  refine k_putF (fs' := [.ref q1, .int 0, .null, .null]) (ci := 3) (j := 0) (ty := tyX3 0) (pc := 14) C tyX3 dX3_init_14 rfl inX3 (by decide) qf_X3_14 rfl tyX3_ok nmX3 rfl rfl (tyX3_ok 0 (by decide)) rfl rfl (Nat.le_of_ble_eq_true rfl) rfl ?_
  refine k_aload_n (pc := 17) C dX3_init_17 rfl 0 rfl ?_
  refine k_new (ci := 4) (fs := [.null, .int 0]) (pc := 18) C tyX4 dX3_init_18 qcl_X3_9 qin_X4 qn_X4 inX4 tyX4_ok rfl (fun j hj => by rcases (show j = 0 ∨ j = 1 by omega) with rfl | rfl <;> rfl) (Nat.le_of_ble_eq_true rfl) (Nat.le_of_ble_eq_true rfl) (fun q3 => ?_)
  refine k_dup (pc := 21) C dX3_init_21 rfl ?_
  refine k_bipush (v := (50:Int32)) (pc := 22) C dX3_init_22 (by decide) ?_
  refine k_call (As := [.int (50:Int32)]) (rest := [.ref q3, .ref h0]) (pc := 24) C dX3_init_24 ql_X3_11 qi_X4_init qn_X4 qc_X4_init rfl ⟨by decide +kernel, by decide +kernel, (by decide +kernel : (parseMethodDescriptor yX4_init.desc).map (fun d => d.parameters.length) = some 1)⟩ ⟨by decide, by decide⟩ (fun l sz => k_X4 (G := G) 50 q3 (by decide) l sz) rfl (Nat.le_of_ble_eq_true rfl) (Nat.le_of_ble_eq_true rfl) (Nat.le_of_ble_eq_true rfl) (fun f4 => ?_)
  refine k_putF (fs' := [.ref q1, .int 0, .ref q3, .null]) (ci := 3) (j := 2) (ty := tyX3 2) (pc := 27) C tyX3 dX3_init_27 rfl inX3 (by decide) qf_X3_20 rfl tyX3_ok nmX3 rfl rfl (tyX3_ok 2 (by decide)) rfl rfl (Nat.le_of_ble_eq_true rfl) rfl ?_
  refine k_aload_n (pc := 30) C dX3_init_30 rfl 0 rfl ?_
  refine k_ldcS (pc := 31) C dX3_init_31 ?_
  refine k_put (fs' := [.ref q1, .int 0, .ref q3, .ref (G.2 1004)]) (ci := 3) (j := 3) (ty := tyX3 3) (pc := 33) C tyX3 dX3_init_33 rfl inX3 (by decide) qf_X3_25 rfl tyX3_ok nmX3 rfl rfl (tyX3_ok 3 (by decide)) rfl rfl (Nat.le_of_ble_eq_true rfl) rfl ?_
  refine k_vret (pc := 36) C dX3_init_36 (Nat.le_of_ble_eq_true rfl) (Nat.le_of_ble_eq_true rfl) (fun i => [q1, f2 0, q3, f4 0].getD i 0) ?_
  rfl
def ke_X7 (G : Gv) (f : Fa) : va_E := .inr (7, [.ref (f 0), .int 0, .int 0, .int 0])
def kw_X7 (G : Gv) (f : Fa) : va_W := [(f 0, .inr (4, [.ref (f 1), .int 0])), (f 1, .inl (G.2 1001, 40, .inl (fun _ => 0)))]
set_option maxRecDepth 100000 in
set_option maxHeartbeats 4000000 in
theorem k_X7 {G : Gv} (h0 : Nat) (l : Launch) (sz : Nat) : MK l yX7_init cX7_init 1 4 G sz h0 (.inr (7, [.null, .int 0, .int 0, .int 0])) [] 2 42 (ke_X7 G) (kw_X7 G) := by
  refine mk_of (by decide +kernel) rfl rfl (Nat.le_of_ble_eq_true rfl) rfl (fun V C => ?_) l sz
  refine k_aload_n (pc := 0) C dX7_init_0 rfl 0 rfl ?_
  refine k_objinit (pc := 1) C dX7_init_1 qlo_X7 (Nat.le_of_ble_eq_true rfl) ?_
  refine k_aload_n (pc := 4) C dX7_init_4 rfl 0 rfl ?_
  refine k_new (ci := 4) (fs := [.null, .int 0]) (pc := 5) C tyX4 dX7_init_5 qcl_X7_9 qin_X4 qn_X4 inX4 tyX4_ok rfl (fun j hj => by rcases (show j = 0 ∨ j = 1 by omega) with rfl | rfl <;> rfl) (Nat.le_of_ble_eq_true rfl) (Nat.le_of_ble_eq_true rfl) (fun q1 => ?_)
  refine k_dup (pc := 8) C dX7_init_8 rfl ?_
  refine k_bipush (v := (40:Int32)) (pc := 9) C dX7_init_9 (by decide) ?_
  refine k_call (As := [.int (40:Int32)]) (rest := [.ref q1, .ref h0]) (pc := 11) C dX7_init_11 ql_X7_11 qi_X4_init qn_X4 qc_X4_init rfl ⟨by decide +kernel, by decide +kernel, (by decide +kernel : (parseMethodDescriptor yX4_init.desc).map (fun d => d.parameters.length) = some 1)⟩ ⟨by decide, by decide⟩ (fun l sz => k_X4 (G := G) 40 q1 (by decide) l sz) rfl (Nat.le_of_ble_eq_true rfl) (Nat.le_of_ble_eq_true rfl) (Nat.le_of_ble_eq_true rfl) (fun f2 => ?_)
  refine k_putF (fs' := [.ref q1, .int 0, .int 0, .int 0]) (ci := 7) (j := 0) (ty := tyX7 0) (pc := 14) C tyX7 dX7_init_14 rfl inX7 (by decide) qf_X7_14 rfl tyX7_ok nmX7 rfl rfl (tyX7_ok 0 (by decide)) rfl rfl (Nat.le_of_ble_eq_true rfl) rfl ?_
  refine k_vret (pc := 17) C dX7_init_17 (Nat.le_of_ble_eq_true rfl) (Nat.le_of_ble_eq_true rfl) (fun i => [q1, f2 0].getD i 0) ?_
  rfl
def ke_X8 (G : Gv) (f : Fa) : va_E := .inr (8, [.ref (f 0), .ref (f 24), .ref (f 48), .ref (f 57), .ref (f 63), .ref (f 68), .ref (f 71), .ref (f 80), .ref (f 81), .int 0])
def kw_X8 (G : Gv) (f : Fa) : va_W := [(f 0, .inr (0, [.ref (f 1), .ref (f 10), .ref (f 15), .ref (f 20), .ref (f 22), .int 1])), (f 1, .inr (6, [.int 0, .ref (f 2), .ref (f 3), .ref (f 4), .ref (f 5), .int 0, .ref (f 6), .ref (f 7), .ref (f 8), .ref (f 9), .int 0, .int 0, .int 0])), (f 2, .inl (G.2 1001, 5, .inl (fun _ => 0))), (f 3, .inl (G.2 1001, 5, .inl (fun _ => 0))), (f 4, .inl (G.2 1001, 5, .inl (fun _ => 0))), (f 5, .inl (G.2 1001, 5, .inl (fun _ => 0))), (f 6, .inl (G.2 1001, 6, .inl (fun _ => 0))), (f 7, .inl (G.2 1001, 6, .inl (fun _ => 0))), (f 8, .inl (G.2 1001, 6, .inl (fun _ => 0))), (f 9, .inl (G.2 1001, 6, .inl (fun _ => 0))), (f 10, .inr (2, [.int 0, .ref (f 11), .ref (f 13)])), (f 11, .inr (4, [.ref (f 12), .int 0])), (f 12, .inl (G.2 1001, 50, .inl (fun _ => 0))), (f 13, .inr (4, [.ref (f 14), .int 0])), (f 14, .inl (G.2 1001, 50, .inl (fun _ => 0))), (f 15, .inr (2, [.int 1, .ref (f 16), .ref (f 18)])), (f 16, .inr (4, [.ref (f 17), .int 0])), (f 17, .inl (G.2 1001, 50, .inl (fun _ => 0))), (f 18, .inr (4, [.ref (f 19), .int 0])), (f 19, .inl (G.2 1001, 50, .inl (fun _ => 0))), (f 20, .inr (4, [.ref (f 21), .int 0])), (f 21, .inl (G.2 1001, 50, .inl (fun _ => 0))), (f 22, .inr (4, [.ref (f 23), .int 0])), (f 23, .inl (G.2 1001, 20, .inl (fun _ => 0))), (f 24, .inr (0, [.ref (f 25), .ref (f 34), .ref (f 39), .ref (f 44), .ref (f 46), .int 1])), (f 25, .inr (6, [.int 0, .ref (f 26), .ref (f 27), .ref (f 28), .ref (f 29), .int 0, .ref (f 30), .ref (f 31), .ref (f 32), .ref (f 33), .int 0, .int 0, .int 0])), (f 26, .inl (G.2 1001, 5, .inl (fun _ => 0))), (f 27, .inl (G.2 1001, 5, .inl (fun _ => 0))), (f 28, .inl (G.2 1001, 5, .inl (fun _ => 0))), (f 29, .inl (G.2 1001, 5, .inl (fun _ => 0))), (f 30, .inl (G.2 1001, 6, .inl (fun _ => 0))), (f 31, .inl (G.2 1001, 6, .inl (fun _ => 0))), (f 32, .inl (G.2 1001, 6, .inl (fun _ => 0))), (f 33, .inl (G.2 1001, 6, .inl (fun _ => 0))), (f 34, .inr (2, [.int 0, .ref (f 35), .ref (f 37)])), (f 35, .inr (4, [.ref (f 36), .int 0])), (f 36, .inl (G.2 1001, 50, .inl (fun _ => 0))), (f 37, .inr (4, [.ref (f 38), .int 0])), (f 38, .inl (G.2 1001, 50, .inl (fun _ => 0))), (f 39, .inr (2, [.int 1, .ref (f 40), .ref (f 42)])), (f 40, .inr (4, [.ref (f 41), .int 0])), (f 41, .inl (G.2 1001, 50, .inl (fun _ => 0))), (f 42, .inr (4, [.ref (f 43), .int 0])), (f 43, .inl (G.2 1001, 50, .inl (fun _ => 0))), (f 44, .inr (4, [.ref (f 45), .int 0])), (f 45, .inl (G.2 1001, 50, .inl (fun _ => 0))), (f 46, .inr (4, [.ref (f 47), .int 0])), (f 47, .inl (G.2 1001, 20, .inl (fun _ => 0))), (f 48, .inr (6, [.int 0, .ref (f 49), .ref (f 50), .ref (f 51), .ref (f 52), .int 0, .ref (f 53), .ref (f 54), .ref (f 55), .ref (f 56), .int 0, .int 0, .int 0])), (f 49, .inl (G.2 1001, 5, .inl (fun _ => 0))), (f 50, .inl (G.2 1001, 5, .inl (fun _ => 0))), (f 51, .inl (G.2 1001, 5, .inl (fun _ => 0))), (f 52, .inl (G.2 1001, 5, .inl (fun _ => 0))), (f 53, .inl (G.2 1001, 6, .inl (fun _ => 0))), (f 54, .inl (G.2 1001, 6, .inl (fun _ => 0))), (f 55, .inl (G.2 1001, 6, .inl (fun _ => 0))), (f 56, .inl (G.2 1001, 6, .inl (fun _ => 0))), (f 57, .inr (1, [.ref (f 58), .ref (f 59), .ref (f 60), .ref (f 61), .ref (f 62), .int 0, .int 0, .int 0])), (f 58, .inl (G.2 1001, 5, .inl (fun _ => 0))), (f 59, .inl (G.2 1001, 5, .inl (fun _ => 0))), (f 60, .inl (G.2 1001, 5, .inl (fun _ => 0))), (f 61, .inl (G.2 1002, 5, .inl (fun _ => 0))), (f 62, .inl (G.2 1001, 6, .inl (fun _ => 0))), (f 63, .inr (3, [.ref (f 64), .int 0, .ref (f 66), .ref (G.2 1004)])), (f 64, .inr (4, [.ref (f 65), .int 0])), (f 65, .inl (G.2 1001, 50, .inl (fun _ => 0))), (f 66, .inr (4, [.ref (f 67), .int 0])), (f 67, .inl (G.2 1001, 50, .inl (fun _ => 0))), (f 68, .inr (7, [.ref (f 69), .int 0, .int 0, .int 0])), (f 69, .inr (4, [.ref (f 70), .int 0])), (f 70, .inl (G.2 1001, 40, .inl (fun _ => 0))), (f 71, .inl (G.2 1003, 4, .inr (.inr (.inr (.inr (va_up (va_up (va_up (va_up (fun _ => none) 0 (some (f 72))) 1 (some (f 74))) 2 (some (f 76))) 3 (some (f 78)))))))), (f 72, .inr (5, [.int 0, .int 0, .ref (f 73)])), (f 73, .inl (G.2 1001, 40, .inl (fun _ => 0))), (f 74, .inr (5, [.int 0, .int 0, .ref (f 75)])), (f 75, .inl (G.2 1001, 40, .inl (fun _ => 0))), (f 76, .inr (5, [.int 0, .int 0, .ref (f 77)])), (f 77, .inl (G.2 1001, 40, .inl (fun _ => 0))), (f 78, .inr (5, [.int 0, .int 0, .ref (f 79)])), (f 79, .inl (G.2 1001, 40, .inl (fun _ => 0))), (f 80, .inl (G.2 1001, 30, .inl (fun _ => 0))), (f 81, .inl (G.2 1001, 6, .inl (fun _ => 0)))]
set_option maxRecDepth 100000 in
set_option maxHeartbeats 4000000 in
theorem k_X8 {G : Gv} (h0 : Nat) (l : Launch) (sz : Nat) : MK l yX8_init cX8_init 2 8 G sz h0 (.inr (8, [.null, .null, .null, .null, .null, .null, .null, .null, .null, .int 0])) [] 82 1159 (ke_X8 G) (kw_X8 G) := by
  refine mk_of (by decide +kernel) rfl rfl (Nat.le_of_ble_eq_true rfl) rfl (fun V C => ?_) l sz
  refine k_aload_n (pc := 0) C dX8_init_0 rfl 0 rfl ?_
  refine k_objinit (pc := 1) C dX8_init_1 qlo_X8 (Nat.le_of_ble_eq_true rfl) ?_
  refine k_aload_n (pc := 4) C dX8_init_4 rfl 0 rfl ?_
  refine k_new (ci := 0) (fs := [.null, .null, .null, .null, .null, .int 0]) (pc := 5) C tyX0 dX8_init_5 qcl_X8_7 qin_X0 qn_X0 inX0 tyX0_ok rfl (fun j hj => by rcases (show j = 0 ∨ j = 1 ∨ j = 2 ∨ j = 3 ∨ j = 4 ∨ j = 5 by omega) with rfl | rfl | rfl | rfl | rfl | rfl <;> rfl) (Nat.le_of_ble_eq_true rfl) (Nat.le_of_ble_eq_true rfl) (fun q1 => ?_)
  refine k_dup (pc := 8) C dX8_init_8 rfl ?_
  refine k_callN (As := []) (rest := [.ref q1, .ref h0]) (pc := 9) C dX8_init_9 (fun _ _ h => h.2.2.1) qi_X0_init qn_X0 qc_X0_init rfl ⟨by decide +kernel, by decide +kernel, (by decide +kernel : (parseMethodDescriptor yX0_init.desc).map (fun d => d.parameters.length) = some 0)⟩ ⟨by decide, by decide⟩ (fun l sz => k_X0 (G := G) q1 l sz) rfl (Nat.le_of_ble_eq_true rfl) (Nat.le_of_ble_eq_true rfl) (Nat.le_of_ble_eq_true rfl) (fun f2 => ?_)
  refine k_putF (fs' := [.ref q1, .null, .null, .null, .null, .null, .null, .null, .null, .int 0]) (ci := 8) (j := 0) (ty := tyX8 0) (pc := 12) C tyX8 dX8_init_12 rfl inX8 (by decide) qf_X8_10 rfl tyX8_ok nmX8 rfl rfl (tyX8_ok 0 (by decide)) rfl rfl (Nat.le_of_ble_eq_true rfl) rfl ?_
  refine k_aload_n (pc := 15) C dX8_init_15 rfl 0 rfl ?_
  refine k_new (ci := 0) (fs := [.null, .null, .null, .null, .null, .int 0]) (pc := 16) C tyX0 dX8_init_16 qcl_X8_7 qin_X0 qn_X0 inX0 tyX0_ok rfl (fun j hj => by rcases (show j = 0 ∨ j = 1 ∨ j = 2 ∨ j = 3 ∨ j = 4 ∨ j = 5 by omega) with rfl | rfl | rfl | rfl | rfl | rfl <;> rfl) (Nat.le_of_ble_eq_true rfl) (Nat.le_of_ble_eq_true rfl) (fun q3 => ?_)
  refine k_dup (pc := 19) C dX8_init_19 rfl ?_
  refine k_callN (As := []) (rest := [.ref q3, .ref h0]) (pc := 20) C dX8_init_20 (fun _ _ h => h.2.2.1) qi_X0_init qn_X0 qc_X0_init rfl ⟨by decide +kernel, by decide +kernel, (by decide +kernel : (parseMethodDescriptor yX0_init.desc).map (fun d => d.parameters.length) = some 0)⟩ ⟨by decide, by decide⟩ (fun l sz => k_X0 (G := G) q3 l sz) rfl (Nat.le_of_ble_eq_true rfl) (Nat.le_of_ble_eq_true rfl) (Nat.le_of_ble_eq_true rfl) (fun f4 => ?_)
  refine k_putF (fs' := [.ref q1, .ref q3, .null, .null, .null, .null, .null, .null, .null, .int 0]) (ci := 8) (j := 1) (ty := tyX8 1) (pc := 23) C tyX8 dX8_init_23 rfl inX8 (by decide) qf_X8_16 rfl tyX8_ok nmX8 rfl rfl (tyX8_ok 1 (by decide)) rfl rfl (Nat.le_of_ble_eq_true rfl) rfl ?_
  refine k_aload_n (pc := 26) C dX8_init_26 rfl 0 rfl ?_
  refine k_new (ci := 6) (fs := [.int 0, .null, .null, .null, .null, .int 0, .null, .null, .null, .null, .int 0, .int 0, .int 0]) (pc := 27) C tyX6 dX8_init_27 qcl_X8_19 qin_X6 qn_X6 inX6 tyX6_ok rfl (fun j hj => by rcases (show j = 0 ∨ j = 1 ∨ j = 2 ∨ j = 3 ∨ j = 4 ∨ j = 5 ∨ j = 6 ∨ j = 7 ∨ j = 8 ∨ j = 9 ∨ j = 10 ∨ j = 11 ∨ j = 12 by omega) with rfl | rfl | rfl | rfl | rfl | rfl | rfl | rfl | rfl | rfl | rfl | rfl | rfl <;> rfl) (Nat.le_of_ble_eq_true rfl) (Nat.le_of_ble_eq_true rfl) (fun q5 => ?_)
  refine k_dup (pc := 30) C dX8_init_30 rfl ?_
  refine k_callN (As := []) (rest := [.ref q5, .ref h0]) (pc := 31) C dX8_init_31 (fun _ _ h => h.2.2.2.2.1) qi_X6_init qn_X6 qc_X6_init rfl ⟨by decide +kernel, by decide +kernel, (by decide +kernel : (parseMethodDescriptor yX6_init.desc).map (fun d => d.parameters.length) = some 0)⟩ ⟨by decide, by decide⟩ (fun l sz => k_X6 (G := G) q5 l sz) rfl (Nat.le_of_ble_eq_true rfl) (Nat.le_of_ble_eq_true rfl) (Nat.le_of_ble_eq_true rfl) (fun f6 => ?_)
  refine k_putF (fs' := [.ref q1, .ref q3, .ref q5, .null, .null, .null, .null, .null, .null, .int 0]) (ci := 8) (j := 2) (ty := tyX8 2) (pc := 34) C tyX8 dX8_init_34 rfl inX8 (by decide) qf_X8_22 rfl tyX8_ok nmX8 rfl rfl (tyX8_ok 2 (by decide)) rfl rfl (Nat.le_of_ble_eq_true rfl) rfl ?_
  refine k_aload_n (pc := 37) C dX8_init_37 rfl 0 rfl ?_
  refine k_new (ci := 1) (fs := [.null, .null, .null, .null, .null, .int 0, .int 0, .int 0]) (pc := 38) C tyX1 dX8_init_38 qcl_X8_26 qin_X1 qn_X1 inX1 tyX1_ok rfl (fun j hj => by rcases (show j = 0 ∨ j = 1 ∨ j = 2 ∨ j = 3 ∨ j = 4 ∨ j = 5 ∨ j = 6 ∨ j = 7 by omega) with rfl | rfl | rfl | rfl | rfl | rfl | rfl | rfl <;> rfl) (Nat.le_of_ble_eq_true rfl) (Nat.le_of_ble_eq_true rfl) (fun q7 => ?_)
  refine k_dup (pc := 41) C dX8_init_41 rfl ?_
  refine k_callN (As := []) (rest := [.ref q7, .ref h0]) (pc := 42) C dX8_init_42 (fun _ _ h => h.2.2.2.2.2.1) qi_X1_init qn_X1 qc_X1_init rfl ⟨by decide +kernel, by decide +kernel, (by decide +kernel : (parseMethodDescriptor yX1_init.desc).map (fun d => d.parameters.length) = some 0)⟩ ⟨by decide, by decide⟩ (fun l sz => k_X1 (G := G) q7 l sz) rfl (Nat.le_of_ble_eq_true rfl) (Nat.le_of_ble_eq_true rfl) (Nat.le_of_ble_eq_true rfl) (fun f8 => ?_)
  refine k_putF (fs' := [.ref q1, .ref q3, .ref q5, .ref q7, .null, .null, .null, .null, .null, .int 0]) (ci := 8) (j := 3) (ty := tyX8 3) (pc := 45) C tyX8 dX8_init_45 rfl inX8 (by decide) qf_X8_29 rfl tyX8_ok nmX8 rfl rfl (tyX8_ok 3 (by decide)) rfl rfl (Nat.le_of_ble_eq_true rfl) rfl ?_
  refine k_aload_n (pc := 48) C dX8_init_48 rfl 0 rfl ?_
  refine k_new (ci := 3) (fs := [.null, .int 0, .null, .null]) (pc := 49) C tyX3 dX8_init_49 qcl_X8_33 qin_X3 qn_X3 inX3 tyX3_ok rfl (fun j hj => by rcases (show j = 0 ∨ j = 1 ∨ j = 2 ∨ j = 3 by omega) with rfl | rfl | rfl | rfl <;> rfl) (Nat.le_of_ble_eq_true rfl) (Nat.le_of_ble_eq_true rfl) (fun q9 => ?_)
  refine k_dup (pc := 52) C dX8_init_52 rfl ?_
  refine k_callN (As := []) (rest := [.ref q9, .ref h0]) (pc := 53) C dX8_init_53 (fun _ _ h => h.2.2.2.2.2.2.1) qi_X3_init qn_X3 qc_X3_init rfl ⟨by decide +kernel, by decide +kernel, (by decide +kernel : (parseMethodDescriptor yX3_init.desc).map (fun d => d.parameters.length) = some 0)⟩ ⟨by decide, by decide⟩ (fun l sz => k_X3 (G := G) q9 l sz) rfl (Nat.le_of_ble_eq_true rfl) (Nat.le_of_ble_eq_true rfl) (Nat.le_of_ble_eq_true rfl) (fun f10 => ?_)
  refine k_putF (fs' := [.ref q1, .ref q3, .ref q5, .ref q7, .ref q9, .null, .null, .null, .null, .int 0]) (ci := 8) (j := 4) (ty := tyX8 4) (pc := 56) C tyX8 dX8_init_56 rfl inX8 (by decide) qf_X8_36 rfl tyX8_ok nmX8 rfl rfl (tyX8_ok 4 (by decide)) rfl rfl (Nat.le_of_ble_eq_true rfl) rfl ?_
  refine k_aload_n (pc := 59) C dX8_init_59 rfl 0 rfl ?_
  refine k_new (ci := 7) (fs := [.null, .int 0, .int 0, .int 0]) (pc := 60) C tyX7 dX8_init_60 qcl_X8_40 qin_X7 qn_X7 inX7 tyX7_ok rfl (fun j hj => by rcases (show j = 0 ∨ j = 1 ∨ j = 2 ∨ j = 3 by omega) with rfl | rfl | rfl | rfl <;> rfl) (Nat.le_of_ble_eq_true rfl) (Nat.le_of_ble_eq_true rfl) (fun q11 => ?_)
  refine k_dup (pc := 63) C dX8_init_63 rfl ?_
  refine k_callN (As := []) (rest := [.ref q11, .ref h0]) (pc := 64) C dX8_init_64 (fun _ _ h => h.2.2.2.2.2.2.2.1) qi_X7_init qn_X7 qc_X7_init rfl ⟨by decide +kernel, by decide +kernel, (by decide +kernel : (parseMethodDescriptor yX7_init.desc).map (fun d => d.parameters.length) = some 0)⟩ ⟨by decide, by decide⟩ (fun l sz => k_X7 (G := G) q11 l sz) rfl (Nat.le_of_ble_eq_true rfl) (Nat.le_of_ble_eq_true rfl) (Nat.le_of_ble_eq_true rfl) (fun f12 => ?_)
  refine k_putF (fs' := [.ref q1, .ref q3, .ref q5, .ref q7, .ref q9, .ref q11, .null, .null, .null, .int 0]) (ci := 8) (j := 5) (ty := tyX8 5) (pc := 67) C tyX8 dX8_init_67 rfl inX8 (by decide) qf_X8_43 rfl tyX8_ok nmX8 rfl rfl (tyX8_ok 5 (by decide)) rfl rfl (Nat.le_of_ble_eq_true rfl) rfl ?_
  refine k_aload_n (pc := 70) C dX8_init_70 rfl 0 rfl ?_
  refine k_iconst (v := (4:Int32)) (pc := 71) C dX8_init_71 (by decide) ?_
  refine k_newq (N := 4) (pc := 72) C dX8_init_72 qcl_X8_47 (by decide) (by decide) (by decide) (Nat.le_of_ble_eq_true rfl) (Nat.le_of_ble_eq_true rfl) (fun q13 => ?_)
  refine k_putF (fs' := [.ref q1, .ref q3, .ref q5, .ref q7, .ref q9, .ref q11, .ref q13, .null, .null, .int 0]) (ci := 8) (j := 6) (ty := tyX8 6) (pc := 75) C tyX8 dX8_init_75 rfl inX8 (by decide) qf_X8_49 rfl tyX8_ok nmX8 rfl rfl (tyX8_ok 6 (by decide)) rfl rfl (Nat.le_of_ble_eq_true rfl) rfl ?_
  refine k_iconst (v := (0:Int32)) (pc := 78) C dX8_init_78 (by decide) ?_
  refine k_istore_n (L' := [(1, .int (0:Int32)), (0, .ref h0)]) (pc := 79) C dX8_init_79 rfl (by decide) rfl ?_
  refine k_iload_n (pc := 80) C dX8_init_80 rfl 0 rfl ?_
  refine k_iconst (v := (4:Int32)) (pc := 81) C dX8_init_81 (by decide) ?_
  refine k_geF (pc := 82) C 104 dX8_init_82 (by decide) (by decide) ?_
  refine k_aload_n (pc := 85) C dX8_init_85 rfl 1 rfl ?_
  refine k_get (ci := 8) (j := 6) (q0 := 0) (pc := 86) C dX8_init_86 rfl rfl inX8 (by decide) qf_X8_49 rfl rfl ?_
  refine k_iload_n (pc := 89) C dX8_init_89 rfl 0 rfl ?_
  refine k_new (ci := 5) (fs := [.int 0, .int 0, .null]) (pc := 90) C tyX5 dX8_init_90 qcl_X8_47 qin_X5 qn_X5 inX5 tyX5_ok rfl (fun j hj => by rcases (show j = 0 ∨ j = 1 ∨ j = 2 by omega) with rfl | rfl | rfl <;> rfl) (Nat.le_of_ble_eq_true rfl) (Nat.le_of_ble_eq_true rfl) (fun q14 => ?_)
  refine k_dup (pc := 93) C dX8_init_93 rfl ?_
  refine k_callN (As := []) (rest := [.ref q14, .int (0:Int32), .ref q13]) (pc := 94) C dX8_init_94 (fun _ _ h => h.2.2.2.2.2.2.2.2) qi_X5_init qn_X5 qc_X5_init rfl ⟨by decide +kernel, by decide +kernel, (by decide +kernel : (parseMethodDescriptor yX5_init.desc).map (fun d => d.parameters.length) = some 0)⟩ ⟨by decide, by decide⟩ (fun l sz => k_X5 (G := G) q14 l sz) rfl (Nat.le_of_ble_eq_true rfl) (Nat.le_of_ble_eq_true rfl) (Nat.le_of_ble_eq_true rfl) (fun f15 => ?_)
  refine k_astq (q0 := 72) (qk := 73) (pc := 97) C dX8_init_97 rfl rfl (bad_in rfl) rfl ?_
  refine k_iinc (v := (1:Int32)) (L' := [(1, .int (1:Int32)), (0, .ref h0)]) (pc := 98) C dX8_init_98 0 rfl (by decide) (by decide) rfl ?_
  refine k_goto (pc := 101) C 80 dX8_init_101 (by decide) ?_
  refine k_iload_n (pc := 80) C dX8_init_80 rfl 0 rfl ?_
  refine k_iconst (v := (4:Int32)) (pc := 81) C dX8_init_81 (by decide) ?_
  refine k_geF (pc := 82) C 104 dX8_init_82 (by decide) (by decide) ?_
  refine k_aload_n (pc := 85) C dX8_init_85 rfl 1 rfl ?_
  refine k_get (ci := 8) (j := 6) (q0 := 0) (pc := 86) C dX8_init_86 rfl rfl inX8 (by decide) qf_X8_49 rfl rfl ?_
  refine k_iload_n (pc := 89) C dX8_init_89 rfl 0 rfl ?_
  refine k_new (ci := 5) (fs := [.int 0, .int 0, .null]) (pc := 90) C tyX5 dX8_init_90 qcl_X8_47 qin_X5 qn_X5 inX5 tyX5_ok rfl (fun j hj => by rcases (show j = 0 ∨ j = 1 ∨ j = 2 by omega) with rfl | rfl | rfl <;> rfl) (Nat.le_of_ble_eq_true rfl) (Nat.le_of_ble_eq_true rfl) (fun q16 => ?_)
  refine k_dup (pc := 93) C dX8_init_93 rfl ?_
  refine k_callN (As := []) (rest := [.ref q16, .int (1:Int32), .ref q13]) (pc := 94) C dX8_init_94 (fun _ _ h => h.2.2.2.2.2.2.2.2) qi_X5_init qn_X5 qc_X5_init rfl ⟨by decide +kernel, by decide +kernel, (by decide +kernel : (parseMethodDescriptor yX5_init.desc).map (fun d => d.parameters.length) = some 0)⟩ ⟨by decide, by decide⟩ (fun l sz => k_X5 (G := G) q16 l sz) rfl (Nat.le_of_ble_eq_true rfl) (Nat.le_of_ble_eq_true rfl) (Nat.le_of_ble_eq_true rfl) (fun f17 => ?_)
  refine k_astq (q0 := 72) (qk := 75) (pc := 97) C dX8_init_97 rfl rfl (bad_in rfl) rfl ?_
  refine k_iinc (v := (2:Int32)) (L' := [(1, .int (2:Int32)), (0, .ref h0)]) (pc := 98) C dX8_init_98 0 rfl (by decide) (by decide) rfl ?_
  refine k_goto (pc := 101) C 80 dX8_init_101 (by decide) ?_
  refine k_iload_n (pc := 80) C dX8_init_80 rfl 0 rfl ?_
  refine k_iconst (v := (4:Int32)) (pc := 81) C dX8_init_81 (by decide) ?_
  refine k_geF (pc := 82) C 104 dX8_init_82 (by decide) (by decide) ?_
  refine k_aload_n (pc := 85) C dX8_init_85 rfl 1 rfl ?_
  refine k_get (ci := 8) (j := 6) (q0 := 0) (pc := 86) C dX8_init_86 rfl rfl inX8 (by decide) qf_X8_49 rfl rfl ?_
  refine k_iload_n (pc := 89) C dX8_init_89 rfl 0 rfl ?_
  refine k_new (ci := 5) (fs := [.int 0, .int 0, .null]) (pc := 90) C tyX5 dX8_init_90 qcl_X8_47 qin_X5 qn_X5 inX5 tyX5_ok rfl (fun j hj => by rcases (show j = 0 ∨ j = 1 ∨ j = 2 by omega) with rfl | rfl | rfl <;> rfl) (Nat.le_of_ble_eq_true rfl) (Nat.le_of_ble_eq_true rfl) (fun q18 => ?_)
  refine k_dup (pc := 93) C dX8_init_93 rfl ?_
  refine k_callN (As := []) (rest := [.ref q18, .int (2:Int32), .ref q13]) (pc := 94) C dX8_init_94 (fun _ _ h => h.2.2.2.2.2.2.2.2) qi_X5_init qn_X5 qc_X5_init rfl ⟨by decide +kernel, by decide +kernel, (by decide +kernel : (parseMethodDescriptor yX5_init.desc).map (fun d => d.parameters.length) = some 0)⟩ ⟨by decide, by decide⟩ (fun l sz => k_X5 (G := G) q18 l sz) rfl (Nat.le_of_ble_eq_true rfl) (Nat.le_of_ble_eq_true rfl) (Nat.le_of_ble_eq_true rfl) (fun f19 => ?_)
  refine k_astq (q0 := 72) (qk := 77) (pc := 97) C dX8_init_97 rfl rfl (bad_in rfl) rfl ?_
  refine k_iinc (v := (3:Int32)) (L' := [(1, .int (3:Int32)), (0, .ref h0)]) (pc := 98) C dX8_init_98 0 rfl (by decide) (by decide) rfl ?_
  refine k_goto (pc := 101) C 80 dX8_init_101 (by decide) ?_
  refine k_iload_n (pc := 80) C dX8_init_80 rfl 0 rfl ?_
  refine k_iconst (v := (4:Int32)) (pc := 81) C dX8_init_81 (by decide) ?_
  refine k_geF (pc := 82) C 104 dX8_init_82 (by decide) (by decide) ?_
  refine k_aload_n (pc := 85) C dX8_init_85 rfl 1 rfl ?_
  refine k_get (ci := 8) (j := 6) (q0 := 0) (pc := 86) C dX8_init_86 rfl rfl inX8 (by decide) qf_X8_49 rfl rfl ?_
  refine k_iload_n (pc := 89) C dX8_init_89 rfl 0 rfl ?_
  refine k_new (ci := 5) (fs := [.int 0, .int 0, .null]) (pc := 90) C tyX5 dX8_init_90 qcl_X8_47 qin_X5 qn_X5 inX5 tyX5_ok rfl (fun j hj => by rcases (show j = 0 ∨ j = 1 ∨ j = 2 by omega) with rfl | rfl | rfl <;> rfl) (Nat.le_of_ble_eq_true rfl) (Nat.le_of_ble_eq_true rfl) (fun q20 => ?_)
  refine k_dup (pc := 93) C dX8_init_93 rfl ?_
  refine k_callN (As := []) (rest := [.ref q20, .int (3:Int32), .ref q13]) (pc := 94) C dX8_init_94 (fun _ _ h => h.2.2.2.2.2.2.2.2) qi_X5_init qn_X5 qc_X5_init rfl ⟨by decide +kernel, by decide +kernel, (by decide +kernel : (parseMethodDescriptor yX5_init.desc).map (fun d => d.parameters.length) = some 0)⟩ ⟨by decide, by decide⟩ (fun l sz => k_X5 (G := G) q20 l sz) rfl (Nat.le_of_ble_eq_true rfl) (Nat.le_of_ble_eq_true rfl) (Nat.le_of_ble_eq_true rfl) (fun f21 => ?_)
  refine k_astq (q0 := 72) (qk := 79) (pc := 97) C dX8_init_97 rfl rfl (bad_in rfl) rfl ?_
  refine k_iinc (v := (4:Int32)) (L' := [(1, .int (4:Int32)), (0, .ref h0)]) (pc := 98) C dX8_init_98 0 rfl (by decide) (by decide) rfl ?_
  refine k_goto (pc := 101) C 80 dX8_init_101 (by decide) ?_
  refine k_iload_n (pc := 80) C dX8_init_80 rfl 0 rfl ?_
  refine k_iconst (v := (4:Int32)) (pc := 81) C dX8_init_81 (by decide) ?_
  refine k_geT (pc := 82) C 104 dX8_init_82 (by decide) (by decide) ?_
  refine k_aload_n (pc := 104) C dX8_init_104 rfl 1 rfl ?_
  refine k_bipush (v := (30:Int32)) (pc := 105) C dX8_init_105 (by decide) ?_
  refine k_newa_int (N := 30) (pc := 107) C dX8_init_107 (by decide) (by decide) (by decide) (Nat.le_of_ble_eq_true rfl) (Nat.le_of_ble_eq_true rfl) (fun q22 => ?_)
  refine k_putF (fs' := [.ref q1, .ref q3, .ref q5, .ref q7, .ref q9, .ref q11, .ref q13, .ref q22, .null, .int 0]) (ci := 8) (j := 7) (ty := tyX8 7) (pc := 109) C tyX8 dX8_init_109 rfl inX8 (by decide) qf_X8_54 rfl tyX8_ok nmX8 rfl rfl (tyX8_ok 7 (by decide)) rfl rfl (Nat.le_of_ble_eq_true rfl) rfl ?_
  refine k_aload_n (pc := 112) C dX8_init_112 rfl 1 rfl ?_
  refine k_bipush (v := (6:Int32)) (pc := 113) C dX8_init_113 (by decide) ?_
  refine k_newa_int (N := 6) (pc := 115) C dX8_init_115 (by decide) (by decide) (by decide) (Nat.le_of_ble_eq_true rfl) (Nat.le_of_ble_eq_true rfl) (fun q23 => ?_)
  refine k_putF (fs' := [.ref q1, .ref q3, .ref q5, .ref q7, .ref q9, .ref q11, .ref q13, .ref q22, .ref q23, .int 0]) (ci := 8) (j := 8) (ty := tyX8 8) (pc := 117) C tyX8 dX8_init_117 rfl inX8 (by decide) qf_X8_58 rfl tyX8_ok nmX8 rfl rfl (tyX8_ok 8 (by decide)) rfl rfl (Nat.le_of_ble_eq_true rfl) rfl ?_
  refine k_vret (pc := 120) C dX8_init_120 (Nat.le_of_ble_eq_true rfl) (Nat.le_of_ble_eq_true rfl) (fun i => [q1, f2 0, f2 1, f2 2, f2 3, f2 4, f2 5, f2 6, f2 7, f2 8, f2 9, f2 10, f2 11, f2 12, f2 13, f2 14, f2 15, f2 16, f2 17, f2 18, f2 19, f2 20, f2 21, f2 22, q3, f4 0, f4 1, f4 2, f4 3, f4 4, f4 5, f4 6, f4 7, f4 8, f4 9, f4 10, f4 11, f4 12, f4 13, f4 14, f4 15, f4 16, f4 17, f4 18, f4 19, f4 20, f4 21, f4 22, q5, f6 0, f6 1, f6 2, f6 3, f6 4, f6 5, f6 6, f6 7, q7, f8 0, f8 1, f8 2, f8 3, f8 4, q9, f10 0, f10 1, f10 2, f10 3, q11, f12 0, f12 1, q13, q14, f15 0, q16, f17 0, q18, f19 0, q20, f21 0, q22, q23].getD i 0) ?_
  rfl
