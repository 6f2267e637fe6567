section RW
abbrev vwCl : List vw_C := [(RX0, TX0, 6), (RX1, TX1, 8), (RX2, TX2, 3), (RX3, TX3, 4), (RX4, TX4, 2), (RX5, TX5, 3), (RX6, TX6, 13), (RX7, TX7, 4), (RX8, TX8, 10), (RX9, TX9, 28)]
/-! THE WORLD: all cells of a system at fixed addresses; a state is a function (cell, place) -> int -/
abbrev Wd : Type := Nat → Nat → Int32
def setA (w : Wd) (k : Nat) (f : Nat → Int32) : Wd := fun j => if j = k then f else w j
abbrev updW (w : Wd) (k i : Nat) (v : Int32) : Wd := setA w k (upd (w k) i v)
abbrev KD : Type := Nat × Nat × List Nat
abbrev Gv : Type := va_G × (Nat → Nat)
abbrev Sy : Type := (Nat → KD) × Nat × Nat
def strA (G : Gv) (x : Int32) : Nat := if x = 0 then G.2 1004 else G.2 1005
def slotV (G : Gv) (f : Nat → Int32) (i c : Nat) : Value := match c with
  | 0 => .int (f i)
  | 1 => .ref (strA G (f i))
  | j + 2 => .ref (G.2 j)
def slotsV (G : Gv) (f : Nat → Int32) (cs : List Nat) : List Value := cs.mapIdx (fun i c => slotV G f i c)
def cellE (G : Gv) (kd : KD) (f : Nat → Int32) : va_E := match kd with
  | (0, ci, sl) => .inr (ci, slotsV G f sl)
  | (1, n, _) => .inl (G.2 1001, n, .inl f)
  | (2, n, _) => .inl (G.2 1002, n, .inl f)
  | (_, _, ts) => .inl (G.2 1003, ts.length, .inr (.inr (.inr (.inr (fun k => (ts[k]?).map G.2)))))
def inS (S : Sy) (k : Nat) : Prop := S.2.1 ≤ k ∧ k < S.2.1 + S.2.2
def cellsW (G : Gv) (S : Sy) (w : Wd) : va_W := (List.range S.2.2).map (fun i => (G.2 (S.2.1 + i), cellE G (S.1 (S.2.1 + i)) (w (S.2.1 + i))))
theorem slotsV_get {G : Gv} {f : Nat → Int32} {cs : List Nat} {j c : Nat} (h : cs[j]? = some c) : (slotsV G f cs)[j]? = some (slotV G f j c) := by
  simp [slotsV, List.getElem?_mapIdx, h]
theorem slotsV_len {G : Gv} {f : Nat → Int32} {cs : List Nat} : (slotsV G f cs).length = cs.length := by simp [slotsV]
theorem slotsV_set {G : Gv} {f : Nat → Int32} {cs : List Nat} {j c : Nat} {x : Int32} {v : Value} (h : cs[j]? = some c) (hv : v = slotV G (upd f j x) j c) : (slotsV G f cs).set j v = slotsV G (upd f j x) cs := by
  apply List.ext_getElem?
  intro i
  rw [List.getElem?_set, slotsV_len]
  have hj : j < cs.length := (List.getElem?_eq_some_iff.mp h).1
  by_cases hij : j = i
  · subst hij
    rw [if_pos rfl, if_pos hj, slotsV_get h, hv]
  · rw [if_neg hij]
    simp only [slotsV, List.getElem?_mapIdx]
    cases hc : cs[i]? with
    | none => rfl
    | some d =>
      simp only [Option.map_some]
      congr 1
      unfold slotV
      have e : upd f j x i = f i := by unfold upd; rw [if_neg (fun e => hij e.symm)]
      split <;> simp [e]
theorem cells_get {G : Gv} {S : Sy} {w : Wd} {k : Nat} (h : inS S k) : (cellsW G S w)[k - S.2.1]? = some (G.2 k, cellE G (S.1 k) (w k)) := by
  obtain ⟨h1, h2⟩ := h
  unfold cellsW
  have e : S.2.1 + (k - S.2.1) = k := by omega
  rw [List.getElem?_map, List.getElem?_range (by omega)]
  simp only [Option.map_some, e]
theorem cells_set {G : Gv} {S : Sy} {w : Wd} {k : Nat} (h : inS S k) (f : Nat → Int32) : (cellsW G S w).set (k - S.2.1) (G.2 k, cellE G (S.1 k) f) = cellsW G S (setA w k f) := by
  obtain ⟨h1, h2⟩ := h
  apply List.ext_getElem?
  intro i
  rw [List.getElem?_set]
  unfold cellsW
  simp only [List.length_map, List.length_range, List.getElem?_map]
  by_cases hi : i < S.2.2
  · rw [List.getElem?_range hi]
    by_cases hk : k - S.2.1 = i
    · have e : S.2.1 + i = k := by omega
      rw [if_pos hk, if_pos (by omega)]
      simp [e, setA]
    · have e : ¬ S.2.1 + i = k := by omega
      rw [if_neg hk]
      simp [setA, e]
  · have hk : ¬ k - S.2.1 = i := by omega
    rw [if_neg hk]
    have e : (List.range S.2.2)[i]? = none := List.getElem?_eq_none (by simp; omega)
    rw [e]
    rfl
theorem cells_inv {G : Gv} {S : Sy} {w : Wd} {i : Nat} {q : Nat × va_E} (h : (cellsW G S w)[i]? = some q) : i < S.2.2 ∧ q.1 = G.2 (S.2.1 + i) := by
  unfold cellsW at h
  rw [List.getElem?_map] at h
  by_cases hi : i < S.2.2
  · rw [List.getElem?_range hi] at h
    simp only [Option.map_some] at h
    cases h
    exact ⟨hi, rfl⟩
  · have e : (List.range S.2.2)[i]? = none := List.getElem?_eq_none (by simp; omega)
    rw [e] at h
    cases h
def WA (G : Gv) (S : Sy) : Nat → Prop := fun q => ∃ k, inS S k ∧ q = G.2 k
def injG (G : Gv) (S : Sy) : Prop := ∀ i j, inS S i → inS S j → G.2 i = G.2 j → i = j
theorem cells_D {G : Gv} {S : Sy} (hi : injG G S) (w : Wd) : va_D (WA G S) (cellsW G S w) := by
  refine ⟨fun i j x y h1 h2 e => ?_, fun k q h => ?_⟩
  · obtain ⟨a1, b1⟩ := cells_inv h1
    obtain ⟨a2, b2⟩ := cells_inv h2
    have := hi (S.2.1 + i) (S.2.1 + j) ⟨by omega, by omega⟩ ⟨by omega, by omega⟩ (by rw [← b1, ← b2]; exact e)
    omega
  · obtain ⟨a1, b1⟩ := cells_inv h
    exact ⟨S.2.1 + k, ⟨by omega, by omega⟩, b1⟩
abbrev tysG (G : Gv) : List (ClassId × FieldType) := [(G.2 1001, .int), (G.2 1002, .boolean), (G.2 1003, .object RX5)]
/-- what stands outside the system and is only read: the two tables, nest links -/
def tblA (j : Nat) : Int32 := ([-1, 0, 0, 0, 1, 2, 3] : List Int32).getD j 0
def tblB (j : Nat) : Int32 := ([10, 11, 12, 13, 0, 20, 0, 0, 30, 0, 0, 0, 0, 0, 40, 0, 0, 50, 0, 0, 0, 0, 0, 60, 0, 0, 70, 71] : List Int32).getD j 0
def bytC : List Int32 := [108, 109, 107]
def bytW : List Int32 := [108, 112, 110]
def STh (G : Gv) (A : Nat → Prop) (U : State) (H : Heap) : Prop :=
  va_Z RX8 "ABOVE" "[I" (.ref (G.2 1006)) A U H ∧ va_T .int (G.2 1006) 7 (fun j => .int (tblA j)) A U H ∧
  va_Z RX7 "BODIES" "[I" (.ref (G.2 1007)) A U H ∧ va_T .int (G.2 1007) 28 (fun j => .int (tblB j)) A U H ∧
  va_Z RJ0 "COMPACT_STRINGS" "Z" (.int 1) A U H ∧
  va_O RJ0 (G.2 1004) A U H ∧ va_OF RJ0 "value" "[B" (.ref (G.2 1008)) (G.2 1004) A U H ∧ va_OF RJ0 "coder" "B" (.int 0) (G.2 1004) A U H ∧ va_T .byte (G.2 1008) 3 (fun j => .int (bytC.getD j 0)) A U H ∧
  va_O RJ0 (G.2 1005) A U H ∧ va_OF RJ0 "value" "[B" (.ref (G.2 1009)) (G.2 1005) A U H ∧ va_OF RJ0 "coder" "B" (.int 0) (G.2 1005) A U H ∧ va_T .byte (G.2 1009) 3 (fun j => .int (bytW.getD j 0)) A U H
def STn (G : Gv) (U : State) : Prop := va_Nw (.methodLinkNest RX6 66 yX8_isUnder RX8) U ∧ va_Nw (.fieldLinkNest RX7 48 RX8 "ABOVE" "[I" RX8) U ∧ vk_R RX3 23 "lmk" (G.2 1004) U ∧ vk_R RX3 33 "lpn" (G.2 1005) U
def ST (G : Gv) (A : Nat → Prop) (U : State) (H : Heap) : Prop := STh G A U H ∧ STn G U
theorem STh.moved {G : Gv} {A : Nat → Prop} {u U : State} {H : Heap} (hvm : u.vm.Alike U.vm) (h : STh G A u H) : STh G A U H := by
  obtain ⟨a1, a2, a3, a4, a5, b1, b2, b3, b4, d1, d2, d3, d4⟩ := h
  exact ⟨a1.moved hvm, a2.moved hvm, a3.moved hvm, a4.moved hvm, a5.moved hvm, b1.moved hvm, b2.moved hvm, b3.moved hvm, b4.moved hvm, d1.moved hvm, d2.moved hvm, d3.moved hvm, d4.moved hvm⟩
theorem STh.kept {G : Gv} {A : Nat → Prop} {U : State} {H H1 : Heap} (h : STh G A U H) (hq : ∀ a : Nat, a < H.size → ¬ A a → H1[a]? = H[a]?) : STh G A U H1 := by
  obtain ⟨a1, a2, a3, a4, a5, b1, b2, b3, b4, d1, d2, d3, d4⟩ := h
  exact ⟨a1.kept hq, a2.kept hq, a3.kept hq, a4.kept hq, a5.kept hq, b1.kept hq, b2.kept hq, b3.kept hq, b4.kept hq, d1.kept hq, d2.kept hq, d3.kept hq, d4.kept hq⟩
theorem STh.narrow {G : Gv} {A B : Nat → Prop} {U : State} {H : Heap} (h : STh G A U H) (hAB : ∀ q, B q → A q) : STh G B U H := by
  obtain ⟨a1, a2, a3, a4, a5, b1, b2, b3, b4, d1, d2, d3, d4⟩ := h
  exact ⟨a1.narrow hAB, a2.narrow hAB, a3.narrow hAB, a4.narrow hAB, a5.narrow hAB, b1.narrow hAB, b2.narrow hAB, b3.narrow hAB, b4.narrow hAB, d1.narrow hAB, d2.narrow hAB, d3.narrow hAB, d4.narrow hAB⟩
theorem STn.warm {G : Gv} {s U : State} (hW : s.WarmedH U.vm) (h : STn G s) : STn G U := ⟨h.1.warmM hW, h.2.1.warmF hW, h.2.2.1.warm hW, h.2.2.2.warm hW⟩
theorem STn.same {G : Gv} {u U : State} (hv : u.vm = U.vm) (h : STn G u) : STn G U := ⟨va_tabs rfl hv h.1, va_tabs rfl hv h.2.1, h.2.2.1.same hv.symm, h.2.2.2.same hv.symm⟩
def PW (G : Gv) (S : Sy) (w : Wd) (U : State) : Prop := va_P G.1 vwCl (cellsW G S w) U.heap ∧ va_K G.1 vwCl (tysG G) U ∧ injG G S ∧ ST G (WA G S) U U.heap
def QW (G : Gv) (S : Sy) (rv : Option Value) (w0 : Wd) : Array Value → State → Outcome → State → Prop := fun _ st oc t => oc = .returned rv ∧ va_P G.1 vwCl (cellsW G S w0) t.heap ∧ va_F (WA G S) st t
abbrev Rm (h : Nat) : Room := { frames := h, cells := 0, slots := 0, locals := 40 * h }
abbrev wsA (y : MethodName) (cc : ByteArray) (n : Nat) (ret : Option FieldType) : List Cond := Cond.code y cc n ret :: TB
def MC (l : Launch) (y : MethodName) (cc : ByteArray) (n : Nat) (ret : Option FieldType) (h : Nat) (G : Gv) (S : Sy) (w : Wd) (args : List Value) (rv : Option Value) (w0 : Wd) : Prop :=
  Met l y (wsA y cc n ret) (Rm h) (va_Pc args (PW G S w)) (QW G S rv w0) 0 0 (WA G S)
abbrev Vt : Type := Wd → Nat → List (Nat × Value) → List Value → Prop
def CX (cc : ByteArray) (own : String) (G : Gv) (S : Sy) (n hc : Nat) (rt : Option FieldType) (rv : Option Value) (w0 : Wd) (V : Vt) : Prop :=
  ∃ (p : Program) (l : Launch) (e : Env) (s : State) (m : MethodId) (args : Array Value) (below : List Frame) (meth : Method) (c : Code),
    V = (fun w pc L st => ∀ (ls : Array Slot) (H : Heap) (locs : List Loc), lv_has ls n L → va_P G.1 vwCl (cellsW G S w) H → va_S (WA G S) s.heap H locs → W p l e (Rm hc) s m args below meth c H locs 0 0 (MQ below (QW G S rv w0) args s 0 0 (WA G S)) (F0 m pc ls st)) ∧
    p.tables.exec = Jvm.exec ∧ c.code = cc ∧ c.maxLocals = n ∧ s.vm.findClass own = some m.cls ∧ (∀ w ∈ TB, w.before args s = true) ∧ va_K G.1 vwCl (tysG G) s ∧ injG G S ∧ ST G (WA G S) s s.heap ∧ meth.locks = false ∧ meth.sig.returnType = rt
/-! what the walked functions are made of -/
def lv {α : Type} (x : Int32) (K : Int32 → Option α) : Option α := K x
def lvl {α : Type} (x : Int64) (K : Int64 → Option α) : Option α := K x
def wl {α : Type} (w : Wd) (K : Wd → Option α) : Option α := K w
def inB (i : Int32) (n : Nat) : Prop := ¬ (i < 0 ∨ n ≤ i.toNatClampNeg)
theorem inB_dec (i : Int32) (n : Nat) : inB i n ∨ ¬ inB i n := Classical.em _
def bad (i : Int32) (n : Nat) : Bool := decide (i < 0) || decide (n ≤ i.toNatClampNeg)
theorem bad_in {i : Int32} {n : Nat} (h : bad i n = false) : vp_in i n := by
  intro q
  unfold bad at h
  rcases q with q | q <;> simp [q] at h
def ald {α : Type} (w : Wd) (k n : Nat) (i : Int32) (K : Int32 → Option α) : Option α := if bad i n = true then none else K (w k i.toNatClampNeg)
def ast {α : Type} (w : Wd) (k n : Nat) (i x : Int32) (K : Wd → Option α) : Option α := if bad i n = true then none else K (updW w k i.toNatClampNeg x)
def zst {α : Type} (w : Wd) (k n : Nat) (i x : Int32) (K : Wd → Option α) : Option α := if bad i n = true then none else K (updW w k i.toNatClampNeg (vp_nar .boolean x))
def qld {α : Type} (ts : List Nat) (i : Int32) (K : Nat → Option α) : Option α := if bad i ts.length = true then none else K (ts.getD i.toNatClampNeg 0)
def tld {α : Type} (f : Nat → Int32) (n : Nat) (i : Int32) (K : Int32 → Option α) : Option α := if bad i n = true then none else K (f i.toNatClampNeg)
def nz {α : Type} (y : Int32) (K : Option α) : Option α := if y = 0 then none else K
def zk {α : Type} (x : Int32) (K : Option α) : Option α := if vp_nar .boolean x = x then K else none
def gd {α : Type} (b : Bool) (K : Option α) : Option α := if b = true then K else none
def bd {β α : Type} (o : Option β) (K : β → Option α) : Option α := match o with
  | none => none
  | some x => K x
def oc {α : Type} (o : Option Nat) (g : Nat → Bool) (A : Option α) (B : Nat → Option α) : Option α := match o with
  | none => A
  | some r => if g r = true then B r else none
def cpy {α : Type} (w : Wd) (k0 n0 : Nat) (sp : Int32) (k1 n1 : Nat) (dp n : Int32) (K : Wd → Option α) : Option α := if sp < 0 ∨ dp < 0 ∨ n < 0 ∨ n0 < sp.toNatClampNeg + n.toNatClampNeg ∨ n1 < dp.toNatClampNeg + n.toNatClampNeg then none else K (setA w k1 (va_cpy (w k0) (w k1) sp.toNatClampNeg dp.toNatClampNeg n.toNatClampNeg))
def lp {α : Type} (z : α) (F : α → α) : Nat → α
  | 0 => z
  | k + 1 => F (lp z F k)
theorem lp_ind {α : Type} {z : α} {F : α → α} (P : α → Prop) (hz : P z) (hF : ∀ g, P g → P (F g)) (k : Nat) : P (lp z F k) := by
  induction k with
  | zero => exact hz
  | succ k ih => exact hF _ ih
def FU : Nat := 2000000
theorem bd_some {β α : Type} {x : Option β} {K : β → Option α} {res : α} (h : bd x K = some res) : ∃ q, x = some q ∧ K q = some res := by
  cases x with
  | none => cases h
  | some q => exact ⟨q, rfl, h⟩
theorem gB {ws : List Cond} (h : ∀ w ∈ ws, w ∈ TB) : GoodIn TB ws := fun w hw => ⟨h w hw, good_of_word (List.mem_filter.mp (h w hw)).2⟩
theorem gB1 {y : MethodName} {cc : ByteArray} {n : Nat} {ret : Option FieldType} (q5 : Cond.code y cc n ret ∈ TB) : ∀ w ∈ wsA y cc n ret, w ∈ TB := fun w h => by
  rcases List.mem_cons.mp h with h | h
  · rw [h]; exact q5
  · exact h
theorem PW.blind {G : Gv} {S : Sy} {w : Wd} {av : List Value} : FrameBlind (va_Pc av (PW G S w)) := fun a U g mk q => by
  obtain ⟨q0, qP, qK, qI, qS, qN⟩ := q
  exact ⟨q0, qP, va_K.moved (u := U) (U := U.calling g mk a) (Vm.Alike.refl U.vm) qK, qI, STh.moved (u := U) (U := U.calling g mk a) (Vm.Alike.refl U.vm) qS, STn.same (u := U) (U := U.calling g mk a) rfl qN⟩


variable {cc : ByteArray} {own : String} {G : Gv} {S : Sy} {n hc : Nat} {rt : Option FieldType} {rv : Option Value} {w0 : Wd} {V : Vt} {w : Wd} {pc : Nat} {L L' : List (Nat × Value)} {rest : List Value} {α : Type} {res : α}
theorem mc_of {y : MethodName} {args : List Value} (hy : plainName y.cls = true) (ho : y.cls = own) (hlen : (lg_sl args).length ≤ n) (hL : lv_args 0 args = L) (body : ∀ V : Vt, CX cc own G S n hc rt rv w0 V → V w 0 L []) (l : Launch) : MC l y cc n rt hc G S w args rv w0 := by
  refine Met.ofW (cc := cc) (maxL := n) (ret := rt) hy rfl ?_
  intro p e s m av below meth c s₁ B hml hv
  obtain ⟨rfl, hP, hK, hI, hST⟩ := hv
  subst ho
  subst hL
  have hts := atoms_spec (ws := wsA y cc n rt) B.pre
  have hl := lv_entry args (n := n) hlen
  rw [lg_entry_eq]
  exact body _ ⟨p, l, e, s, m, _, below, meth, c, rfl, B.exec, B.bytes, hml, findClass_of_methodNamed B.named, fun w hw => hts w (List.mem_cons_of_mem _ hw), hK, hI, hST, B.notSynchronized, B.returns⟩ _ _ _ hl hP va_S.rf
theorem r_sub (C : CX cc own G S n hc rt rv w0 V) {st : List Value} (ks : List Nat) (h : lv_pick L ks = L') (k : V w pc L' st) : V w pc L st := by
  obtain ⟨p, l, e, s, m, args, below, meth, c, rfl, -⟩ := C
  exact fun ls H locs hl hP hS => k ls H locs (lv_sub hl ks h) hP hS

theorem r_iadd (C : CX cc own G S n hc rt rv w0 V) {x y : Int32} (hd : decode cc pc = .ok (.iadd, 1))  (k : V w (pc + 1) L (.int (x + y) :: rest)) : V w pc L (.int y :: .int x :: rest) := by
  obtain ⟨p, l, e, s, m, args, below, meth, c, rfl, hx, hb, hml, hown, hts, hK, hI, hST, hlk, hrt⟩ := C
  exact fun ls H locs hl hP hS => lv_iadd hx hb hd  (k ls H locs hl hP hS)
theorem r_isub (C : CX cc own G S n hc rt rv w0 V) {x y : Int32} (hd : decode cc pc = .ok (.isub, 1))  (k : V w (pc + 1) L (.int (x - y) :: rest)) : V w pc L (.int y :: .int x :: rest) := by
  obtain ⟨p, l, e, s, m, args, below, meth, c, rfl, hx, hb, hml, hown, hts, hK, hI, hST, hlk, hrt⟩ := C
  exact fun ls H locs hl hP hS => lv_isub hx hb hd  (k ls H locs hl hP hS)
theorem r_imul (C : CX cc own G S n hc rt rv w0 V) {x y : Int32} (hd : decode cc pc = .ok (.imul, 1))  (k : V w (pc + 1) L (.int (x * y) :: rest)) : V w pc L (.int y :: .int x :: rest) := by
  obtain ⟨p, l, e, s, m, args, below, meth, c, rfl, hx, hb, hml, hown, hts, hK, hI, hST, hlk, hrt⟩ := C
  exact fun ls H locs hl hP hS => lv_imul hx hb hd  (k ls H locs hl hP hS)
theorem r_iand (C : CX cc own G S n hc rt rv w0 V) {x y : Int32} (hd : decode cc pc = .ok (.iand, 1))  (k : V w (pc + 1) L (.int (x &&& y) :: rest)) : V w pc L (.int y :: .int x :: rest) := by
  obtain ⟨p, l, e, s, m, args, below, meth, c, rfl, hx, hb, hml, hown, hts, hK, hI, hST, hlk, hrt⟩ := C
  exact fun ls H locs hl hP hS => lv_iand hx hb hd  (k ls H locs hl hP hS)
theorem r_ior (C : CX cc own G S n hc rt rv w0 V) {x y : Int32} (hd : decode cc pc = .ok (.ior, 1))  (k : V w (pc + 1) L (.int (x ||| y) :: rest)) : V w pc L (.int y :: .int x :: rest) := by
  obtain ⟨p, l, e, s, m, args, below, meth, c, rfl, hx, hb, hml, hown, hts, hK, hI, hST, hlk, hrt⟩ := C
  exact fun ls H locs hl hP hS => lv_ior hx hb hd  (k ls H locs hl hP hS)
theorem r_ixor (C : CX cc own G S n hc rt rv w0 V) {x y : Int32} (hd : decode cc pc = .ok (.ixor, 1))  (k : V w (pc + 1) L (.int (x ^^^ y) :: rest)) : V w pc L (.int y :: .int x :: rest) := by
  obtain ⟨p, l, e, s, m, args, below, meth, c, rfl, hx, hb, hml, hown, hts, hK, hI, hST, hlk, hrt⟩ := C
  exact fun ls H locs hl hP hS => lv_ixor hx hb hd  (k ls H locs hl hP hS)
theorem r_ishl (C : CX cc own G S n hc rt rv w0 V) {x y : Int32} (hd : decode cc pc = .ok (.ishl, 1))  (k : V w (pc + 1) L (.int (x <<< (y &&& 31)) :: rest)) : V w pc L (.int y :: .int x :: rest) := by
  obtain ⟨p, l, e, s, m, args, below, meth, c, rfl, hx, hb, hml, hown, hts, hK, hI, hST, hlk, hrt⟩ := C
  exact fun ls H locs hl hP hS => lv_ishl hx hb hd  (k ls H locs hl hP hS)
theorem r_ishr (C : CX cc own G S n hc rt rv w0 V) {x y : Int32} (hd : decode cc pc = .ok (.ishr, 1))  (k : V w (pc + 1) L (.int (x >>> (y &&& 31)) :: rest)) : V w pc L (.int y :: .int x :: rest) := by
  obtain ⟨p, l, e, s, m, args, below, meth, c, rfl, hx, hb, hml, hown, hts, hK, hI, hST, hlk, hrt⟩ := C
  exact fun ls H locs hl hP hS => lv_ishr hx hb hd  (k ls H locs hl hP hS)
theorem r_ineg (C : CX cc own G S n hc rt rv w0 V) {x : Int32} (hd : decode cc pc = .ok (.ineg, 1))  (k : V w (pc + 1) L (.int (-x) :: rest)) : V w pc L (.int x :: rest) := by
  obtain ⟨p, l, e, s, m, args, below, meth, c, rfl, hx, hb, hml, hown, hts, hK, hI, hST, hlk, hrt⟩ := C
  exact fun ls H locs hl hP hS => lv_ineg hx hb hd  (k ls H locs hl hP hS)
def ushr (x y : Int32) : Int32 := (x.toUInt32 >>> (y.toUInt32 &&& Int32.toUInt32 31)).toInt32
theorem r_iushr (C : CX cc own G S n hc rt rv w0 V) {x y : Int32} (hd : decode cc pc = .ok (.iushr, 1))  (k : V w (pc + 1) L (.int (ushr x y) :: rest)) : V w pc L (.int y :: .int x :: rest) := by
  obtain ⟨p, l, e, s, m, args, below, meth, c, rfl, hx, hb, hml, hown, hts, hK, hI, hST, hlk, hrt⟩ := C
  exact fun ls H locs hl hP hS => lv_iushr hx hb hd rfl (k ls H locs hl hP hS)
def lushr (x : Int64) (y : Int32) : Int64 := (x.toUInt64 >>> (y.toInt64.toUInt64 &&& Int64.toUInt64 63)).toInt64
def lshl (x : Int64) (y : Int32) : Int64 := x <<< (y.toInt64 &&& 63)
def lshr (x : Int64) (y : Int32) : Int64 := x >>> (y.toInt64 &&& 63)
theorem r_lushr (C : CX cc own G S n hc rt rv w0 V) {x : Int64} {y : Int32} (hd : decode cc pc = .ok (.lushr, 1))  (k : V w (pc + 1) L (.long (lushr x y) :: rest)) : V w pc L (.int y :: .long x :: rest) := by
  obtain ⟨p, l, e, s, m, args, below, meth, c, rfl, hx, hb, hml, hown, hts, hK, hI, hST, hlk, hrt⟩ := C
  exact fun ls H locs hl hP hS => lv_lushr hx hb hd rfl (k ls H locs hl hP hS)
theorem r_lshl (C : CX cc own G S n hc rt rv w0 V) {x : Int64} {y : Int32} (hd : decode cc pc = .ok (.lshl, 1))  (k : V w (pc + 1) L (.long (lshl x y) :: rest)) : V w pc L (.int y :: .long x :: rest) := by
  obtain ⟨p, l, e, s, m, args, below, meth, c, rfl, hx, hb, hml, hown, hts, hK, hI, hST, hlk, hrt⟩ := C
  exact fun ls H locs hl hP hS => lv_lshl hx hb hd rfl (k ls H locs hl hP hS)
theorem r_lshr (C : CX cc own G S n hc rt rv w0 V) {x : Int64} {y : Int32} (hd : decode cc pc = .ok (.lshr, 1))  (k : V w (pc + 1) L (.long (lshr x y) :: rest)) : V w pc L (.int y :: .long x :: rest) := by
  obtain ⟨p, l, e, s, m, args, below, meth, c, rfl, hx, hb, hml, hown, hts, hK, hI, hST, hlk, hrt⟩ := C
  exact fun ls H locs hl hP hS => lv_lshr hx hb hd rfl (k ls H locs hl hP hS)
theorem r_land (C : CX cc own G S n hc rt rv w0 V) {x y : Int64} (hd : decode cc pc = .ok (.land, 1))  (k : V w (pc + 1) L (.long (x &&& y) :: rest)) : V w pc L (.long y :: .long x :: rest) := by
  obtain ⟨p, l, e, s, m, args, below, meth, c, rfl, hx, hb, hml, hown, hts, hK, hI, hST, hlk, hrt⟩ := C
  exact fun ls H locs hl hP hS => lv_land hx hb hd  (k ls H locs hl hP hS)
theorem r_lor (C : CX cc own G S n hc rt rv w0 V) {x y : Int64} (hd : decode cc pc = .ok (.lor, 1))  (k : V w (pc + 1) L (.long (x ||| y) :: rest)) : V w pc L (.long y :: .long x :: rest) := by
  obtain ⟨p, l, e, s, m, args, below, meth, c, rfl, hx, hb, hml, hown, hts, hK, hI, hST, hlk, hrt⟩ := C
  exact fun ls H locs hl hP hS => lv_lor hx hb hd  (k ls H locs hl hP hS)
theorem r_i2l (C : CX cc own G S n hc rt rv w0 V) {x : Int32} (hd : decode cc pc = .ok (.i2l, 1))  (k : V w (pc + 1) L (.long x.toInt64 :: rest)) : V w pc L (.int x :: rest) := by
  obtain ⟨p, l, e, s, m, args, below, meth, c, rfl, hx, hb, hml, hown, hts, hK, hI, hST, hlk, hrt⟩ := C
  exact fun ls H locs hl hP hS => lv_i2l hx hb hd rfl (k ls H locs hl hP hS)
theorem r_l2i (C : CX cc own G S n hc rt rv w0 V) {x : Int64} (hd : decode cc pc = .ok (.l2i, 1))  (k : V w (pc + 1) L (.int x.toInt32 :: rest)) : V w pc L (.long x :: rest) := by
  obtain ⟨p, l, e, s, m, args, below, meth, c, rfl, hx, hb, hml, hown, hts, hK, hI, hST, hlk, hrt⟩ := C
  exact fun ls H locs hl hP hS => lv_l2i hx hb hd rfl (k ls H locs hl hP hS)
theorem r_i2b (C : CX cc own G S n hc rt rv w0 V) {x : Int32} (hd : decode cc pc = .ok (.i2b, 1))  (k : V w (pc + 1) L (.int x.toInt8.toInt32 :: rest)) : V w pc L (.int x :: rest) := by
  obtain ⟨p, l, e, s, m, args, below, meth, c, rfl, hx, hb, hml, hown, hts, hK, hI, hST, hlk, hrt⟩ := C
  exact fun ls H locs hl hP hS => lv_i2b hx hb hd rfl (k ls H locs hl hP hS)
theorem r_i2s (C : CX cc own G S n hc rt rv w0 V) {x : Int32} (hd : decode cc pc = .ok (.i2s, 1))  (k : V w (pc + 1) L (.int x.toInt16.toInt32 :: rest)) : V w pc L (.int x :: rest) := by
  obtain ⟨p, l, e, s, m, args, below, meth, c, rfl, hx, hb, hml, hown, hts, hK, hI, hST, hlk, hrt⟩ := C
  exact fun ls H locs hl hP hS => lv_i2s hx hb hd rfl (k ls H locs hl hP hS)
theorem r_i2c (C : CX cc own G S n hc rt rv w0 V) {x : Int32} (hd : decode cc pc = .ok (.i2c, 1))  (k : V w (pc + 1) L (.int (x.toUInt32 % 65536).toInt32 :: rest)) : V w pc L (.int x :: rest) := by
  obtain ⟨p, l, e, s, m, args, below, meth, c, rfl, hx, hb, hml, hown, hts, hK, hI, hST, hlk, hrt⟩ := C
  exact fun ls H locs hl hP hS => lv_i2c hx hb hd rfl (k ls H locs hl hP hS)
theorem r_iconst (C : CX cc own G S n hc rt rv w0 V) {z : Int} {v : Int32} (hd : decode cc pc = .ok (.iconst z, 1)) (hv : Int32.ofInt z = v) (k : V w (pc + 1) L (.int v :: rest)) : V w pc L (rest) := by
  obtain ⟨p, l, e, s, m, args, below, meth, c, rfl, hx, hb, hml, hown, hts, hK, hI, hST, hlk, hrt⟩ := C
  exact fun ls H locs hl hP hS => lv_iconst hx hb hd hv (k ls H locs hl hP hS)
theorem r_bipush (C : CX cc own G S n hc rt rv w0 V) {z : Int} {v : Int32} (hd : decode cc pc = .ok (.bipush z, 2)) (hv : (Int8.ofInt z).toInt32 = v) (k : V w (pc + 2) L (.int v :: rest)) : V w pc L (rest) := by
  obtain ⟨p, l, e, s, m, args, below, meth, c, rfl, hx, hb, hml, hown, hts, hK, hI, hST, hlk, hrt⟩ := C
  exact fun ls H locs hl hP hS => lv_bipush hx hb hd hv (k ls H locs hl hP hS)
theorem r_sipush (C : CX cc own G S n hc rt rv w0 V) {z : Int} {v : Int32} (hd : decode cc pc = .ok (.sipush z, 3)) (hv : (Int16.ofInt z).toInt32 = v) (k : V w (pc + 3) L (.int v :: rest)) : V w pc L (rest) := by
  obtain ⟨p, l, e, s, m, args, below, meth, c, rfl, hx, hb, hml, hown, hts, hK, hI, hST, hlk, hrt⟩ := C
  exact fun ls H locs hl hP hS => lv_sipush hx hb hd hv (k ls H locs hl hP hS)
theorem r_dup (C : CX cc own G S n hc rt rv w0 V) {v : Value} (hd : decode cc pc = .ok (.dup, 1)) (hv : v.category = 1) (k : V w (pc + 1) L (v :: v :: rest)) : V w pc L (v :: rest) := by
  obtain ⟨p, l, e, s, m, args, below, meth, c, rfl, hx, hb, hml, hown, hts, hK, hI, hST, hlk, hrt⟩ := C
  exact fun ls H locs hl hP hS => lv_dup hx hb hd hv (k ls H locs hl hP hS)
theorem r_dup2 (C : CX cc own G S n hc rt rv w0 V) {v u : Value} (hd : decode cc pc = .ok (.dup2, 1)) (hv : v.category = 1) (hu : u.category = 1) (k : V w (pc + 1) L (v :: u :: v :: u :: rest)) : V w pc L (v :: u :: rest) := by
  obtain ⟨p, l, e, s, m, args, below, meth, c, rfl, hx, hb, hml, hown, hts, hK, hI, hST, hlk, hrt⟩ := C
  exact fun ls H locs hl hP hS => lv_dup2_11 hx hb hd hv hu (k ls H locs hl hP hS)
theorem r_pop (C : CX cc own G S n hc rt rv w0 V) {v : Value} (hd : decode cc pc = .ok (.pop, 1)) (hv : v.category = 1) (k : V w (pc + 1) L (rest)) : V w pc L (v :: rest) := by
  obtain ⟨p, l, e, s, m, args, below, meth, c, rfl, hx, hb, hml, hown, hts, hK, hI, hST, hlk, hrt⟩ := C
  exact fun ls H locs hl hP hS => lv_pop hx hb hd hv (k ls H locs hl hP hS)
theorem r_null (C : CX cc own G S n hc rt rv w0 V)  (hd : decode cc pc = .ok (.aconst_null, 1))  (k : V w (pc + 1) L (.null :: rest)) : V w pc L (rest) := by
  obtain ⟨p, l, e, s, m, args, below, meth, c, rfl, hx, hb, hml, hown, hts, hK, hI, hST, hlk, hrt⟩ := C
  exact fun ls H locs hl hP hS => lv_null hx hb hd  (k ls H locs hl hP hS)
theorem r_iload_n (C : CX cc own G S n hc rt rv w0 V) {k : Fin 4} {i : Nat} {x : Int32} (hd : decode cc pc = .ok (.iload_n k, 1)) (hi : (k : Nat) = i) (pos : Nat) (hL : L[pos]? = some (i, .int x)) (kk : V w (pc + 1) L (.int x :: rest)) : V w pc L rest := by
  obtain ⟨p, l, e, s, m, args, below, meth, c, rfl, hx, hb, hml, hown, hts, hK, hI, hST, hlk, hrt⟩ := C
  exact fun ls H locs hl hP hS => lv_iload_n hx hb hd hi (lv_at hl pos hL) (kk ls H locs hl hP hS)
theorem r_iload (C : CX cc own G S n hc rt rv w0 V) {i : Nat} {x : Int32} (hd : decode cc pc = .ok (.iload i, 2)) (pos : Nat) (hL : L[pos]? = some (i, .int x)) (kk : V w (pc + 2) L (.int x :: rest)) : V w pc L rest := by
  obtain ⟨p, l, e, s, m, args, below, meth, c, rfl, hx, hb, hml, hown, hts, hK, hI, hST, hlk, hrt⟩ := C
  exact fun ls H locs hl hP hS => lv_iload hx hb hd (lv_at hl pos hL) (kk ls H locs hl hP hS)
theorem r_lload_n (C : CX cc own G S n hc rt rv w0 V) {k : Fin 4} {i : Nat} {x : Int64} (hd : decode cc pc = .ok (.lload_n k, 1)) (hi : (k : Nat) = i) (pos : Nat) (hL : L[pos]? = some (i, .long x)) (kk : V w (pc + 1) L (.long x :: rest)) : V w pc L rest := by
  obtain ⟨p, l, e, s, m, args, below, meth, c, rfl, hx, hb, hml, hown, hts, hK, hI, hST, hlk, hrt⟩ := C
  exact fun ls H locs hl hP hS => lv_lload_n hx hb hd hi (lv_at hl pos hL) (kk ls H locs hl hP hS)
theorem r_aload_n (C : CX cc own G S n hc rt rv w0 V) {k : Fin 4} {i : Nat} {x : Nat} (hd : decode cc pc = .ok (.aload_n k, 1)) (hi : (k : Nat) = i) (pos : Nat) (hL : L[pos]? = some (i, .ref x)) (kk : V w (pc + 1) L (.ref x :: rest)) : V w pc L rest := by
  obtain ⟨p, l, e, s, m, args, below, meth, c, rfl, hx, hb, hml, hown, hts, hK, hI, hST, hlk, hrt⟩ := C
  exact fun ls H locs hl hP hS => lv_aload_n hx hb hd hi (lv_at hl pos hL) (kk ls H locs hl hP hS)
theorem r_aload (C : CX cc own G S n hc rt rv w0 V) {i : Nat} {x : Nat} (hd : decode cc pc = .ok (.aload i, 2)) (pos : Nat) (hL : L[pos]? = some (i, .ref x)) (kk : V w (pc + 2) L (.ref x :: rest)) : V w pc L rest := by
  obtain ⟨p, l, e, s, m, args, below, meth, c, rfl, hx, hb, hml, hown, hts, hK, hI, hST, hlk, hrt⟩ := C
  exact fun ls H locs hl hP hS => lv_aload hx hb hd (lv_at hl pos hL) (kk ls H locs hl hP hS)
theorem r_aload_nN (C : CX cc own G S n hc rt rv w0 V) {k : Fin 4} {i : Nat} (hd : decode cc pc = .ok (.aload_n k, 1)) (hi : (k : Nat) = i) (pos : Nat) (hL : L[pos]? = some (i, .null)) (kk : V w (pc + 1) L (.null :: rest)) : V w pc L rest := by
  obtain ⟨p, l, e, s, m, args, below, meth, c, rfl, hx, hb, hml, hown, hts, hK, hI, hST, hlk, hrt⟩ := C
  exact fun ls H locs hl hP hS => lv_aload_nN hx hb hd hi (lv_at hl pos hL) (kk ls H locs hl hP hS)
theorem r_aloadN (C : CX cc own G S n hc rt rv w0 V) {i : Nat} (hd : decode cc pc = .ok (.aload i, 2)) (pos : Nat) (hL : L[pos]? = some (i, .null)) (kk : V w (pc + 2) L (.null :: rest)) : V w pc L rest := by
  obtain ⟨p, l, e, s, m, args, below, meth, c, rfl, hx, hb, hml, hown, hts, hK, hI, hST, hlk, hrt⟩ := C
  exact fun ls H locs hl hP hS => lv_aloadN hx hb hd (lv_at hl pos hL) (kk ls H locs hl hP hS)
theorem r_istore_n (C : CX cc own G S n hc rt rv w0 V) {k : Fin 4} {i : Nat} {x : Int32} (hd : decode cc pc = .ok (.istore_n k, 1)) (hi : (k : Nat) = i) (hn : i < n) (hL : (i, Value.int x) :: L.filter (fun q => !(q.1 == i) && !(q.1 + 1 == i && q.2.category == 2)) = L') (kk : V w (pc + 1) L' rest) : V w pc L (Value.int x :: rest) := by
  obtain ⟨p, l, e, s, m, args, below, meth, c, rfl, hx, hb, hml, hown, hts, hK, hI, hST, hlk, hrt⟩ := C
  exact fun ls H locs hl hP hS => lv_istore_n hx hb hd hi hl hn hL (fun ls' hl' => kk ls' H locs hl' hP hS)
theorem r_istore (C : CX cc own G S n hc rt rv w0 V) {i : Nat} {x : Int32} (hd : decode cc pc = .ok (.istore i, 2)) (hn : i < n) (hL : (i, Value.int x) :: L.filter (fun q => !(q.1 == i) && !(q.1 + 1 == i && q.2.category == 2)) = L') (kk : V w (pc + 2) L' rest) : V w pc L (Value.int x :: rest) := by
  obtain ⟨p, l, e, s, m, args, below, meth, c, rfl, hx, hb, hml, hown, hts, hK, hI, hST, hlk, hrt⟩ := C
  exact fun ls H locs hl hP hS => lv_istore hx hb hd hl hn hL (fun ls' hl' => kk ls' H locs hl' hP hS)
theorem r_astore_n (C : CX cc own G S n hc rt rv w0 V) {k : Fin 4} {i : Nat} {x : Nat} (hd : decode cc pc = .ok (.astore_n k, 1)) (hi : (k : Nat) = i) (hn : i < n) (hL : (i, Value.ref x) :: L.filter (fun q => !(q.1 == i) && !(q.1 + 1 == i && q.2.category == 2)) = L') (kk : V w (pc + 1) L' rest) : V w pc L (Value.ref x :: rest) := by
  obtain ⟨p, l, e, s, m, args, below, meth, c, rfl, hx, hb, hml, hown, hts, hK, hI, hST, hlk, hrt⟩ := C
  exact fun ls H locs hl hP hS => lv_astore_n hx hb hd hi hl hn hL (fun ls' hl' => kk ls' H locs hl' hP hS)
theorem r_astore (C : CX cc own G S n hc rt rv w0 V) {i : Nat} {x : Nat} (hd : decode cc pc = .ok (.astore i, 2)) (hn : i < n) (hL : (i, Value.ref x) :: L.filter (fun q => !(q.1 == i) && !(q.1 + 1 == i && q.2.category == 2)) = L') (kk : V w (pc + 2) L' rest) : V w pc L (Value.ref x :: rest) := by
  obtain ⟨p, l, e, s, m, args, below, meth, c, rfl, hx, hb, hml, hown, hts, hK, hI, hST, hlk, hrt⟩ := C
  exact fun ls H locs hl hP hS => lv_astore hx hb hd hl hn hL (fun ls' hl' => kk ls' H locs hl' hP hS)
theorem r_astore_nN (C : CX cc own G S n hc rt rv w0 V) {k : Fin 4} {i : Nat}  (hd : decode cc pc = .ok (.astore_n k, 1)) (hi : (k : Nat) = i) (hn : i < n) (hL : (i, Value.null) :: L.filter (fun q => !(q.1 == i) && !(q.1 + 1 == i && q.2.category == 2)) = L') (kk : V w (pc + 1) L' rest) : V w pc L (Value.null :: rest) := by
  obtain ⟨p, l, e, s, m, args, below, meth, c, rfl, hx, hb, hml, hown, hts, hK, hI, hST, hlk, hrt⟩ := C
  exact fun ls H locs hl hP hS => lv_astore_nN hx hb hd hi hl hn hL (fun ls' hl' => kk ls' H locs hl' hP hS)
theorem r_astoreN (C : CX cc own G S n hc rt rv w0 V) {i : Nat}  (hd : decode cc pc = .ok (.astore i, 2)) (hn : i < n) (hL : (i, Value.null) :: L.filter (fun q => !(q.1 == i) && !(q.1 + 1 == i && q.2.category == 2)) = L') (kk : V w (pc + 2) L' rest) : V w pc L (Value.null :: rest) := by
  obtain ⟨p, l, e, s, m, args, below, meth, c, rfl, hx, hb, hml, hown, hts, hK, hI, hST, hlk, hrt⟩ := C
  exact fun ls H locs hl hP hS => lv_astoreN hx hb hd hl hn hL (fun ls' hl' => kk ls' H locs hl' hP hS)
theorem r_iinc (C : CX cc own G S n hc rt rv w0 V) {i : Nat} {z : Int} {x v : Int32} (hd : decode cc pc = .ok (.iinc i z, 3)) (pos : Nat) (hp : L[pos]? = some (i, .int x)) (hv : x + Int32.ofInt z = v) (hn : i < n) (hL : (i, Value.int v) :: L.filter (fun q => !(q.1 == i) && !(q.1 + 1 == i && q.2.category == 2)) = L') (kk : V w (pc + 3) L' rest) : V w pc L rest := by
  obtain ⟨p, l, e, s, m, args, below, meth, c, rfl, hx, hb, hml, hown, hts, hK, hI, hST, hlk, hrt⟩ := C
  exact fun ls H locs hl hP hS => lv_iinc hx hb hd hl hp hv hn hL (fun ls' hl' => kk ls' H locs hl' hP hS)
theorem r_goto (C : CX cc own G S n hc rt rv w0 V) {off : Int} (tgt : Nat) (hd : decode cc pc = .ok (.goto off, 3)) (ht : (pc : Int) + off = (tgt : Int)) (kk : V w tgt L rest) : V w pc L rest := by
  obtain ⟨p, l, e, s, m, args, below, meth, c, rfl, hx, hb, hml, hown, hts, hK, hI, hST, hlk, hrt⟩ := C
  exact fun ls H locs hl hP hS => lv_goto hx hb hd ht (kk ls H locs hl hP hS)
/-- if eq: x = 0 -/
theorem r_if_eq (C : CX cc own G S n hc rt rv w0 V) {x : Int32} {off : Int} (tgt : Nat) {A B : Option α} (hd : decode cc pc = .ok (.ifCond .eq off, 3)) (ht : (pc : Int) + off = (tgt : Int)) (h : (if x = 0 then A else B) = some res) (kt : A = some res → V w tgt L rest) (kf : B = some res → V w (pc + 3) L rest) : V w pc L (.int x :: rest) := by
  obtain ⟨p, l, e, s, m, args, below, meth, c, rfl, hx, hb, hml, hown, hts, hK, hI, hST, hlk, hrt⟩ := C
  exact fun ls H locs hl hP hS => lv_if_eq hx hb hd ht (fun c => kt (by rw [if_pos c] at h; exact h) ls H locs hl hP hS) (fun c => kf (by rw [if_neg (c)] at h; exact h) ls H locs hl hP hS)
/-- if ne: ¬ x = 0 -/
theorem r_if_ne (C : CX cc own G S n hc rt rv w0 V) {x : Int32} {off : Int} (tgt : Nat) {A B : Option α} (hd : decode cc pc = .ok (.ifCond .ne off, 3)) (ht : (pc : Int) + off = (tgt : Int)) (h : (if ¬ x = 0 then A else B) = some res) (kt : A = some res → V w tgt L rest) (kf : B = some res → V w (pc + 3) L rest) : V w pc L (.int x :: rest) := by
  obtain ⟨p, l, e, s, m, args, below, meth, c, rfl, hx, hb, hml, hown, hts, hK, hI, hST, hlk, hrt⟩ := C
  exact fun ls H locs hl hP hS => lv_if_ne hx hb hd ht (fun c => kt (by rw [if_pos c] at h; exact h) ls H locs hl hP hS) (fun c => kf (by rw [if_neg (fun q => q c)] at h; exact h) ls H locs hl hP hS)
/-- if lt: x < 0 -/
theorem r_if_lt (C : CX cc own G S n hc rt rv w0 V) {x : Int32} {off : Int} (tgt : Nat) {A B : Option α} (hd : decode cc pc = .ok (.ifCond .lt off, 3)) (ht : (pc : Int) + off = (tgt : Int)) (h : (if x < 0 then A else B) = some res) (kt : A = some res → V w tgt L rest) (kf : B = some res → V w (pc + 3) L rest) : V w pc L (.int x :: rest) := by
  obtain ⟨p, l, e, s, m, args, below, meth, c, rfl, hx, hb, hml, hown, hts, hK, hI, hST, hlk, hrt⟩ := C
  exact fun ls H locs hl hP hS => lv_if_lt hx hb hd ht (fun c => kt (by rw [if_pos c] at h; exact h) ls H locs hl hP hS) (fun c => kf (by rw [if_neg (c)] at h; exact h) ls H locs hl hP hS)
/-- if ge: 0 ≤ x -/
theorem r_if_ge (C : CX cc own G S n hc rt rv w0 V) {x : Int32} {off : Int} (tgt : Nat) {A B : Option α} (hd : decode cc pc = .ok (.ifCond .ge off, 3)) (ht : (pc : Int) + off = (tgt : Int)) (h : (if 0 ≤ x then A else B) = some res) (kt : A = some res → V w tgt L rest) (kf : B = some res → V w (pc + 3) L rest) : V w pc L (.int x :: rest) := by
  obtain ⟨p, l, e, s, m, args, below, meth, c, rfl, hx, hb, hml, hown, hts, hK, hI, hST, hlk, hrt⟩ := C
  exact fun ls H locs hl hP hS => lv_if_ge hx hb hd ht (fun c => kt (by rw [if_pos c] at h; exact h) ls H locs hl hP hS) (fun c => kf (by rw [if_neg (c)] at h; exact h) ls H locs hl hP hS)
/-- if gt: 0 < x -/
theorem r_if_gt (C : CX cc own G S n hc rt rv w0 V) {x : Int32} {off : Int} (tgt : Nat) {A B : Option α} (hd : decode cc pc = .ok (.ifCond .gt off, 3)) (ht : (pc : Int) + off = (tgt : Int)) (h : (if 0 < x then A else B) = some res) (kt : A = some res → V w tgt L rest) (kf : B = some res → V w (pc + 3) L rest) : V w pc L (.int x :: rest) := by
  obtain ⟨p, l, e, s, m, args, below, meth, c, rfl, hx, hb, hml, hown, hts, hK, hI, hST, hlk, hrt⟩ := C
  exact fun ls H locs hl hP hS => lv_if_gt hx hb hd ht (fun c => kt (by rw [if_pos c] at h; exact h) ls H locs hl hP hS) (fun c => kf (by rw [if_neg (c)] at h; exact h) ls H locs hl hP hS)
/-- if le: x ≤ 0 -/
theorem r_if_le (C : CX cc own G S n hc rt rv w0 V) {x : Int32} {off : Int} (tgt : Nat) {A B : Option α} (hd : decode cc pc = .ok (.ifCond .le off, 3)) (ht : (pc : Int) + off = (tgt : Int)) (h : (if x ≤ 0 then A else B) = some res) (kt : A = some res → V w tgt L rest) (kf : B = some res → V w (pc + 3) L rest) : V w pc L (.int x :: rest) := by
  obtain ⟨p, l, e, s, m, args, below, meth, c, rfl, hx, hb, hml, hown, hts, hK, hI, hST, hlk, hrt⟩ := C
  exact fun ls H locs hl hP hS => lv_if_le hx hb hd ht (fun c => kt (by rw [if_pos c] at h; exact h) ls H locs hl hP hS) (fun c => kf (by rw [if_neg (c)] at h; exact h) ls H locs hl hP hS)
/-- icmp eq: x = y -/
theorem r_icmp_eq (C : CX cc own G S n hc rt rv w0 V) {x y : Int32} {off : Int} (tgt : Nat) {A B : Option α} (hd : decode cc pc = .ok (.if_icmp .eq off, 3)) (ht : (pc : Int) + off = (tgt : Int)) (h : (if x = y then A else B) = some res) (kt : A = some res → V w tgt L rest) (kf : B = some res → V w (pc + 3) L rest) : V w pc L (.int y :: .int x :: rest) := by
  obtain ⟨p, l, e, s, m, args, below, meth, c, rfl, hx, hb, hml, hown, hts, hK, hI, hST, hlk, hrt⟩ := C
  exact fun ls H locs hl hP hS => lv_icmp_eq hx hb hd ht (fun c => kt (by rw [if_pos c] at h; exact h) ls H locs hl hP hS) (fun c => kf (by rw [if_neg (c)] at h; exact h) ls H locs hl hP hS)
/-- icmp ne: ¬ x = y -/
theorem r_icmp_ne (C : CX cc own G S n hc rt rv w0 V) {x y : Int32} {off : Int} (tgt : Nat) {A B : Option α} (hd : decode cc pc = .ok (.if_icmp .ne off, 3)) (ht : (pc : Int) + off = (tgt : Int)) (h : (if ¬ x = y then A else B) = some res) (kt : A = some res → V w tgt L rest) (kf : B = some res → V w (pc + 3) L rest) : V w pc L (.int y :: .int x :: rest) := by
  obtain ⟨p, l, e, s, m, args, below, meth, c, rfl, hx, hb, hml, hown, hts, hK, hI, hST, hlk, hrt⟩ := C
  exact fun ls H locs hl hP hS => lv_icmp_ne hx hb hd ht (fun c => kt (by rw [if_pos c] at h; exact h) ls H locs hl hP hS) (fun c => kf (by rw [if_neg (fun q => q c)] at h; exact h) ls H locs hl hP hS)
/-- icmp lt: x < y -/
theorem r_icmp_lt (C : CX cc own G S n hc rt rv w0 V) {x y : Int32} {off : Int} (tgt : Nat) {A B : Option α} (hd : decode cc pc = .ok (.if_icmp .lt off, 3)) (ht : (pc : Int) + off = (tgt : Int)) (h : (if x < y then A else B) = some res) (kt : A = some res → V w tgt L rest) (kf : B = some res → V w (pc + 3) L rest) : V w pc L (.int y :: .int x :: rest) := by
  obtain ⟨p, l, e, s, m, args, below, meth, c, rfl, hx, hb, hml, hown, hts, hK, hI, hST, hlk, hrt⟩ := C
  exact fun ls H locs hl hP hS => lv_icmp_lt hx hb hd ht (fun c => kt (by rw [if_pos c] at h; exact h) ls H locs hl hP hS) (fun c => kf (by rw [if_neg (c)] at h; exact h) ls H locs hl hP hS)
/-- icmp ge: y ≤ x -/
theorem r_icmp_ge (C : CX cc own G S n hc rt rv w0 V) {x y : Int32} {off : Int} (tgt : Nat) {A B : Option α} (hd : decode cc pc = .ok (.if_icmp .ge off, 3)) (ht : (pc : Int) + off = (tgt : Int)) (h : (if y ≤ x then A else B) = some res) (kt : A = some res → V w tgt L rest) (kf : B = some res → V w (pc + 3) L rest) : V w pc L (.int y :: .int x :: rest) := by
  obtain ⟨p, l, e, s, m, args, below, meth, c, rfl, hx, hb, hml, hown, hts, hK, hI, hST, hlk, hrt⟩ := C
  exact fun ls H locs hl hP hS => lv_icmp_ge hx hb hd ht (fun c => kt (by rw [if_pos c] at h; exact h) ls H locs hl hP hS) (fun c => kf (by rw [if_neg (c)] at h; exact h) ls H locs hl hP hS)
/-- icmp gt: y < x -/
theorem r_icmp_gt (C : CX cc own G S n hc rt rv w0 V) {x y : Int32} {off : Int} (tgt : Nat) {A B : Option α} (hd : decode cc pc = .ok (.if_icmp .gt off, 3)) (ht : (pc : Int) + off = (tgt : Int)) (h : (if y < x then A else B) = some res) (kt : A = some res → V w tgt L rest) (kf : B = some res → V w (pc + 3) L rest) : V w pc L (.int y :: .int x :: rest) := by
  obtain ⟨p, l, e, s, m, args, below, meth, c, rfl, hx, hb, hml, hown, hts, hK, hI, hST, hlk, hrt⟩ := C
  exact fun ls H locs hl hP hS => lv_icmp_gt hx hb hd ht (fun c => kt (by rw [if_pos c] at h; exact h) ls H locs hl hP hS) (fun c => kf (by rw [if_neg (c)] at h; exact h) ls H locs hl hP hS)
/-- icmp le: x ≤ y -/
theorem r_icmp_le (C : CX cc own G S n hc rt rv w0 V) {x y : Int32} {off : Int} (tgt : Nat) {A B : Option α} (hd : decode cc pc = .ok (.if_icmp .le off, 3)) (ht : (pc : Int) + off = (tgt : Int)) (h : (if x ≤ y then A else B) = some res) (kt : A = some res → V w tgt L rest) (kf : B = some res → V w (pc + 3) L rest) : V w pc L (.int y :: .int x :: rest) := by
  obtain ⟨p, l, e, s, m, args, below, meth, c, rfl, hx, hb, hml, hown, hts, hK, hI, hST, hlk, hrt⟩ := C
  exact fun ls H locs hl hP hS => lv_icmp_le hx hb hd ht (fun c => kt (by rw [if_pos c] at h; exact h) ls H locs hl hP hS) (fun c => kf (by rw [if_neg (c)] at h; exact h) ls H locs hl hP hS)
theorem r_ifnull (C : CX cc own G S n hc rt rv w0 V) {x : Nat} {off : Int} (hd : decode cc pc = .ok (.ifnull off, 3)) (kk : V w (pc + 3) L rest) : V w pc L (.ref x :: rest) := by
  obtain ⟨p, l, e, s, m, args, below, meth, c, rfl, hx, hb, hml, hown, hts, hK, hI, hST, hlk, hrt⟩ := C
  exact fun ls H locs hl hP hS => lv_ifnull hx hb hd (kk ls H locs hl hP hS)
theorem r_ifnonnull (C : CX cc own G S n hc rt rv w0 V) {x : Nat} {off : Int} (tgt : Nat) (hd : decode cc pc = .ok (.ifnonnull off, 3)) (ht : (pc : Int) + off = (tgt : Int)) (kk : V w tgt L rest) : V w pc L (.ref x :: rest) := by
  obtain ⟨p, l, e, s, m, args, below, meth, c, rfl, hx, hb, hml, hown, hts, hK, hI, hST, hlk, hrt⟩ := C
  exact fun ls H locs hl hP hS => lv_ifnonnull hx hb hd ht (kk ls H locs hl hP hS)
theorem r_ifnullN (C : CX cc own G S n hc rt rv w0 V) {off : Int} (tgt : Nat) (hd : decode cc pc = .ok (.ifnull off, 3)) (ht : (pc : Int) + off = (tgt : Int)) (kk : V w tgt L rest) : V w pc L (.null :: rest) := by
  obtain ⟨p, l, e, s, m, args, below, meth, c, rfl, hx, hb, hml, hown, hts, hK, hI, hST, hlk, hrt⟩ := C
  exact fun ls H locs hl hP hS => lv_ifnullN hx hb hd ht (kk ls H locs hl hP hS)
theorem r_ifnonnullN (C : CX cc own G S n hc rt rv w0 V) {off : Int} (hd : decode cc pc = .ok (.ifnonnull off, 3)) (kk : V w (pc + 3) L rest) : V w pc L (.null :: rest) := by
  obtain ⟨p, l, e, s, m, args, below, meth, c, rfl, hx, hb, hml, hown, hts, hK, hI, hST, hlk, hrt⟩ := C
  exact fun ls H locs hl hP hS => lv_ifnonnullN hx hb hd (kk ls H locs hl hP hS)
theorem r_nz_div (C : CX cc own G S n hc rt rv w0 V) {x y : Int32} {A : Option α} (hd : decode cc pc = .ok (.idiv, 1)) (h : nz y A = some res) (kk : A = some res → V w (pc + 1) L (.int (x / y) :: rest)) : V w pc L (.int y :: .int x :: rest) := by
  unfold nz at h
  by_cases hy : y = 0
  · rw [if_pos hy] at h; cases h
  rw [if_neg hy] at h
  obtain ⟨p, l, e, s, m, args, below, meth, c, rfl, hx, hb, hml, hown, hts, hK, hI, hST, hlk, hrt⟩ := C
  exact fun ls H locs hl hP hS => lv_idiv hx hb hd hy (kk h ls H locs hl hP hS)
theorem r_nz_rem (C : CX cc own G S n hc rt rv w0 V) {x y : Int32} {A : Option α} (hd : decode cc pc = .ok (.irem, 1)) (h : nz y A = some res) (kk : A = some res → V w (pc + 1) L (.int (x - x / y * y) :: rest)) : V w pc L (.int y :: .int x :: rest) := by
  unfold nz at h
  by_cases hy : y = 0
  · rw [if_pos hy] at h; cases h
  rw [if_neg hy] at h
  obtain ⟨p, l, e, s, m, args, below, meth, c, rfl, hx, hb, hml, hown, hts, hK, hI, hST, hlk, hrt⟩ := C
  exact fun ls H locs hl hP hS => lv_irem hx hb hd hy (kk h ls H locs hl hP hS)
theorem r_ldc (C : CX cc own G S n hc rt rv w0 V) {idx : Nat} {v : Int32} (hd : decode cc pc = .ok (.ldc idx, 2)) (q : Cond.constant own idx v ∈ TB) (kk : V w (pc + 2) L (.int v :: rest)) : V w pc L rest := by
  obtain ⟨p, l, e, s, m, args, below, meth, c, rfl, hx, hb, hml, hown, hts, hK, hI, hST, hlk, hrt⟩ := C
  exact fun ls H locs hl hP hS => lv_ldc hx hb hown (hts _ q) hd (kk ls H locs hl hP hS)
theorem r_ldcw (C : CX cc own G S n hc rt rv w0 V) {idx : Nat} {v : Int32} (hd : decode cc pc = .ok (.ldc_w idx, 3)) (q : Cond.constant own idx v ∈ TB) (kk : V w (pc + 3) L (.int v :: rest)) : V w pc L rest := by
  obtain ⟨p, l, e, s, m, args, below, meth, c, rfl, hx, hb, hml, hown, hts, hK, hI, hST, hlk, hrt⟩ := C
  exact fun ls H locs hl hP hS => lv_ldcw hx hb hown (hts _ q) hd (kk ls H locs hl hP hS)
theorem r_ldc2 (C : CX cc own G S n hc rt rv w0 V) {idx : Nat} {v : Int64} (hd : decode cc pc = .ok (.ldc2_w idx, 3)) (q : Cond.constantLong own idx v ∈ TB) (kk : V w (pc + 3) L (.long v :: rest)) : V w pc L rest := by
  obtain ⟨p, l, e, s, m, args, below, meth, c, rfl, hx, hb, hml, hown, hts, hK, hI, hST, hlk, hrt⟩ := C
  exact fun ls H locs hl hP hS => lv_ldc2 hx hb hown (hts _ q) hd (kk ls H locs hl hP hS)
theorem r_lv {x : Int32} {K : Int32 → Option α} (h : lv x K = some res) (kk : ∀ y : Int32, K y = some res → V w pc L (.int y :: rest)) : V w pc L (.int x :: rest) := kk x h
theorem r_lvl {x : Int64} {K : Int64 → Option α} (h : lvl x K = some res) (kk : ∀ y : Int64, K y = some res → V w pc L (.long y :: rest)) : V w pc L (.long x :: rest) := kk x h
theorem r_zk {x : Int32} {A : Option α} {P : Prop} (h : zk x A = some res) (kk : narrow .boolean (.int x) = .int x → A = some res → P) : P := by
  unfold zk at h
  by_cases hx : vp_nar .boolean x = x
  · rw [if_pos hx] at h
    refine kk ?_ h
    have e : narrow .boolean (.int x) = .int (vp_nar .boolean x) := rfl
    rw [e, hx]
  · rw [if_neg hx] at h; cases h
theorem r_gd {b : Bool} {A : Option α} {P : Prop} (h : gd b A = some res) (kk : b = true → A = some res → P) : P := by
  unfold gd at h
  by_cases hx : b = true
  · rw [if_pos hx] at h
    exact kk hx h
  · rw [if_neg hx] at h; cases h
theorem r_oc {x : Option Nat} {g : Nat → Bool} {A : Option α} {B : Nat → Option α} (h : oc x g A B = some res) (kn : A = some res → V w pc L (.null :: rest)) (ks : ∀ r, g r = true → B r = some res → V w pc L (.ref (G.2 r) :: rest)) : V w pc L (va_re G.2 x :: rest) := by
  cases x with
  | none => exact kn h
  | some r =>
    have h : (if g r = true then B r else none) = some res := h
    by_cases hx : g r = true
    · rw [if_pos hx] at h
      exact ks r hx h
    · rw [if_neg hx] at h; cases h
theorem r_gf (C : CX cc own G S n hc rt rv w0 V) {ci j N idx : Nat} {sl : List Nat} {Cn ref : String} {T : u_T} {k : Nat} {cd : Nat} (hd : decode cc pc = .ok (.getfield idx, 3)) (hk : inS S k ∧ S.1 k = (0, ci, sl)) (hcl : vwCl[ci]? = some (Cn, T, N)) (hin : ∀ z ∈ u_ws Cn T N, z ∈ TB) (hj : j < N) (hq : Cond.fieldLink own idx ref (T j).2.1 (T j).2.2.1 ∈ TB) (hsame : ref = (T j).1) (hs : sl[j]? = some cd) (kk : V w (pc + 3) L (slotV G (w k) j cd :: rest)) : V w pc L (.ref (G.2 k) :: rest) := by
  obtain ⟨hk1, hk2⟩ := hk
  subst hsame
  obtain ⟨p, l, e, s, m, args, below, meth, c, rfl, hx, hb, hml, hown, hts, hK, hI, hST, hlk, hrt⟩ := C
  intro ls H locs hl hP hS
  have he := cells_get (G := G) (w := w) hk1
  rw [hk2] at he
  exact va_get hx hb hts hin hown hK hP (k - S.2.1) he hcl j hj (hts _ hq) (fun _ h9 => h9) (slotsV_get hs) hd (kk ls H locs hl hP hS)
theorem r_pf (C : CX cc own G S n hc rt rv w0 V) {ci j N idx : Nat} {sl : List Nat} {Cn ref : String} {T : u_T} {k : Nat} {cd : Nat} {x : Int32} {v : Value} {ty : FieldType} (ty0 : Nat → FieldType) (hd : decode cc pc = .ok (.putfield idx, 3)) (hk : inS S k ∧ S.1 k = (0, ci, sl)) (hcl : vwCl[ci]? = some (Cn, T, N)) (hin : ∀ z ∈ u_ws Cn T N, z ∈ TB) (hj : j < N) (hq : Cond.fieldLink own idx ref (T j).2.1 (T j).2.2.1 ∈ TB) (hsame : ref = (T j).1) (hty : ∀ a, a < N → parseFieldDescriptor (T a).2.2.1 = some (ty0 a)) (hnm : ∀ a, a < N → ∀ b, b < N → a ≠ b → (T a).2.1 ≠ (T b).2.1) (hfin : (T j).2.2.2 = false) (hdd : parseFieldDescriptor (T j).2.2.1 = some ty) (hn : narrow ty v = v) (hfit : fits ty v = true) (hs : sl[j]? = some cd) (hv : v = slotV G (upd (w k) j x) j cd) (kk : V (updW w k j x) (pc + 3) L rest) : V w pc L (v :: .ref (G.2 k) :: rest) := by
  obtain ⟨hk1, hk2⟩ := hk
  subst hsame
  obtain ⟨p, l, e, s, m, args, below, meth, c, rfl, hx, hb, hml, hown, hts, hK, hI, hST, hlk, hrt⟩ := C
  intro ls H locs hl hP hS
  have he := cells_get (G := G) (w := w) hk1
  have hset := cells_set (G := G) (w := w) hk1 (upd (w k) j x)
  rw [hk2] at he hset
  refine va_put hx hb hts hin ty0 hty hnm hown hK hP (cells_D hI w) hS (k - S.2.1) he hcl j hj (hts _ hq) (fun _ h9 => h9) hfin hdd hn hfit (by rw [slotsV_len]; exact (List.getElem?_eq_some_iff.mp hs).1) hd (fun H1 locs1 hP1 _ hS1 => ?_)
  rw [slotsV_set hs hv] at hP1
  exact kk ls H1 locs1 hl (by rw [← hset]; exact hP1) hS1
theorem r_ald (C : CX cc own G S n hc rt rv w0 V) {k N : Nat} {x : List Nat} {i : Int32} {K : Int32 → Option α} (hd : decode cc pc = .ok (.iaload, 1)) (h : ald w k N i K = some res) (hk : inS S k ∧ S.1 k = (1, N, x)) (kk : ∀ v, K v = some res → V w (pc + 1) L (.int v :: rest)) : V w pc L (.int i :: .ref (G.2 k) :: rest) := by
  unfold ald at h
  by_cases hi : bad i N = true
  · rw [if_pos hi] at h; cases h
  rw [if_neg hi] at h
  obtain ⟨hk1, hk2⟩ := hk
  obtain ⟨p, l, e, s, m, args, below, meth, c, rfl, hx, hb, hml, hown, hts, hK, hI, hST, hlk, hrt⟩ := C
  intro ls H locs hl hP hS
  have he := cells_get (G := G) (w := w) hk1
  rw [hk2] at he
  exact va_iald hx hb hK hP (k - S.2.1) 0 he rfl (bad_in (by simpa using hi)) hd (kk _ h ls H locs hl hP hS)
theorem r_zld (C : CX cc own G S n hc rt rv w0 V) {k N : Nat} {x : List Nat} {i : Int32} {K : Int32 → Option α} (hd : decode cc pc = .ok (.baload, 1)) (h : ald w k N i K = some res) (hk : inS S k ∧ S.1 k = (2, N, x)) (kk : ∀ v, K v = some res → V w (pc + 1) L (.int v :: rest)) : V w pc L (.int i :: .ref (G.2 k) :: rest) := by
  unfold ald at h
  by_cases hi : bad i N = true
  · rw [if_pos hi] at h; cases h
  rw [if_neg hi] at h
  obtain ⟨hk1, hk2⟩ := hk
  obtain ⟨p, l, e, s, m, args, below, meth, c, rfl, hx, hb, hml, hown, hts, hK, hI, hST, hlk, hrt⟩ := C
  intro ls H locs hl hP hS
  have he := cells_get (G := G) (w := w) hk1
  rw [hk2] at he
  exact va_zald hx hb hK hP (k - S.2.1) 1 he rfl (bad_in (by simpa using hi)) hd (kk _ h ls H locs hl hP hS)
theorem r_ast (C : CX cc own G S n hc rt rv w0 V) {k N : Nat} {x : List Nat} {i v : Int32} {K : Wd → Option α} (hd : decode cc pc = .ok (.iastore, 1)) (h : ast w k N i v K = some res) (hk : inS S k ∧ S.1 k = (1, N, x)) (kk : ∀ w1, K w1 = some res → V w1 (pc + 1) L rest) : V w pc L (.int v :: .int i :: .ref (G.2 k) :: rest) := by
  unfold ast at h
  by_cases hi : bad i N = true
  · rw [if_pos hi] at h; cases h
  rw [if_neg hi] at h
  obtain ⟨hk1, hk2⟩ := hk
  obtain ⟨p, l, e, s, m, args, below, meth, c, rfl, hx, hb, hml, hown, hts, hK, hI, hST, hlk, hrt⟩ := C
  intro ls H locs hl hP hS
  have he := cells_get (G := G) (w := w) hk1
  have hset := cells_set (G := G) (w := w) hk1 (upd (w k) i.toNatClampNeg v)
  rw [hk2] at he hset
  exact va_iast hx hb hK hP (cells_D hI w) hS (k - S.2.1) 0 he rfl (bad_in (by simpa using hi)) hd (fun H1 locs1 hP1 _ hS1 => kk _ h ls H1 locs1 hl (by rw [← hset]; exact hP1) hS1)
theorem r_zst (C : CX cc own G S n hc rt rv w0 V) {k N : Nat} {x : List Nat} {i v : Int32} {K : Wd → Option α} (hd : decode cc pc = .ok (.bastore, 1)) (h : zst w k N i v K = some res) (hk : inS S k ∧ S.1 k = (2, N, x)) (kk : ∀ w1, K w1 = some res → V w1 (pc + 1) L rest) : V w pc L (.int v :: .int i :: .ref (G.2 k) :: rest) := by
  unfold zst at h
  by_cases hi : bad i N = true
  · rw [if_pos hi] at h; cases h
  rw [if_neg hi] at h
  obtain ⟨hk1, hk2⟩ := hk
  obtain ⟨p, l, e, s, m, args, below, meth, c, rfl, hx, hb, hml, hown, hts, hK, hI, hST, hlk, hrt⟩ := C
  intro ls H locs hl hP hS
  have he := cells_get (G := G) (w := w) hk1
  have hset := cells_set (G := G) (w := w) hk1 (upd (w k) i.toNatClampNeg (vp_nar .boolean v))
  rw [hk2] at he hset
  exact va_zast hx hb hK hP (cells_D hI w) hS (k - S.2.1) 1 he rfl (bad_in (by simpa using hi)) hd (fun H1 locs1 hP1 _ hS1 => kk _ h ls H1 locs1 hl (by rw [← hset]; exact hP1) hS1)
theorem r_qld (C : CX cc own G S n hc rt rv w0 V) {k N : Nat} {ts : List Nat} {i : Int32} {K : Nat → Option α} (hd : decode cc pc = .ok (.aaload, 1)) (h : qld ts i K = some res) (hk : inS S k ∧ S.1 k = (3, N, ts)) (kk : ∀ r, K r = some res → V w (pc + 1) L (.ref (G.2 r) :: rest)) : V w pc L (.int i :: .ref (G.2 k) :: rest) := by
  unfold qld at h
  by_cases hi : bad i ts.length = true
  · rw [if_pos hi] at h; cases h
  rw [if_neg hi] at h
  obtain ⟨hk1, hk2⟩ := hk
  obtain ⟨p, l, e, s, m, args, below, meth, c, rfl, hx, hb, hml, hown, hts, hK, hI, hST, hlk, hrt⟩ := C
  intro ls H locs hl hP hS
  have he := cells_get (G := G) (w := w) hk1
  rw [hk2] at he
  have hin := bad_in (i := i) (n := ts.length) (by simpa using hi)
  have hlt : i.toNatClampNeg < ts.length := Nat.not_le.mp fun q => hin (Or.inr q)
  refine va_aldq hx hb hK hP (k - S.2.1) 2 he rfl hin hd ?_
  have eq9 : (ts[i.toNatClampNeg]?).map G.2 = some (G.2 (ts.getD i.toNatClampNeg 0)) := by
    rw [List.getElem?_eq_getElem hlt, List.getD_eq_getElem?_getD, List.getElem?_eq_getElem hlt]; rfl
  show W p l e (Rm hc) s m args below meth c H locs 0 0 _ (F0 m (pc + 1) ls (va_rf ((ts[i.toNatClampNeg]?).map G.2) :: rest))
  rw [eq9]
  exact kk _ h ls H locs hl hP hS
theorem r_alen (C : CX cc own G S n hc rt rv w0 V) {k N : Nat} {x : List Nat} (hd : decode cc pc = .ok (.arraylength, 1)) (hk : inS S k ∧ S.1 k = (1, N, x)) (kk : V w (pc + 1) L (.int (nI N) :: rest)) : V w pc L (.ref (G.2 k) :: rest) := by
  obtain ⟨hk1, hk2⟩ := hk
  obtain ⟨p, l, e, s, m, args, below, meth, c, rfl, hx, hb, hml, hown, hts, hK, hI, hST, hlk, hrt⟩ := C
  intro ls H locs hl hP hS
  have he := cells_get (G := G) (w := w) hk1
  rw [hk2] at he
  exact va_alen hx hb hK hP (k - S.2.1) 0 he (ty := .int) rfl rfl hd (kk ls H locs hl hP hS)
theorem r_getsA (C : CX cc own G S n hc rt rv w0 V) {idx : Nat} (hd : decode cc pc = .ok (.getstatic idx, 3)) (hq : Cond.fieldLink own idx RX8 "ABOVE" "[I" ∈ TB) (kk : V w (pc + 3) L (.ref (G.2 1006) :: rest)) : V w pc L rest := by
  obtain ⟨p, l, e, s, m, args, below, meth, c, rfl, hx, hb, hml, hown, hts, hK, hI, hST, hlk, hrt⟩ := C
  exact fun ls H locs hl hP hS => va_gets hx hb hST.1.1 hS hown (hts _ hq) (fun _ h9 => h9) hd (kk ls H locs hl hP hS)
theorem r_getsAN (C : CX cc RX7 G S n hc rt rv w0 V) (hd : decode cc pc = .ok (.getstatic 48, 3)) (kk : V w (pc + 3) L (.ref (G.2 1006) :: rest)) : V w pc L rest := by
  obtain ⟨p, l, e, s, m, args, below, meth, c, rfl, hx, hb, hml, hown, hts, hK, hI, hST, hlk, hrt⟩ := C
  exact fun ls H locs hl hP hS => va_getsN hx hb hST.1.1 hS hown (va_Nw.use rfl hST.2.2.1) (fun _ h9 => h9) hd (kk ls H locs hl hP hS)
theorem r_getsB (C : CX cc own G S n hc rt rv w0 V) {idx : Nat} (hd : decode cc pc = .ok (.getstatic idx, 3)) (hq : Cond.fieldLink own idx RX7 "BODIES" "[I" ∈ TB) (kk : V w (pc + 3) L (.ref (G.2 1007) :: rest)) : V w pc L rest := by
  obtain ⟨p, l, e, s, m, args, below, meth, c, rfl, hx, hb, hml, hown, hts, hK, hI, hST, hlk, hrt⟩ := C
  exact fun ls H locs hl hP hS => va_gets hx hb hST.1.2.2.1 hS hown (hts _ hq) (fun _ h9 => h9) hd (kk ls H locs hl hP hS)
theorem r_tldA (C : CX cc own G S n hc rt rv w0 V) {i : Int32} {K : Int32 → Option α} (hd : decode cc pc = .ok (.iaload, 1)) (h : tld tblA 7 i K = some res) (kk : ∀ v, K v = some res → V w (pc + 1) L (.int v :: rest)) : V w pc L (.int i :: .ref (G.2 1006) :: rest) := by
  unfold tld at h
  by_cases hi : bad i 7 = true
  · rw [if_pos hi] at h; cases h
  rw [if_neg hi] at h
  obtain ⟨p, l, e, s, m, args, below, meth, c, rfl, hx, hb, hml, hown, hts, hK, hI, hST, hlk, hrt⟩ := C
  exact fun ls H locs hl hP hS => va_ti hx hb hST.1.2.1 hS (bad_in (by simpa using hi)) rfl hd (kk _ h ls H locs hl hP hS)
theorem r_tldB (C : CX cc own G S n hc rt rv w0 V) {i : Int32} {K : Int32 → Option α} (hd : decode cc pc = .ok (.iaload, 1)) (h : tld tblB 28 i K = some res) (kk : ∀ v, K v = some res → V w (pc + 1) L (.int v :: rest)) : V w pc L (.int i :: .ref (G.2 1007) :: rest) := by
  unfold tld at h
  by_cases hi : bad i 28 = true
  · rw [if_pos hi] at h; cases h
  rw [if_neg hi] at h
  obtain ⟨p, l, e, s, m, args, below, meth, c, rfl, hx, hb, hml, hown, hts, hK, hI, hST, hlk, hrt⟩ := C
  exact fun ls H locs hl hP hS => va_ti hx hb hST.1.2.2.2.1 hS (bad_in (by simpa using hi)) rfl hd (kk _ h ls H locs hl hP hS)
theorem r_iret {x : Int32} (C : CX cc own G S n hc (some .int) (some (.int x)) w V)  (hd : decode cc pc = .ok (.ireturn, 1)) : V w pc L [.int x] := by
  obtain ⟨p, l, e, s, m, args, below, meth, c, rfl, hx, hb, hml, hown, hts, hK, hI, hST, hlk, hrt⟩ := C
  intro ls H locs hl hP hS
  exact W.iret hx hb hrt  (fun t ht hW => ⟨rfl, by rw [ht]; exact hP, hS.F ht⟩) hS.2.2 hd hlk
theorem r_zret {x : Int32} (C : CX cc own G S n hc (some .boolean) (some (.int x)) w V)  (hn : narrow .boolean (.int x) = .int x) (hd : decode cc pc = .ok (.ireturn, 1)) : V w pc L [.int x] := by
  obtain ⟨p, l, e, s, m, args, below, meth, c, rfl, hx, hb, hml, hown, hts, hK, hI, hST, hlk, hrt⟩ := C
  intro ls H locs hl hP hS
  exact W.zret hx hb hrt hn (fun t ht hW => ⟨rfl, by rw [ht]; exact hP, hS.F ht⟩) hS.2.2 hd hlk
theorem r_bret {x : Int32} (C : CX cc own G S n hc (some .byte) (some (.int x)) w V)  (hn : narrow .byte (.int x) = .int x) (hd : decode cc pc = .ok (.ireturn, 1)) : V w pc L [.int x] := by
  obtain ⟨p, l, e, s, m, args, below, meth, c, rfl, hx, hb, hml, hown, hts, hK, hI, hST, hlk, hrt⟩ := C
  intro ls H locs hl hP hS
  exact W.zret hx hb hrt hn (fun t ht hW => ⟨rfl, by rw [ht]; exact hP, hS.F ht⟩) hS.2.2 hd hlk
theorem r_vret  (C : CX cc own G S n hc none none w V)  (hd : decode cc pc = .ok (.return_, 1)) : V w pc L [] := by
  obtain ⟨p, l, e, s, m, args, below, meth, c, rfl, hx, hb, hml, hown, hts, hK, hI, hST, hlk, hrt⟩ := C
  intro ls H locs hl hP hS
  exact W.vret hx hb hrt  (fun t ht hW => ⟨rfl, by rw [ht]; exact hP, hS.F ht⟩) hS.2.2 hd hlk
theorem r_aret {cn : String} {a : Nat} (C : CX cc own G S n hc (some (.object cn)) (some (.ref a)) w V)   (hd : decode cc pc = .ok (.areturn, 1)) : V w pc L [.ref a] := by
  obtain ⟨p, l, e, s, m, args, below, meth, c, rfl, hx, hb, hml, hown, hts, hK, hI, hST, hlk, hrt⟩ := C
  intro ls H locs hl hP hS
  exact W.aret hx hb hrt (Or.inl ⟨cn, rfl⟩) (Or.inr ⟨a, rfl⟩) (fun t ht hW => ⟨rfl, by rw [ht]; exact hP, hS.F ht⟩) hS.2.2 hd hlk
theorem r_aretN {cn : String} (C : CX cc own G S n hc (some (.object cn)) (some .null) w V)  (hd : decode cc pc = .ok (.areturn, 1)) : V w pc L [.null] := by
  obtain ⟨p, l, e, s, m, args, below, meth, c, rfl, hx, hb, hml, hown, hts, hK, hI, hST, hlk, hrt⟩ := C
  intro ls H locs hl hP hS
  exact W.aret hx hb hrt (Or.inl ⟨cn, rfl⟩) (Or.inl rfl) (fun t ht hW => ⟨rfl, by rw [ht]; exact hP, hS.F ht⟩) hS.2.2 hd hlk
/-- mmin: if y < x then y else x -/
def mmin (x y : Int32) : Int32 := if y < x then y else x
theorem r_mmin (C : CX cc own G S n (hc + 1) rt rv w0 V) {x y : Int32} {idx : Nat} (hd : decode cc pc = .ok (.invokestatic idx, 3)) (q1 : Cond.methodLink own idx Lib.Math.min.name ∈ TB) (q2 : Cond.static Lib.Math.min.name ∈ TB) (q3 : Cond.initialized "java/lang/Math" ∈ TB) (q4 : Cond.code Lib.Math.min.name Lib.Math.min.code 2 (some .int) ∈ TB) (hr : (rest.map fun v => v.category).sum ≤ 8) (kk : V w (pc + 3) L (.int (mmin x y) :: rest)) : V w pc L (.int y :: .int x :: rest) := by
  obtain ⟨p, l, e, s, m, args, below, meth, c, rfl, hx, hb, hml, hown, hts, hK, hI, hST, hlk, hrt⟩ := C
  intro ls H locs hl hP hS
  exact va_mmin hx hb (by rw [hml]; exact hl.1.symm) hown (hts _ q1) (hts _ q2) (hts _ q3) (hts _ q4) (by show 1 ≤ hc + 1; omega) (by show _ + 13 ≤ 40 * (hc + 1); omega) (Nat.zero_le _) (Nat.zero_le _) hd (kk ls H locs hl hP hS)
/-- mmax: if x < y then y else x -/
def mmax (x y : Int32) : Int32 := if x < y then y else x
theorem r_mmax (C : CX cc own G S n (hc + 1) rt rv w0 V) {x y : Int32} {idx : Nat} (hd : decode cc pc = .ok (.invokestatic idx, 3)) (q1 : Cond.methodLink own idx Lib.Math.max.name ∈ TB) (q2 : Cond.static Lib.Math.max.name ∈ TB) (q3 : Cond.initialized "java/lang/Math" ∈ TB) (q4 : Cond.code Lib.Math.max.name Lib.Math.max.code 2 (some .int) ∈ TB) (hr : (rest.map fun v => v.category).sum ≤ 8) (kk : V w (pc + 3) L (.int (mmax x y) :: rest)) : V w pc L (.int y :: .int x :: rest) := by
  obtain ⟨p, l, e, s, m, args, below, meth, c, rfl, hx, hb, hml, hown, hts, hK, hI, hST, hlk, hrt⟩ := C
  intro ls H locs hl hP hS
  exact va_mmax hx hb (by rw [hml]; exact hl.1.symm) hown (hts _ q1) (hts _ q2) (hts _ q3) (hts _ q4) (by show 1 ≤ hc + 1; omega) (by show _ + 13 ≤ 40 * (hc + 1); omega) (Nat.zero_le _) (Nat.zero_le _) hd (kk ls H locs hl hP hS)
theorem native_ok {k hc : Nat} (h : k ≤ 8) : k + (nativeFrameWords "java/lang/System" "arraycopy" 5 + 11) ≤ (Rm (hc + 1)).locals := by
  have h1 : nativeFrameWords "java/lang/System" "arraycopy" 5 ≤ 20 := by decide
  show k + (nativeFrameWords "java/lang/System" "arraycopy" 5 + 11) ≤ 40 * (hc + 1)
  omega
theorem r_cpy (C : CX cc own G S n (hc + 1) rt rv w0 V) {k0 n0 k1 n1 : Nat} {x0 x1 : List Nat} {sp dp m0 : Int32} {idx : Nat} {K : Wd → Option α} (hd : decode cc pc = .ok (.invokestatic idx, 3)) (h : cpy w k0 n0 sp k1 n1 dp m0 K = some res) (hk0 : inS S k0 ∧ S.1 k0 = (1, n0, x0)) (hk1 : inS S k1 ∧ S.1 k1 = (1, n1, x1)) (q1 : Cond.methodLink own idx arraycopyName ∈ TB) (q2 : Cond.native arraycopyName ∈ TB) (q3 : Cond.static arraycopyName ∈ TB) (q4 : Cond.initialized "java/lang/System" ∈ TB) (hr : (rest.map fun v => v.category).sum ≤ 8) (kk : ∀ w1, K w1 = some res → V w1 (pc + 3) L rest) : V w pc L (.int m0 :: .int dp :: .ref (G.2 k1) :: .int sp :: .ref (G.2 k0) :: rest) := by
  unfold cpy at h
  by_cases hi : sp < 0 ∨ dp < 0 ∨ m0 < 0 ∨ n0 < sp.toNatClampNeg + m0.toNatClampNeg ∨ n1 < dp.toNatClampNeg + m0.toNatClampNeg
  · rw [if_pos hi] at h; cases h
  rw [if_neg hi] at h
  obtain ⟨a1, a2⟩ := hk0
  obtain ⟨b1, b2⟩ := hk1
  obtain ⟨p, l, e, s, m, args, below, meth, c, rfl, hx, hb, hml, hown, hts, hK, hI, hST, hlk, hrt⟩ := C
  intro ls H locs hl hP hS
  have he0 := cells_get (G := G) (w := w) a1
  have he1 := cells_get (G := G) (w := w) b1
  have hset := cells_set (G := G) (w := w) b1 (va_cpy (w k0) (w k1) sp.toNatClampNeg dp.toNatClampNeg m0.toNatClampNeg)
  rw [a2] at he0
  rw [b2] at he1 hset
  exact va_copyi hx hb (by rw [hml]; exact hl.1.symm) hown (hts _ q1) (hts _ q2) (hts _ q3) (hts _ q4) hK hP (cells_D hI w) hS (k0 - S.2.1) (k1 - S.2.1) 0 0 he0 he1 rfl rfl rfl (fun q => hi (Or.inl q)) (fun q => hi (Or.inr (Or.inl q))) (fun q => hi (Or.inr (Or.inr (Or.inl q)))) (Nat.not_lt.mp fun q => hi (Or.inr (Or.inr (Or.inr (Or.inl q))))) (Nat.not_lt.mp fun q => hi (Or.inr (Or.inr (Or.inr (Or.inr q))))) (fun _ _ => rfl) (Nat.le_add_left 1 hc) (native_ok hr) hd (fun H1 locs1 hP1 _ hS1 => kk _ h ls H1 locs1 hl (by rw [← hset]; exact hP1) hS1)
theorem r_tsw (C : CX cc own G S n hc rt rv w0 V) {dflt lo hi off : Int} {offs : Array Int} {len : Nat} {x : Int32} (cst : Int32) (tgt : Nat) {A B : Option α} (hd : decode cc pc = .ok (.tableswitch dflt lo hi offs, len)) (h1 : ¬ cst.toInt < lo) (h2 : ¬ hi < cst.toInt) (ho : offs[(cst.toInt - lo).toNat]? = some off) (ht : (pc : Int) + off = (tgt : Int)) (h : (if x = cst then A else B) = some res) (kt : A = some res → V w tgt L rest) (kf : ¬ x = cst → B = some res → V w pc L (.int x :: rest)) : V w pc L (.int x :: rest) := by
  by_cases hxc : x = cst
  · subst hxc
    rw [if_pos rfl] at h
    have kt := kt h
    clear kf
    obtain ⟨p, l, e, s, m, args, below, meth, c, rfl, hx, hb, hml, hown, hts, hK, hI, hST, hlk, hrt⟩ := C
    exact fun ls H locs hl hP hS => lv_tableIn hx hb hd h1 h2 ho ht (kt ls H locs hl hP hS)
  · rw [if_neg hxc] at h
    exact kf hxc h
theorem r_tswD (C : CX cc own G S n hc rt rv w0 V) {dflt lo hi : Int} {offs : Array Int} {len : Nat} {x : Int32} (tgt : Nat) (hd : decode cc pc = .ok (.tableswitch dflt lo hi offs, len)) (h : x.toInt < lo ∨ hi < x.toInt) (ht : (pc : Int) + dflt = (tgt : Int)) (kt : V w tgt L rest) : V w pc L (.int x :: rest) := by
  obtain ⟨p, l, e, s, m, args, below, meth, c, rfl, hx, hb, hml, hown, hts, hK, hI, hST, hlk, hrt⟩ := C
  exact fun ls H locs hl hP hS => lv_tableOut hx hb hd h ht (kt ls H locs hl hP hS)
theorem r_lsw (C : CX cc own G S n hc rt rv w0 V) {dflt off : Int} {ps : Array (Int × Int)} {len : Nat} {x : Int32} (cst : Int32) (tgt : Nat) {A B : Option α} (hd : decode cc pc = .ok (.lookupswitch dflt ps, len)) (hp : (ps.toList.zip (ps.toList.drop 1)).all (fun (a, next) => a.1 < next.1) = true) (ho : Op.lookupswitch.offset ps.toList dflt cst.toInt = off) (ht : (pc : Int) + off = (tgt : Int)) (h : (if x = cst then A else B) = some res) (kt : A = some res → V w tgt L rest) (kf : ¬ x = cst → B = some res → V w pc L (.int x :: rest)) : V w pc L (.int x :: rest) := by
  by_cases hxc : x = cst
  · subst hxc
    rw [if_pos rfl] at h
    have kt := kt h
    clear kf
    obtain ⟨p, l, e, s, m, args, below, meth, c, rfl, hx, hb, hml, hown, hts, hK, hI, hST, hlk, hrt⟩ := C
    exact fun ls H locs hl hP hS => lv_lookup hx hb hd hp ho ht (kt ls H locs hl hP hS)
  · rw [if_neg hxc] at h
    exact kf hxc h
theorem r_lswD (C : CX cc own G S n hc rt rv w0 V) {dflt : Int} {ps : Array (Int × Int)} {len : Nat} {x : Int32} (tgt : Nat) (hd : decode cc pc = .ok (.lookupswitch dflt ps, len)) (hp : (ps.toList.zip (ps.toList.drop 1)).all (fun (a, next) => a.1 < next.1) = true) (h : Op.lookupswitch.offset ps.toList dflt x.toInt = dflt) (ht : (pc : Int) + dflt = (tgt : Int)) (kt : V w tgt L rest) : V w pc L (.int x :: rest) := by
  obtain ⟨p, l, e, s, m, args, below, meth, c, rfl, hx, hb, hml, hown, hts, hK, hI, hST, hlk, hrt⟩ := C
  exact fun ls H locs hl hP hS => lv_lookup hx hb hd hp h ht (kt ls H locs hl hP hS)
theorem lsw_dflt {ps : List (Int × Int)} {dflt x : Int} (h : ∀ q ∈ ps, ¬ x = q.1) : Op.lookupswitch.offset ps dflt x = dflt := by
  induction ps with
  | nil => rfl
  | cons q ps ih =>
    have h1 := h q List.mem_cons_self
    have h2 := ih (fun r hr => h r (List.mem_cons_of_mem _ hr))
    obtain ⟨a, z⟩ := q
    rw [Op.lookupswitch.offset_cons, if_neg (fun e => h1 e.symm)]
    exact h2
theorem r_ldcS0 (C : CX cc RX3 G S n hc rt rv w0 V) (hd : decode cc pc = .ok (.ldc 23, 2)) (kk : V w (pc + 2) L (.ref (strA G (0:Int32)) :: rest)) : V w pc L rest := by
  obtain ⟨p, l, e, s, m, args, below, meth, c, rfl, hx, hb, hml, hown, hts, hK, hI, hST, hlk, hrt⟩ := C
  exact fun ls H locs hl hP hS => va_ldcS hx hb hown hST.2.2.2.1 hd (kk ls H locs hl hP hS)
theorem r_ldcS1 (C : CX cc RX3 G S n hc rt rv w0 V) (hd : decode cc pc = .ok (.ldc 33, 2)) (kk : V w (pc + 2) L (.ref (strA G (1:Int32)) :: rest)) : V w pc L rest := by
  obtain ⟨p, l, e, s, m, args, below, meth, c, rfl, hx, hb, hml, hown, hts, hK, hI, hST, hlk, hrt⟩ := C
  exact fun ls H locs hl hP hS => va_ldcS hx hb hown hST.2.2.2.2 hd (kk ls H locs hl hP hS)
theorem toInt_ne {x y : Int32} (h : ¬ x = y) : x.toInt ≠ y.toInt := fun e => h (Int32.toInt_inj.mp e)
theorem x_call {p : Program} {l : Launch} {e : Env} {R : Room} {s : State} {m : MethodId} {args av : Array Value} {below : List Frame} {meth : Method} {c : Code} {H : Heap} {locs : List Loc} {Q : State → Prop} {ls : Array Slot} {st0 : List Value} {rq : Option Value} {w1 : Wd} (hr : va_Run p l e R s m args below meth c H locs 0 0 0 0 (F0 m pc ls st0) rest (QW G S rq w1 av) (WA G S)) (hS : va_S (WA G S) s.heap H locs)
    (kk : ∀ (H1 : Heap) (locs1 : List Loc), va_P G.1 vwCl (cellsW G S w1) H1 → va_S (WA G S) s.heap H1 locs1 → W p l e R s m args below meth c H1 locs1 0 0 Q (F0 m (pc + 3) ls (rq.toList ++ rest))) : W p l e R s m args below meth c H locs 0 0 Q (F0 m pc ls st0) := by
  intro T hT X
  obtain ⟨v, st₀, t, T', Lx, h0, X', hL, e1, e2, ⟨hv, hP, hz, hk⟩, st⟩ := hr T hT X
  cases hv
  rw [h0] at hz hk
  obtain ⟨t2, a1, b1⟩ := kk T'.heap (locs ++ Lx) (by rw [e1]; exact hP)
    ⟨Nat.le_trans hS.1 (by rw [e1]; exact hz), fun q h1 h2 => by rw [e1, hk q (Nat.lt_of_lt_of_le h1 hS.1) h2]; exact hS.2.1 q h1 h2, fun q hq => by
      rcases List.mem_append.mp hq with h | h
      · exact hS.2.2 q h
      · exact hL q h⟩ T' rfl X'
  exact ⟨t2, st t2 a1, b1⟩
theorem room_ok {h hc ny : Nat} (hR : h + 1 ≤ hc ∧ ny ≤ 21) : (Rm h).frames + 1 ≤ (Rm hc).frames ∧ 8 + (ny + 11) + (Rm h).locals ≤ (Rm hc).locals := by
  show h + 1 ≤ hc ∧ 8 + (ny + 11) + 40 * h ≤ 40 * hc
  omega
theorem PW.at {s U : State} {H : Heap} {locs : List Loc} (hK : va_K G.1 vwCl (tysG G) s) (hI : injG G S) (hST : ST G (WA G S) s s.heap) (hP : va_P G.1 vwCl (cellsW G S w) H) (hS : va_S (WA G S) s.heap H locs) (hU : U.heap = H) (hW : s.WarmedH U.vm) : PW G S w U := by
  refine ⟨by rw [hU]; exact hP, hK.moved hW.alike, hI, ?_, hST.2.warm hW⟩
  rw [hU]
  exact (hST.1.kept hS.2.1).moved hW.alike

theorem r_callV (C : CX cc own G S n hc rt rv w0 V) {y : MethodName} {cy : ByteArray} {ny h2 idx : Nat} {rty : Option FieldType} {β : Type} {x : Option β} {K : β → Option α} {As st : List Value} {rvf : β → Option Value} {wf : β → Wd} {k ci N : Nat} {sl : List Nat} {T : u_T} {Cn : String} (hd : decode cc pc = .ok (.invokevirtual idx, 3)) (h : bd x K = some res) (q1 : Cond.methodLink own idx y ∈ TB) (q2 : Cond.instanceMethod y ∈ TB) (q3 : Cond.selects Cn y y ∈ TB) (q4 : Cond.initialized Cn ∈ TB) (q5 : Cond.code y cy ny rty ∈ TB) (hy : y.cls = Cn ∧ y.cls ≠ "java/lang/invoke/MethodHandle" ∧ y.cls ≠ "java/lang/invoke/VarHandle" ∧ (parseMethodDescriptor y.desc).map (fun d => d.parameters.length) = some As.length) (hR : h2 + 1 ≤ hc ∧ ny ≤ 21) (hk : inS S k ∧ S.1 k = (0, ci, sl)) (hcl : vwCl[ci]? = some (Cn, T, N)) (hM : ∀ q, x = some q → ∀ l, MC l y cy ny rty h2 G S w (.ref (G.2 k) :: As) (rvf q) (wf q)) (hst : st = As.reverse ++ .ref (G.2 k) :: rest) (hr : (rest.map fun v => v.category).sum ≤ 8) (kk : ∀ q, K q = some res → V (wf q) (pc + 3) L ((rvf q).toList ++ rest)) : V w pc L st := by
  obtain ⟨q, hq, hKq⟩ := bd_some h
  have hM := hM q hq
  have kk := kk q hKq
  subst hst
  obtain ⟨p, l, e, s, m, args, below, meth, c, rfl, hx, hb, hml, hown, hts, hK, hI, hST, hlk, hrt⟩ := C
  intro ls H locs hl hP hS
  have he := cells_get (G := G) (w := w) hk.1
  rw [hk.2] at he
  have hgw : GoodIn TB (wsV own idx Cn y (wsA y cy ny rty)) := gB (fun z hz => by
    rcases List.mem_append.mp hz with hz | hz
    · simp only [List.mem_cons, List.not_mem_nil, or_false] at hz
      rcases hz with hz | hz | hz | hz <;> rw [hz] <;> assumption
    · exact gB1 q5 z hz)
  exact x_call (va_runV (As := As) (rest := rest) ⟨hx, hb, hml, hown, hts⟩ (hM l) (cwV As.length hts hgw rfl rfl rfl hy (room_ok hR)) ⟨PW.blind, va_recv hK hP hcl he, fun U hU hW => ⟨rfl, PW.at hK hI hST hP hS hU hW⟩⟩ rfl rfl hl.1 rfl (lv_room hr) hd ⟨Nat.zero_le _, Nat.zero_le _⟩) hS (fun H1 locs1 hP1 hS1 => kk ls H1 locs1 hl hP1 hS1)
theorem r_callS (C : CX cc own G S n hc rt rv w0 V) {y : MethodName} {cy : ByteArray} {ny h2 idx : Nat} {rty : Option FieldType} {β : Type} {x : Option β} {K : β → Option α} {As st : List Value} {rvf : β → Option Value} {wf : β → Wd} (hd : decode cc pc = .ok (.invokestatic idx, 3)) (h : bd x K = some res) (q1 : Cond.methodLink own idx y ∈ TB) (q2 : Cond.static y ∈ TB) (q4 : Cond.initialized y.cls ∈ TB) (q5 : Cond.code y cy ny rty ∈ TB) (hy : y.cls ≠ "java/lang/invoke/MethodHandle" ∧ y.cls ≠ "java/lang/invoke/VarHandle" ∧ (parseMethodDescriptor y.desc).map (fun d => d.parameters.length) = some As.length) (hR : h2 + 1 ≤ hc ∧ ny ≤ 21) (hM : ∀ q, x = some q → ∀ l, MC l y cy ny rty h2 G S w As (rvf q) (wf q)) (hst : st = As.reverse ++ rest) (hr : (rest.map fun v => v.category).sum ≤ 8) (kk : ∀ q, K q = some res → V (wf q) (pc + 3) L ((rvf q).toList ++ rest)) : V w pc L st := by
  obtain ⟨q, hq, hKq⟩ := bd_some h
  have hM := hM q hq
  have kk := kk q hKq
  subst hst
  obtain ⟨p, l, e, s, m, args, below, meth, c, rfl, hx, hb, hml, hown, hts, hK, hI, hST, hlk, hrt⟩ := C
  intro ls H locs hl hP hS
  have hgw : GoodIn TB (va_wsS own idx y (wsA y cy ny rty)) := gB (fun z hz => by
    rcases List.mem_append.mp hz with hz | hz
    · simp only [List.mem_cons, List.not_mem_nil, or_false] at hz
      rcases hz with hz | hz | hz <;> rw [hz] <;> assumption
    · exact gB1 q5 z hz)
  exact x_call (va_runS (As := As) (rest := rest) ⟨hx, hb, hml, hown, hts⟩ (hM l) (va_cwS As.length hts hgw rfl rfl rfl hy (room_ok hR)) ⟨PW.blind, fun U hU hW => ⟨rfl, PW.at hK hI hST hP hS hU hW⟩⟩ rfl rfl hl.1 rfl (lv_room hr) hd ⟨Nat.zero_le _, Nat.zero_le _⟩) hS (fun H1 locs1 hP1 hS1 => kk ls H1 locs1 hl hP1 hS1)
theorem r_callSN (C : CX cc own G S n hc rt rv w0 V) {y : MethodName} {cy : ByteArray} {ny h2 idx : Nat} {rty : Option FieldType} {β : Type} {x : Option β} {K : β → Option α} {As st : List Value} {rvf : β → Option Value} {wf : β → Wd} {host : String} (hd : decode cc pc = .ok (.invokestatic idx, 3)) (h : bd x K = some res) (q1 : ∀ (G : Gv) (U : State), STn G U → va_Nw (.methodLinkNest own idx y host) U) (q2 : Cond.static y ∈ TB) (q4 : Cond.initialized y.cls ∈ TB) (q5 : Cond.code y cy ny rty ∈ TB) (hy : y.cls ≠ "java/lang/invoke/MethodHandle" ∧ y.cls ≠ "java/lang/invoke/VarHandle" ∧ (parseMethodDescriptor y.desc).map (fun d => d.parameters.length) = some As.length) (hR : h2 + 1 ≤ hc ∧ ny ≤ 21) (hM : ∀ q, x = some q → ∀ l, MC l y cy ny rty h2 G S w As (rvf q) (wf q)) (hst : st = As.reverse ++ rest) (hr : (rest.map fun v => v.category).sum ≤ 8) (kk : ∀ q, K q = some res → V (wf q) (pc + 3) L ((rvf q).toList ++ rest)) : V w pc L st := by
  obtain ⟨q, hq, hKq⟩ := bd_some h
  have hM := hM q hq
  have kk := kk q hKq
  subst hst
  obtain ⟨p, l, e, s, m, args, below, meth, c, rfl, hx, hb, hml, hown, hts, hK, hI, hST, hlk, hrt⟩ := C
  intro ls H locs hl hP hS
  exact x_call (va_runSN (As := As) (rest := rest) ⟨hx, hb, hml, hown, hts⟩ (hM l) ⟨va_cnB As.length hts (gB (gB1 q5)) rfl rfl rfl (q1 G s hST.2) (hts _ q4) hy (room_ok hR), hts _ q2, trivial⟩ ⟨PW.blind, fun U hU hW => ⟨rfl, PW.at hK hI hST hP hS hU hW⟩⟩ rfl rfl hl.1 rfl (lv_room hr) hd ⟨Nat.zero_le _, Nat.zero_le _⟩) hS (fun H1 locs1 hP1 hS1 => kk ls H1 locs1 hl hP1 hS1)
end RW
