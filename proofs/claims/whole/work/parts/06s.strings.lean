section RS
variable {cc : ByteArray} {own : String} {G : Gv} {S : Sy} {n hc : Nat} {rt : Option FieldType} {rv : Option Value} {w0 : Wd} {V : Vt} {w : Wd} {pc : Nat} {L L' : List (Nat × Value)} {rest : List Value} {α : Type} {res : α}
/-! texts: the two names of the reader -/
def bytA (G : Gv) (x : Int32) : Nat := if x = 0 then G.2 1008 else G.2 1009
def bytF (x : Int32) (j : Nat) : Int32 := if x = 0 then bytC.getD j 0 else bytW.getD j 0
theorem kq {q c : Int32} {u : Unit} (h : (if q = c then some () else none) = some u) : q = c := by
  by_cases hq : q = c
  · exact hq
  · rw [if_neg hq] at h; cases h
theorem str_O {A : Nat → Prop} {U : State} {H : Heap} (h : STh G A U H) (x : Int32) : va_O RJ0 (strA G x) A U H := by
  unfold strA
  by_cases hx : x = 0
  · rw [if_pos hx]; exact h.2.2.2.2.2.1
  · rw [if_neg hx]; exact h.2.2.2.2.2.2.2.2.2.1
theorem str_val {A : Nat → Prop} {U : State} {H : Heap} (h : STh G A U H) (x : Int32) : va_OF RJ0 "value" "[B" (.ref (bytA G x)) (strA G x) A U H := by
  unfold strA bytA
  by_cases hx : x = 0
  · rw [if_pos hx, if_pos hx]; exact h.2.2.2.2.2.2.1
  · rw [if_neg hx, if_neg hx]; exact h.2.2.2.2.2.2.2.2.2.2.1
theorem str_cod {A : Nat → Prop} {U : State} {H : Heap} (h : STh G A U H) (x : Int32) : va_OF RJ0 "coder" "B" (.int 0) (strA G x) A U H := by
  unfold strA
  by_cases hx : x = 0
  · rw [if_pos hx]; exact h.2.2.2.2.2.2.2.1
  · rw [if_neg hx]; exact h.2.2.2.2.2.2.2.2.2.2.2.1
theorem str_T {A : Nat → Prop} {U : State} {H : Heap} (h : STh G A U H) (x : Int32) : va_T .byte (bytA G x) 3 (fun j => .int (bytF x j)) A U H := by
  unfold bytA bytF
  by_cases hx : x = 0
  · simp only [if_pos hx]; exact h.2.2.2.2.2.2.2.2.1
  · simp only [if_neg hx]; exact h.2.2.2.2.2.2.2.2.2.2.2.2
theorem r_getsC (C : CX cc RJ0 G S n hc rt rv w0 V) (hd : decode cc pc = .ok (.getstatic 38, 3)) (kk : V w (pc + 3) L (.int 1 :: rest)) : V w pc L rest := by
  obtain ⟨p, l, e, s, m, args, below, meth, c, rfl, hx, hb, hml, hown, hts, hK, hI, hST, hlk, hrt⟩ := C
  exact fun ls H locs hl hP hS => va_gets hx hb hST.1.2.2.2.2.1 hS hown (hts _ qf_J0_38) (fun _ h9 => h9) hd (kk ls H locs hl hP hS)
theorem r_gsval (C : CX cc RJ0 G S n hc rt rv w0 V) {x : Int32} (hd : decode cc pc = .ok (.getfield 9, 3)) (kk : V w (pc + 3) L (.ref (bytA G x) :: rest)) : V w pc L (.ref (strA G x) :: rest) := by
  obtain ⟨p, l, e, s, m, args, below, meth, c, rfl, hx, hb, hml, hown, hts, hK, hI, hST, hlk, hrt⟩ := C
  exact fun ls H locs hl hP hS => vk_getf hx hb (str_val hST.1 x) hS hown (hts _ qf_J0_9) (fun _ h9 => h9) hd (kk ls H locs hl hP hS)
theorem r_gscod (C : CX cc RJ0 G S n hc rt rv w0 V) {x : Int32} (hd : decode cc pc = .ok (.getfield 15, 3)) (kk : V w (pc + 3) L (.int 0 :: rest)) : V w pc L (.ref (strA G x) :: rest) := by
  obtain ⟨p, l, e, s, m, args, below, meth, c, rfl, hx, hb, hml, hown, hts, hK, hI, hST, hlk, hrt⟩ := C
  exact fun ls H locs hl hP hS => vk_getf hx hb (str_cod hST.1 x) hS hown (hts _ qf_J0_15) (fun _ h9 => h9) hd (kk ls H locs hl hP hS)
theorem r_blen (C : CX cc own G S n hc rt rv w0 V) {x : Int32} (hd : decode cc pc = .ok (.arraylength, 1)) (kk : V w (pc + 1) L (.int 3 :: rest)) : V w pc L (.ref (bytA G x) :: rest) := by
  obtain ⟨p, l, e, s, m, args, below, meth, c, rfl, hx, hb, hml, hown, hts, hK, hI, hST, hlk, hrt⟩ := C
  exact fun ls H locs hl hP hS => va_tlen hx hb (str_T hST.1 x) hS rfl hd (kk ls H locs hl hP hS)
theorem r_bald (C : CX cc own G S n hc rt rv w0 V) {x i : Int32} {K : Int32 → Option α} (hd : decode cc pc = .ok (.baload, 1)) (h : tld (bytF x) 3 i K = some res) (kk : ∀ v, K v = some res → V w (pc + 1) L (.int v :: rest)) : V w pc L (.int i :: .ref (bytA G x) :: rest) := by
  unfold tld at h
  by_cases hi : bad i 3 = true
  · rw [if_pos hi] at h; cases h
  rw [if_neg hi] at h
  obtain ⟨p, l, e, s, m, args, below, meth, c, rfl, hx, hb, hml, hown, hts, hK, hI, hST, hlk, hrt⟩ := C
  exact fun ls H locs hl hP hS => va_tb hx hb (str_T hST.1 x) hS (bad_in (by simpa using hi)) rfl hd (kk _ h ls H locs hl hP hS)
theorem r_callVS (C : CX cc own G S n hc rt rv w0 V) {y : MethodName} {cy : ByteArray} {ny h2 idx : Nat} {rty : Option FieldType} {β : Type} {x : Option β} {K : β → Option α} {As st : List Value} {rvf : β → Option Value} {wf : β → Wd} {e : Int32} (hd : decode cc pc = .ok (.invokevirtual idx, 3)) (h : bd x K = some res) (q1 : Cond.methodLink own idx y ∈ TB) (q2 : Cond.instanceMethod y ∈ TB) (q3 : Cond.selects RJ0 y y ∈ TB) (q4 : Cond.initialized RJ0 ∈ TB) (q5 : Cond.code y cy ny rty ∈ TB) (hy : y.cls = RJ0 ∧ y.cls ≠ "java/lang/invoke/MethodHandle" ∧ y.cls ≠ "java/lang/invoke/VarHandle" ∧ (parseMethodDescriptor y.desc).map (fun d => d.parameters.length) = some As.length) (hR : h2 + 1 ≤ hc ∧ ny ≤ 21) (hM : ∀ q, x = some q → ∀ l, MC l y cy ny rty h2 G S w (.ref (strA G e) :: As) (rvf q) (wf q)) (hst : st = As.reverse ++ .ref (strA G e) :: rest) (hr : (rest.map fun v => v.category).sum ≤ 8) (kk : ∀ q, K q = some res → V (wf q) (pc + 3) L ((rvf q).toList ++ rest)) : V w pc L st := by
  obtain ⟨q, hq, hKq⟩ := bd_some h
  have hM := hM q hq
  have kk := kk q hKq
  subst hst
  obtain ⟨p, l, en, s, m, args, below, meth, c, rfl, hx, hb, hml, hown, hts, hK, hI, hST, hlk, hrt⟩ := C
  intro ls H locs hl hP hS
  have hgw : GoodIn TB (wsV own idx RJ0 y (wsA y cy ny rty)) := gB (fun z hz => by
    rcases List.mem_append.mp hz with hz | hz
    · simp only [List.mem_cons, List.not_mem_nil, or_false] at hz
      rcases hz with hz | hz | hz | hz <;> rw [hz] <;> assumption
    · exact gB1 q5 z hz)
  exact x_call (va_runV (As := As) (rest := rest) ⟨hx, hb, hml, hown, hts⟩ (hM l) (cwV As.length hts hgw rfl rfl rfl hy (room_ok hR)) ⟨PW.blind, va_Orecv (str_O hST.1 e) hS, fun U hU hW => ⟨rfl, PW.at hK hI hST hP hS hU hW⟩⟩ rfl rfl hl.1 rfl (lv_room hr) hd ⟨Nat.zero_le _, Nat.zero_le _⟩) hS (fun H1 locs1 hP1 hS1 => kk ls H1 locs1 hl hP1 hS1)
/-! ends, with what is left of the function's equation -/
theorem r_iretE {x : Int32} {z : Int32 × Wd} (C : CX cc own G S n hc (some .int) (some (.int z.1)) z.2 V) (hd : decode cc pc = .ok (.ireturn, 1)) (h : some (x, w) = some z) : V w pc L [.int x] := by
  obtain rfl := Option.some.inj h
  exact r_iret C hd
theorem r_iretP {x z : Int32} (C : CX cc own G S n hc (some .int) (some (.int z)) w V) (hd : decode cc pc = .ok (.ireturn, 1)) (h : some x = some z) : V w pc L [.int x] := by
  obtain rfl := Option.some.inj h
  exact r_iret C hd
theorem r_zretE {x : Int32} {z : Int32 × Wd} (C : CX cc own G S n hc (some .boolean) (some (.int z.1)) z.2 V) (hn : narrow .boolean (.int x) = .int x) (hd : decode cc pc = .ok (.ireturn, 1)) (h : some (x, w) = some z) : V w pc L [.int x] := by
  obtain rfl := Option.some.inj h
  exact r_zret C hn hd
theorem r_zretP {x z : Int32} (C : CX cc own G S n hc (some .boolean) (some (.int z)) w V) (hn : narrow .boolean (.int x) = .int x) (hd : decode cc pc = .ok (.ireturn, 1)) (h : some x = some z) : V w pc L [.int x] := by
  obtain rfl := Option.some.inj h
  exact r_zret C hn hd
theorem r_bretP {x z : Int32} (C : CX cc own G S n hc (some .byte) (some (.int z)) w V) (hn : narrow .byte (.int x) = .int x) (hd : decode cc pc = .ok (.ireturn, 1)) (h : some x = some z) : V w pc L [.int x] := by
  obtain rfl := Option.some.inj h
  exact r_bret C hn hd
theorem r_vretE {z : Wd} (C : CX cc own G S n hc none none z V) (hd : decode cc pc = .ok (.return_, 1)) (h : some w = some z) : V w pc L [] := by
  obtain rfl := Option.some.inj h
  exact r_vret C hd
theorem r_aretP {a z : Nat} {cn : String} (C : CX cc own G S n hc (some (.object cn)) (some (.ref (G.2 z))) w V) (hd : decode cc pc = .ok (.areturn, 1)) (h : some a = some z) : V w pc L [.ref (G.2 a)] := by
  obtain rfl := Option.some.inj h
  exact r_aret C hd
theorem r_aretO {a : Nat} {z : Option Nat} {cn : String} (C : CX cc own G S n hc (some (.object cn)) (some (va_re G.2 z)) w V) (hd : decode cc pc = .ok (.areturn, 1)) (h : some (some a) = some z) : V w pc L [.ref (G.2 a)] := by
  obtain rfl := Option.some.inj h
  exact r_aret C hd
theorem r_aretON {z : Option Nat} {cn : String} (C : CX cc own G S n hc (some (.object cn)) (some (va_re G.2 z)) w V) (hd : decode cc pc = .ok (.areturn, 1)) (h : some none = some z) : V w pc L [.null] := by
  obtain rfl := Option.some.inj h
  exact r_aretN C hd
theorem r_aretC {a : Nat} {z : Wd} {cn : String} (C : CX cc own G S n hc (some (.object cn)) (some (.ref a)) z V) (hd : decode cc pc = .ok (.areturn, 1)) (h : some w = some z) : V w pc L [.ref a] := by
  obtain rfl := Option.some.inj h
  exact r_aret C hd
def zb {α : Type} (x : Int32) (K : Option α) : Option α := if x = 0 ∨ x = 1 then K else none
theorem r_zb {x : Int32} {A : Option α} {P : Prop} (h : zb x A = some res) (kk : narrow .boolean (.int x) = .int x → fits .boolean (.int x) = true → A = some res → P) : P := by
  unfold zb at h
  by_cases hx : x = 0 ∨ x = 1
  · rw [if_pos hx] at h
    rcases hx with rfl | rfl
    · exact kk rfl rfl h
    · exact kk rfl rfl h
  · rw [if_neg hx] at h; cases h
end RS
