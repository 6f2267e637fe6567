section S2

theorem kx_callW {p : Program} {l : Launch} {e : Env} {R : Room} {s : State} {m : MethodId} {args av : Array Value} {below : List Frame} {meth : Method} {c : Code} {H : Heap} {locs : List Loc} {Q : State → Prop} {ls : Array Slot} {st0 rest : List Value} {A0 : Nat → Prop} {G : Gv} {k z pc q mc2 ms2 : Nat} {W0 : va_W} {x0 : va_E} {x1 : Fa → va_E} {xn : Fa → va_W} (hr : va_Run p l e R s m args below meth c H locs k z mc2 ms2 (F0 m pc ls st0) rest (QK G (AK q x0 H.size) q x1 xn av) (AK q x0 H.size)) (hA : ∀ q, s.heap.size ≤ q → A0 q) (hP : va_P G.1 vwCl (W0 ++ [(q, x0)]) H) (hD : va_D A0 (W0 ++ [(q, x0)])) (hS : va_S A0 s.heap H locs)
    (kk : ∀ (f : Fa) (H1 : Heap) (locs1 : List Loc), va_P G.1 vwCl (W0 ++ ((q, x1 f) :: xn f)) H1 → va_D A0 (W0 ++ ((q, x1 f) :: xn f)) → va_S A0 s.heap H1 locs1 → W p l e R s m args below meth c H1 locs1 (k + mc2) (z + ms2) Q (F0 m (pc + 3) ls rest)) : W p l e R s m args below meth c H locs k z Q (F0 m pc ls st0) := by
  have hF : ∀ a, AK q x0 H.size a → A0 a := fun a h => by
    rcases h with ⟨i, ee, h⟩ | h
    · have hi := (List.getElem?_eq_some_iff.mp h).1
      simp only [List.length_cons, List.length_nil] at hi
      rw [show i = 0 by omega] at h
      cases h
      have hg : (W0 ++ [(q, x0)])[W0.length]? = some (q, x0) := by simp
      exact hD.2 _ _ hg
    · exact hA a (Nat.le_trans hS.1 h)
  intro T hT X
  obtain ⟨v, st₀, t, T', Lx, h0, X', hL, e1, e2, ⟨⟨hv, f, hP1, hD1⟩, hz, hk⟩, st⟩ := hr T hT X
  cases hv
  rw [h0] at hz hk
  obtain ⟨jP, jD⟩ := join_last (W0 := W0) hP hD (fun a h1 h2 => by have := hk a h1 h2; exact this) hF hP1 hD1
  obtain ⟨t2, a1, b1⟩ := kk f T'.heap (locs ++ Lx) (by rw [e1]; exact jP) jD
    ⟨Nat.le_trans hS.1 (by rw [e1]; exact hz), fun a h1 h2 => by rw [e1, hk a (Nat.lt_of_lt_of_le h1 hS.1) (fun zz => h2 (hF a zz))]; exact hS.2.1 a h1 h2, fun a hq => by
      rcases List.mem_append.mp hq with h | h
      · exact hS.2.2 a h
      · exact hF _ (hL a h)⟩ T' rfl X'
  exact ⟨t2, st t2 a1, b1⟩
theorem lastW {G : Gv} {W0 : va_W} {q : Nat} {x0 : va_E} {H : Heap} (hP : va_P G.1 vwCl (W0 ++ [(q, x0)]) H) : va_P G.1 vwCl [(q, x0)] H := by
  intro i y hy
  have hi := (List.getElem?_eq_some_iff.mp hy).1
  simp only [List.length_cons, List.length_nil] at hi
  rw [show i = 0 by omega] at hy
  cases hy
  have hg : (W0 ++ [(q, x0)])[W0.length]? = some (q, x0) := by simp
  exact hP _ _ hg
theorem roomS {h ny mc2 ms2 : Nat} (hR : h ≤ 1500 ∧ ny ≤ 21) : (RmK h mc2 ms2).frames + 1 ≤ room_1.frames ∧ 8 + (ny + 11) + (RmK h mc2 ms2).locals ≤ room_1.locals := by
  show h + 1 ≤ 2048 ∧ 8 + (ny + 11) + 40 * h ≤ 84000
  omega
theorem cells_len {G : Gv} {S : Sy} {w : Wd} : (cellsW G S w).length = S.2.2 := by simp [cellsW]
theorem whole_open {p : Program} {e : Env} {s : State} {m : MethodId} {below : List Frame} {meth : Method} {c : Code} (l : Launch) {b Ln : Nat} {xs : Nat → Int32} (hL : Ln ≤ 3072) (C0 : lw_At p s m meth c b Ln xs)
    (loop : ∀ (G : Gv) (V : Lt), LX G b Ln xs V → V wX0 wM0 18 [(0, .ref b), (1, .ref (G.2 0)), (2, .ref (G.2 100)), (3, .int (nI (6 * 0)))] []) : W p l e room_1 s m #[Value.ref b] below meth c s.heap [] 0 0 (lw_Z below #[Value.ref b] s) (entryFrame m ([Value.ref b] : List Value).toArray 4) := by
  obtain ⟨hx, hb, hr, hml, hown, hts0, hX, hbl, hlocks, hgv⟩ := id C0
  have hts : ∀ w ∈ TB, w.before #[Value.ref b] s = true := fun w hw => hts0 w (List.mem_filter.mp hw).1
  have hA : ∀ q : Nat, s.heap.size ≤ q → (fun q : Nat => s.heap.size ≤ q) q := fun _ h => h
  obtain ⟨c0, i0, hK0⟩ := u_known (C := RX0) (T := TX0) (N := 6) (n := 6) hts inX0 (hts _ qin_X0)
  obtain ⟨c1, i1, hK1⟩ := u_known (C := RX1) (T := TX1) (N := 8) (n := 8) hts inX1 (hts _ qin_X1)
  obtain ⟨c2, i2, hK2⟩ := u_known (C := RX2) (T := TX2) (N := 3) (n := 3) hts inX2 (hts _ qin_X2)
  obtain ⟨c3, i3, hK3⟩ := u_known (C := RX3) (T := TX3) (N := 4) (n := 4) hts inX3 (hts _ qin_X3)
  obtain ⟨c4, i4, hK4⟩ := u_known (C := RX4) (T := TX4) (N := 2) (n := 2) hts inX4 (hts _ qin_X4)
  obtain ⟨c5, i5, hK5⟩ := u_known (C := RX5) (T := TX5) (N := 3) (n := 3) hts inX5 (hts _ qin_X5)
  obtain ⟨c6, i6, hK6⟩ := u_known (C := RX6) (T := TX6) (N := 13) (n := 13) hts inX6 (hts _ qin_X6)
  obtain ⟨c7, i7, hK7⟩ := u_known (C := RX7) (T := TX7) (N := 4) (n := 4) hts inX7 (hts _ qin_X7)
  obtain ⟨c8, i8, hK8⟩ := u_known (C := RX8) (T := TX8) (N := 10) (n := 10) hts inX8 (hts _ qin_X8)
  obtain ⟨c9, i9, hK9⟩ := u_known (C := RX9) (T := TX9) (N := 28) (n := 28) hts inX9 (hts _ qin_X9)
  obtain ⟨cI, hI1, hI2⟩ := arr_of (hts _ qar_int) (fun C h => by cases h)
  obtain ⟨cZ, hZ1, hZ2⟩ := arr_of (hts _ qar_boolean) (fun C h => by cases h)
  have hov : (Cond.arrayOver (.object RX5)).before #[Value.ref b] s = true := (hts0 _ (List.mem_of_getElem? (i := 312) (by decide +kernel)))
  obtain ⟨cQ, hQ1, hQ2⟩ := arrq_of hov
  obtain ⟨tA, tB, a0, v0, a1, v1, hst⟩ := stat_of hts0 hgv (fun q => s.heap.size ≤ q) (fun a h => Nat.not_le.mpr h)
  obtain ⟨D, hD0⟩ : ∃ D : va_G, ∀ (k : Nat) (q : vw_C), vwCl[k]? = some q → u_Kn s q.1 q.2.1 q.2.2 (D.1 k) (D.2 k) := by
    refine ⟨(fun k => [c0, c1, c2, c3, c4, c5, c6, c7, c8, c9].getD k 0, fun k => [i0, i1, i2, i3, i4, i5, i6, i7, i8, i9].getD k (fun _ => 0)), ?_⟩
    intro k q hq
    match k, hq with
    | 0, hq => cases hq; exact hK0
    | 1, hq => cases hq; exact hK1
    | 2, hq => cases hq; exact hK2
    | 3, hq => cases hq; exact hK3
    | 4, hq => cases hq; exact hK4
    | 5, hq => cases hq; exact hK5
    | 6, hq => cases hq; exact hK6
    | 7, hq => cases hq; exact hK7
    | 8, hq => cases hq; exact hK8
    | 9, hq => cases hq; exact hK9
    | k + 10, hq => simp [vwCl] at hq
  obtain ⟨sp, s1, s2, s3, s4, s5, s6, s7, s8, s9⟩ : ∃ sp : Fa, sp 1001 = cI ∧ sp 1002 = cZ ∧ sp 1003 = cQ ∧ sp 1004 = a0 ∧ sp 1005 = a1 ∧ sp 1006 = tA ∧ sp 1007 = tB ∧ sp 1008 = v0 ∧ sp 1009 = v1 := ⟨fun k => if k = 1001 then cI else if k = 1002 then cZ else if k = 1003 then cQ else if k = 1004 then a0 else if k = 1005 then a1 else if k = 1006 then tA else if k = 1007 then tB else if k = 1008 then v0 else v1, rfl, rfl, rfl, rfl, rfl, rfl, rfl, rfl, rfl⟩
  have hKof : ∀ a : Fa, (∀ k, 1000 ≤ k → a k = sp k) → va_K D vwCl (tysG (D, a)) s := fun a ha => by
    refine ⟨hD0, fun k q hq => ?_⟩
    have z1 : a 1001 = cI := (ha 1001 (by decide)).trans s1
    have z2 : a 1002 = cZ := (ha 1002 (by decide)).trans s2
    have z3 : a 1003 = cQ := (ha 1003 (by decide)).trans s3
    match k, hq with
    | 0, hq => cases hq; show ArrOfT s (a 1001) .int ∧ va_RA s (a 1001) .int; rw [z1]; exact ⟨hI1, hI2⟩
    | 1, hq => cases hq; show ArrOfT s (a 1002) .boolean ∧ va_RA s (a 1002) .boolean; rw [z2]; exact ⟨hZ1, hZ2⟩
    | 2, hq => cases hq; show ArrOfT s (a 1003) (.object RX5) ∧ va_RA s (a 1003) (.object RX5); rw [z3]; exact ⟨hQ1, hQ2⟩
    | k + 3, hq => simp [tysG] at hq
  have hSTof : ∀ a : Fa, (∀ k, 1000 ≤ k → a k = sp k) → ST (D, a) (fun q => s.heap.size ≤ q) s s.heap ∧ vk_R RX3 23 "lmk" (a 1004) s := fun a ha => hst (D, a) ((ha 1004 (by decide)).trans s4) ((ha 1005 (by decide)).trans s5) ((ha 1006 (by decide)).trans s6) ((ha 1007 (by decide)).trans s7) ((ha 1008 (by decide)).trans s8) ((ha 1009 (by decide)).trans s9)
  have hK := hKof sp (fun _ _ => rfl)
  have hSK : SK (D, sp) s := ⟨(hSTof sp (fun _ _ => rfl)).2, va_AO.of hov, va_Nw.of rfl (hts0 _ (List.mem_of_getElem? (i := 99) (by decide +kernel))), va_Nw.of rfl (hts0 _ (List.mem_of_getElem? (i := 105) (by decide +kernel))), va_Nw.of rfl (hts0 _ (List.mem_of_getElem? (i := 230) (by decide +kernel))), va_Nw.of rfl (hts0 _ (List.mem_of_getElem? (i := 233) (by decide +kernel))), va_Nw.of rfl (hts0 _ (List.mem_of_getElem? (i := 266) (by decide +kernel))), va_Nw.of rfl (hts0 _ (List.mem_of_getElem? (i := 291) (by decide +kernel))), va_Nw.of rfl (hts0 _ (List.mem_of_getElem? (i := 314) (by decide +kernel)))⟩
  have hS : va_S (fun q : Nat => s.heap.size ≤ q) s.heap s.heap [] := va_S.rf
  have hP : va_P D vwCl [] s.heap := fun k q h => by simp at h
  have hD : va_D (fun q : Nat => s.heap.size ≤ q) [] := ⟨fun i j p q h => by simp at h, fun k q h => by simp at h⟩
  have hl := lv_entry ([.ref b]) (n := 4) (Nat.le_of_ble_eq_true rfl)
  rw [lg_entry_eq]
  generalize (lg_sl ([.ref b]) ++ List.replicate (4 - (lg_sl ([.ref b])).length) Slot.unset).toArray = ls at hl ⊢
  have hl : lv_has ls 4 [(0, .ref b)] := hl
  refine va_new (ci := 8) (fs := [.null, .null, .null, .null, .null, .null, .null, .null, .null, .int 0]) (C := RX8) (T := TX8) (N := 10) hx hb hts inX8 tyX8 tyX8_ok hown (hts _ qcl_L_7) (hts _ qin_X8) (hts _ qn_X8) hK hP hD hS hA rfl (fun j hj => by rcases (show j = 0 ∨ j = 1 ∨ j = 2 ∨ j = 3 ∨ j = 4 ∨ j = 5 ∨ j = 6 ∨ j = 7 ∨ j = 8 ∨ j = 9 by omega) with rfl | rfl | rfl | rfl | rfl | rfl | rfl | rfl | rfl | rfl <;> rfl) (Nat.le_of_ble_eq_true rfl) (Nat.le_of_ble_eq_true rfl) dL_law_0 (fun q0 H hP hD hS => ?_)
  refine W.widen (k := 1) (n := 10) (Nat.le_refl _) (Nat.le_refl _) ?_
  refine lv_dup hx hb dL_law_3 rfl ?_
  refine kx_callW (G := (D, sp)) (W0 := []) (q := q0) (mc2 := 82) (ms2 := 1159) (va_runI (As := []) (rest := [.ref q0]) ⟨hx, hb, hml, hown, hts⟩ (k_X8 (G := (D, sp)) q0 l H.size) (cwI 0 hts (gB (gB1 qc_X8_init)) rfl rfl rfl (hts _ qn_X8) (hts _ ql_L_9) (hts _ qi_X8_init) rfl (by decide +kernel) (roomS ⟨by decide, by decide⟩)) ⟨PK.blind, fun U hU hW => ⟨rfl, by rw [hU], by rw [hU]; exact lastW (W0 := []) hP, hK.moved hW.alike, hSK.warm hW⟩⟩ rfl rfl hl.1 rfl (lv_room (Nat.le_of_ble_eq_true rfl)) dL_law_4 ⟨Nat.le_of_ble_eq_true rfl, Nat.le_of_ble_eq_true rfl⟩) hA hP hD hS (fun f H locs hP hD hS => ?_)
  refine lv_astore_n (lv' := [(1, .ref q0), (0, .ref b)]) hx hb dL_law_7 rfl hl (by decide) rfl (fun ls hl => ?_)
  refine va_new (ci := 9) (fs := [.null, .null, .null, .null, .int 0, .int 0, .null, .int 0, .int 0, .int 0, .int 0, .int 0, .int 0, .int 0, .int 0, .null, .null, .null, .null, .null, .null, .null, .null, .null, .int 0, .int 0, .int 0, .int 0]) (C := RX9) (T := TX9) (N := 28) hx hb hts inX9 tyX9 tyX9_ok hown (hts _ qcl_L_10) (hts _ qin_X9) (hts _ qn_X9) hK hP hD hS hA rfl (fun j hj => by rcases (show j = 0 ∨ j = 1 ∨ j = 2 ∨ j = 3 ∨ j = 4 ∨ j = 5 ∨ j = 6 ∨ j = 7 ∨ j = 8 ∨ j = 9 ∨ j = 10 ∨ j = 11 ∨ j = 12 ∨ j = 13 ∨ j = 14 ∨ j = 15 ∨ j = 16 ∨ j = 17 ∨ j = 18 ∨ j = 19 ∨ j = 20 ∨ j = 21 ∨ j = 22 ∨ j = 23 ∨ j = 24 ∨ j = 25 ∨ j = 26 ∨ j = 27 by omega) with rfl | rfl | rfl | rfl | rfl | rfl | rfl | rfl | rfl | rfl | rfl | rfl | rfl | rfl | rfl | rfl | rfl | rfl | rfl | rfl | rfl | rfl | rfl | rfl | rfl | rfl | rfl | rfl <;> rfl) (Nat.le_of_ble_eq_true rfl) (Nat.le_of_ble_eq_true rfl) dL_law_8 (fun q1 H hP hD hS => ?_)
  refine lv_dup hx hb dL_law_11 rfl ?_
  refine kx_callW (G := (D, sp)) (W0 := [] ++ ((q0, ke_X8 (D, sp) f) :: kw_X8 (D, sp) f)) (q := q1) (mc2 := 14) (ms2 := 1191) (va_runI (As := []) (rest := [.ref q1]) ⟨hx, hb, hml, hown, hts⟩ (k_X9 (G := (D, sp)) q1 l H.size) (cwI 0 hts (gB (gB1 qc_X9_init)) rfl rfl rfl (hts _ qn_X9) (hts _ ql_L_12) (hts _ qi_X9_init) rfl (by decide +kernel) (roomS ⟨by decide, by decide⟩)) ⟨PK.blind, fun U hU hW => ⟨rfl, by rw [hU], by rw [hU]; exact lastW hP, hK.moved hW.alike, hSK.warm hW⟩⟩ rfl rfl hl.1 rfl (lv_room (Nat.le_of_ble_eq_true rfl)) dL_law_12 ⟨Nat.le_of_ble_eq_true rfl, Nat.le_of_ble_eq_true rfl⟩) hA hP hD hS (fun h H locs hP hD hS => ?_)
  refine W.widen (k := 600000) (n := 7302250) (Nat.le_of_ble_eq_true rfl) (Nat.le_of_ble_eq_true rfl) ?_
  refine lv_astore_n (lv' := [(2, .ref q1), (1, .ref q0), (0, .ref b)]) hx hb dL_law_15 rfl hl (by decide) rfl (fun ls hl => ?_)
  refine lv_iconst (v := 0) hx hb dL_law_16 (by decide) ?_
  refine lv_istore_n (lv' := [(3, .int 0), (2, .ref q1), (1, .ref q0), (0, .ref b)]) hx hb dL_law_17 rfl hl (by decide) rfl (fun ls hl => ?_)
  have ea : ∀ k, 1000 ≤ k → adr q0 f q1 h sp k = sp k := fun k hk => adr_sp k hk
  obtain ⟨x1, x2⟩ := kwX_sp D (adr q0 f q1 h sp) sp f ea
  obtain ⟨y1, y2⟩ := kwM_sp D (adr q0 f q1 h sp) sp h ea
  have hws : ([] ++ ((q0, ke_X8 (D, sp) f) :: kw_X8 (D, sp) f)) ++ ((q1, ke_X9 (D, sp) h) :: kw_X9 (D, sp) h) = cellsO (D, adr q0 f q1 h sp) wX0 ++ cellsW (D, adr q0 f q1 h sp) SM wM0 := by
    rw [← startX D q0 f q1 h sp, ← startM D q0 f q1 h sp, x1, x2, y1, y2]
    rfl
  rw [hws] at hP hD
  generalize hGe : (D, adr q0 f q1 h sp) = G at hP hD
  have hG1 : G.1 = D := by rw [← hGe]
  have hpos : ∀ k, inL k → ∃ (i : Nat) (ee : va_E), (cellsO G wX0 ++ cellsW G SM wM0)[i]? = some (G.2 k, ee) ∧ i = (if k < 83 then posX k else k - 17) := fun k hk => by
    rcases hk with hk | ⟨hk1, hk2⟩
    · refine ⟨posX k, cellE G (KX k) (wX0 k), ?_, by rw [if_pos hk]⟩
      rw [List.getElem?_append_left (by rw [cellsO_len]; exact posX_lt hk)]
      exact cellsO_get hk
    · have hin : inS SM k := ⟨hk1, by show k < 100 + 15; omega⟩
      refine ⟨k - 17, cellE G (SM.1 k) (wM0 k), ?_, by rw [if_neg (by omega)]⟩
      rw [List.getElem?_append_right (by rw [cellsO_len]; omega)]
      have hg := cells_get (G := G) (w := wM0) hin
      rw [cellsO_len]
      rw [show k - 17 - 83 = k - SM.2.1 by show k - 17 - 83 = k - 100; omega]
      exact hg
  have hinj : ∀ i j, inL i → inL j → G.2 i = G.2 j → i = j := fun i j hi hj hij => by
    obtain ⟨n1, e1, g1, z1⟩ := hpos i hi
    obtain ⟨n2, e2, g2, z2⟩ := hpos j hj
    have hnn := hD.1 n1 n2 _ _ g1 g2 hij
    unfold inL at hi hj
    by_cases h1 : i < 83 <;> by_cases h2 : j < 83 <;> simp only [h1, h2, if_true, if_false] at z1 z2
    · exact posX_inj h1 h2 (by rw [← z1, ← z2]; exact hnn)
    · have := posX_lt h1
      omega
    · have := posX_lt h2
      omega
    · omega
  have hge : ∀ k, inL k → s.heap.size ≤ G.2 k := fun k hk => by
    obtain ⟨n1, e1, g1, -⟩ := hpos k hk
    exact hD.2 n1 _ g1
  have hPX : va_P G.1 vwCl (cellsW G SX wX0) H := fun i q hq => by
    rw [hG1]
    have hi : i < 83 := (cells_inv hq).1
    have hin : inS SX i := ⟨Nat.zero_le _, by show i < 0 + 83; omega⟩
    have hg := cells_get (G := G) (w := wX0) hin
    rw [show i - SX.2.1 = i from Nat.sub_zero i, hq] at hg
    rw [Option.some.inj hg]
    refine hP (posX i) _ ?_
    rw [List.getElem?_append_left (by rw [cellsO_len]; exact posX_lt hi)]
    exact cellsO_get hi
  have hPM : va_P G.1 vwCl (cellsW G SM wM0) H := fun i q hq => by
    rw [hG1]
    refine hP ((cellsO G wX0).length + i) q ?_
    rw [List.getElem?_append_right (Nat.le_add_right _ _), Nat.add_sub_cancel_left]
    exact hq
  have hq0 : G.2 0 = q0 := by rw [← hGe]; rfl
  have hq1 : G.2 100 = q1 := by rw [← hGe]; rfl
  have hKG : va_K G.1 vwCl (tysG G) s := by rw [← hGe]; exact hKof _ ea
  have hSTG : ST G (fun q => s.heap.size ≤ q) s s.heap := by rw [← hGe]; exact (hSTof _ ea).1
  have hl2 : lv_has ls 4 [(0, .ref b), (1, .ref (G.2 0)), (2, .ref (G.2 100)), (3, .int (nI (6 * 0)))] := by
    rw [hq0, hq1]
    exact lv_sub hl [3, 2, 1, 0] rfl
  exact loop G _ ⟨p, l, e, s, m, below, meth, c, rfl, hx, hb, hml, hown, hts, hKG, hX, hbl, hinj, hge, hSTG, fun H locs pc ls hS hd => va_forget (fun q hq => hS.2.2 q hq) (lw_ret hx hb hr hlocks hd)⟩ ls H locs hl2 hPX hPM hS
end S2
