section S1

theorem stat_of {s : State} {b : Nat} (hts : ∀ w ∈ lw_tbl, w.before #[Value.ref b] s = true) (hgv : (Jvm.Cond.and given_1 narrow_1).before #[Value.ref b] s = true) (A : Nat → Prop) (hA : ∀ a : Nat, a < s.heap.size → ¬ A a) : ∃ tA tB a0 v0 a1 v1 : Nat, ∀ G : Gv, G.2 1004 = a0 → G.2 1005 = a1 → G.2 1006 = tA → G.2 1007 = tB → G.2 1008 = v0 → G.2 1009 = v1 → ST G A s s.heap ∧ vk_R RX3 23 "lmk" (G.2 1004) s := by
  have hs := flat_of_before _ hgv
  obtain ⟨tA, hA1, hA2⟩ := va_Tof (tm := .static RX8 "ABOVE" "[I") (ty := .int) (N := 7) (f := fun j => .int (tblA j)) (A := A) (by decide) (hs _ (by decide +kernel)) (va_eqt (hs _ (by decide +kernel))) (fun j hj => by
    match j, hj with
    | 0, _ => exact va_eqt (hs _ (by decide +kernel))
    | 1, _ => exact va_eqt (hs _ (by decide +kernel))
    | 2, _ => exact va_eqt (hs _ (by decide +kernel))
    | 3, _ => exact va_eqt (hs _ (by decide +kernel))
    | 4, _ => exact va_eqt (hs _ (by decide +kernel))
    | 5, _ => exact va_eqt (hs _ (by decide +kernel))
    | 6, _ => exact va_eqt (hs _ (by decide +kernel))
    | j + 7, hj => omega) hA
  obtain ⟨tB, hB1, hB2⟩ := va_Tof (tm := .static RX7 "BODIES" "[I") (ty := .int) (N := 28) (f := fun j => .int (tblB j)) (A := A) (by decide) (hs _ (by decide +kernel)) (va_eqt (hs _ (by decide +kernel))) (fun j hj => by
    match j, hj with
    | 0, _ => exact va_eqt (hs _ (by decide +kernel))
    | 1, _ => exact va_eqt (hs _ (by decide +kernel))
    | 2, _ => exact va_eqt (hs _ (by decide +kernel))
    | 3, _ => exact va_eqt (hs _ (by decide +kernel))
    | 4, _ => exact va_eqt (hs _ (by decide +kernel))
    | 5, _ => exact va_eqt (hs _ (by decide +kernel))
    | 6, _ => exact va_eqt (hs _ (by decide +kernel))
    | 7, _ => exact va_eqt (hs _ (by decide +kernel))
    | 8, _ => exact va_eqt (hs _ (by decide +kernel))
    | 9, _ => exact va_eqt (hs _ (by decide +kernel))
    | 10, _ => exact va_eqt (hs _ (by decide +kernel))
    | 11, _ => exact va_eqt (hs _ (by decide +kernel))
    | 12, _ => exact va_eqt (hs _ (by decide +kernel))
    | 13, _ => exact va_eqt (hs _ (by decide +kernel))
    | 14, _ => exact va_eqt (hs _ (by decide +kernel))
    | 15, _ => exact va_eqt (hs _ (by decide +kernel))
    | 16, _ => exact va_eqt (hs _ (by decide +kernel))
    | 17, _ => exact va_eqt (hs _ (by decide +kernel))
    | 18, _ => exact va_eqt (hs _ (by decide +kernel))
    | 19, _ => exact va_eqt (hs _ (by decide +kernel))
    | 20, _ => exact va_eqt (hs _ (by decide +kernel))
    | 21, _ => exact va_eqt (hs _ (by decide +kernel))
    | 22, _ => exact va_eqt (hs _ (by decide +kernel))
    | 23, _ => exact va_eqt (hs _ (by decide +kernel))
    | 24, _ => exact va_eqt (hs _ (by decide +kernel))
    | 25, _ => exact va_eqt (hs _ (by decide +kernel))
    | 26, _ => exact va_eqt (hs _ (by decide +kernel))
    | 27, _ => exact va_eqt (hs _ (by decide +kernel))
    | j + 28, hj => omega) hA
  obtain ⟨a0, v0, e0, o0, f0, c0, t0⟩ := str_of (tm := .string RX3 23) (byt := bytC) (A := A) (hs _ (by decide +kernel)) (hs _ (by decide +kernel)) (hs _ (by decide +kernel)) (hs _ (by decide +kernel)) (fun j hj => by
    match j, hj with
    | 0, _ => exact hs _ (by decide +kernel)
    | 1, _ => exact hs _ (by decide +kernel)
    | 2, _ => exact hs _ (by decide +kernel)
    | j + 3, hj => omega) hA
  obtain ⟨a1, v1, e1, o1, f1, c1, t1⟩ := str_of (tm := .string RX3 33) (byt := bytW) (A := A) (hs _ (by decide +kernel)) (hs _ (by decide +kernel)) (hs _ (by decide +kernel)) (hs _ (by decide +kernel)) (fun j hj => by
    match j, hj with
    | 0, _ => exact hs _ (by decide +kernel)
    | 1, _ => exact hs _ (by decide +kernel)
    | 2, _ => exact hs _ (by decide +kernel)
    | j + 3, hj => omega) hA
  refine ⟨tA, tB, a0, v0, a1, v1, fun G g4 g5 g6 g7 g8 g9 => ?_⟩
  have r0 : vk_R RX3 23 "lmk" a0 s := vk_R.of (hts _ (List.mem_of_getElem? (i := 272) (by decide +kernel))) e0
  have r1 : vk_R RX3 33 "lpn" a1 s := vk_R.of (hts _ (List.mem_of_getElem? (i := 506) (by decide +kernel))) e1
  subst g4 g5 g6 g7 g8 g9
  exact ⟨⟨⟨va_Zref (hts _ (List.mem_of_getElem? (i := 439) (by decide +kernel))) (hts _ (List.mem_of_getElem? (i := 71) (by decide +kernel))) hA1 hA, hA2, va_Zref (hts _ (List.mem_of_getElem? (i := 847) (by decide +kernel))) (hts _ (List.mem_of_getElem? (i := 79) (by decide +kernel))) hB1 hA, hB2, va_Zof (hts _ (List.mem_of_getElem? (i := 552) (by decide +kernel))) (hts _ (List.mem_of_getElem? (i := 83) (by decide +kernel))) (va_eqi (hs _ (by decide +kernel))) hA, o0, f0, c0, t0, o1, f1, c1, t1⟩, va_Nw.of rfl (hts _ (List.mem_of_getElem? (i := 681) (by decide +kernel))), va_Nw.of rfl (hts _ (List.mem_of_getElem? (i := 853) (by decide +kernel))), r0, r1⟩, r0⟩
end S1
