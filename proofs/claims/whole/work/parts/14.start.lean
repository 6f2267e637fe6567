section S0
def wX0 : Wd := fun k => if k = 1 then upd (fun _ => 0) 5 1 else if k = 25 then upd (fun _ => 0) 5 1 else if k = 16 then upd (fun _ => 0) 0 1 else if k = 40 then upd (fun _ => 0) 0 1 else fun _ => 0
def wM0 : Wd := fun k => if k = 101 then upd (upd (upd (fun _ => 0) 2 1) 6 (-1)) 7 (-1) else fun _ => 0
def adr (q0 : Nat) (f : Fa) (q1 : Nat) (h : Fa) (sp : Fa) : Fa := fun k => if k = 0 then q0 else if k < 67 then f (k - 1) else if k < 81 then f (k + 1) else if k < 83 then f (k - 15) else if k = 100 then q1 else if k < 115 then h (k - 101) else sp k
def kw8 (G : Gv) (f : Fa) (t : Nat → Option Nat) : va_W := [(f 0, .inr (0, [.ref (f 1), .ref (f 10), .ref (f 15), .ref (f 20), .ref (f 22), .int 1])), (f 1, .inr (6, [.int 0, .ref (f 2), .ref (f 3), .ref (f 4), .ref (f 5), .int 0, .ref (f 6), .ref (f 7), .ref (f 8), .ref (f 9), .int 0, .int 0, .int 0])), (f 2, .inl (G.2 1001, 5, .inl (fun _ => 0))), (f 3, .inl (G.2 1001, 5, .inl (fun _ => 0))), (f 4, .inl (G.2 1001, 5, .inl (fun _ => 0))), (f 5, .inl (G.2 1001, 5, .inl (fun _ => 0))), (f 6, .inl (G.2 1001, 6, .inl (fun _ => 0))), (f 7, .inl (G.2 1001, 6, .inl (fun _ => 0))), (f 8, .inl (G.2 1001, 6, .inl (fun _ => 0))), (f 9, .inl (G.2 1001, 6, .inl (fun _ => 0))), (f 10, .inr (2, [.int 0, .ref (f 11), .ref (f 13)])), (f 11, .inr (4, [.ref (f 12), .int 0])), (f 12, .inl (G.2 1001, 50, .inl (fun _ => 0))), (f 13, .inr (4, [.ref (f 14), .int 0])), (f 14, .inl (G.2 1001, 50, .inl (fun _ => 0))), (f 15, .inr (2, [.int 1, .ref (f 16), .ref (f 18)])), (f 16, .inr (4, [.ref (f 17), .int 0])), (f 17, .inl (G.2 1001, 50, .inl (fun _ => 0))), (f 18, .inr (4, [.ref (f 19), .int 0])), (f 19, .inl (G.2 1001, 50, .inl (fun _ => 0))), (f 20, .inr (4, [.ref (f 21), .int 0])), (f 21, .inl (G.2 1001, 50, .inl (fun _ => 0))), (f 22, .inr (4, [.ref (f 23), .int 0])), (f 23, .inl (G.2 1001, 20, .inl (fun _ => 0))), (f 24, .inr (0, [.ref (f 25), .ref (f 34), .ref (f 39), .ref (f 44), .ref (f 46), .int 1])), (f 25, .inr (6, [.int 0, .ref (f 26), .ref (f 27), .ref (f 28), .ref (f 29), .int 0, .ref (f 30), .ref (f 31), .ref (f 32), .ref (f 33), .int 0, .int 0, .int 0])), (f 26, .inl (G.2 1001, 5, .inl (fun _ => 0))), (f 27, .inl (G.2 1001, 5, .inl (fun _ => 0))), (f 28, .inl (G.2 1001, 5, .inl (fun _ => 0))), (f 29, .inl (G.2 1001, 5, .inl (fun _ => 0))), (f 30, .inl (G.2 1001, 6, .inl (fun _ => 0))), (f 31, .inl (G.2 1001, 6, .inl (fun _ => 0))), (f 32, .inl (G.2 1001, 6, .inl (fun _ => 0))), (f 33, .inl (G.2 1001, 6, .inl (fun _ => 0))), (f 34, .inr (2, [.int 0, .ref (f 35), .ref (f 37)])), (f 35, .inr (4, [.ref (f 36), .int 0])), (f 36, .inl (G.2 1001, 50, .inl (fun _ => 0))), (f 37, .inr (4, [.ref (f 38), .int 0])), (f 38, .inl (G.2 1001, 50, .inl (fun _ => 0))), (f 39, .inr (2, [.int 1, .ref (f 40), .ref (f 42)])), (f 40, .inr (4, [.ref (f 41), .int 0])), (f 41, .inl (G.2 1001, 50, .inl (fun _ => 0))), (f 42, .inr (4, [.ref (f 43), .int 0])), (f 43, .inl (G.2 1001, 50, .inl (fun _ => 0))), (f 44, .inr (4, [.ref (f 45), .int 0])), (f 45, .inl (G.2 1001, 50, .inl (fun _ => 0))), (f 46, .inr (4, [.ref (f 47), .int 0])), (f 47, .inl (G.2 1001, 20, .inl (fun _ => 0))), (f 48, .inr (6, [.int 0, .ref (f 49), .ref (f 50), .ref (f 51), .ref (f 52), .int 0, .ref (f 53), .ref (f 54), .ref (f 55), .ref (f 56), .int 0, .int 0, .int 0])), (f 49, .inl (G.2 1001, 5, .inl (fun _ => 0))), (f 50, .inl (G.2 1001, 5, .inl (fun _ => 0))), (f 51, .inl (G.2 1001, 5, .inl (fun _ => 0))), (f 52, .inl (G.2 1001, 5, .inl (fun _ => 0))), (f 53, .inl (G.2 1001, 6, .inl (fun _ => 0))), (f 54, .inl (G.2 1001, 6, .inl (fun _ => 0))), (f 55, .inl (G.2 1001, 6, .inl (fun _ => 0))), (f 56, .inl (G.2 1001, 6, .inl (fun _ => 0))), (f 57, .inr (1, [.ref (f 58), .ref (f 59), .ref (f 60), .ref (f 61), .ref (f 62), .int 0, .int 0, .int 0])), (f 58, .inl (G.2 1001, 5, .inl (fun _ => 0))), (f 59, .inl (G.2 1001, 5, .inl (fun _ => 0))), (f 60, .inl (G.2 1001, 5, .inl (fun _ => 0))), (f 61, .inl (G.2 1002, 5, .inl (fun _ => 0))), (f 62, .inl (G.2 1001, 6, .inl (fun _ => 0))), (f 63, .inr (3, [.ref (f 64), .int 0, .ref (f 66), .ref (G.2 1004)])), (f 64, .inr (4, [.ref (f 65), .int 0])), (f 65, .inl (G.2 1001, 50, .inl (fun _ => 0))), (f 66, .inr (4, [.ref (f 67), .int 0])), (f 67, .inl (G.2 1001, 50, .inl (fun _ => 0))), (f 68, .inr (7, [.ref (f 69), .int 0, .int 0, .int 0])), (f 69, .inr (4, [.ref (f 70), .int 0])), (f 70, .inl (G.2 1001, 40, .inl (fun _ => 0))), (f 71, .inl (G.2 1003, 4, .inr (.inr (.inr (.inr t))))), (f 72, .inr (5, [.int 0, .int 0, .ref (f 73)])), (f 73, .inl (G.2 1001, 40, .inl (fun _ => 0))), (f 74, .inr (5, [.int 0, .int 0, .ref (f 75)])), (f 75, .inl (G.2 1001, 40, .inl (fun _ => 0))), (f 76, .inr (5, [.int 0, .int 0, .ref (f 77)])), (f 77, .inl (G.2 1001, 40, .inl (fun _ => 0))), (f 78, .inr (5, [.int 0, .int 0, .ref (f 79)])), (f 79, .inl (G.2 1001, 40, .inl (fun _ => 0))), (f 80, .inl (G.2 1001, 30, .inl (fun _ => 0))), (f 81, .inl (G.2 1001, 6, .inl (fun _ => 0)))]
theorem kw8_eq (G : Gv) (f : Fa) : kw_X8 G f = kw8 G f (va_up (va_up (va_up (va_up (fun _ => none) 0 (some (f 72))) 1 (some (f 74))) 2 (some (f 76))) 3 (some (f 78))) := rfl
theorem kw8_t (f : Fa) (A : Fa) (h : ∀ k, 66 < k → k < 81 → A k = f (k + 1)) : (va_up (va_up (va_up (va_up (fun _ => none) 0 (some (f 72))) 1 (some (f 74))) 2 (some (f 76))) 3 (some (f 78))) = (fun k => (([71, 73, 75, 77] : List Nat)[k]?).map A) := by
  funext k
  match k with
  | 0 => exact (congrArg some (h 71 (by decide) (by decide))).symm
  | 1 => exact (congrArg some (h 73 (by decide) (by decide))).symm
  | 2 => exact (congrArg some (h 75 (by decide) (by decide))).symm
  | 3 => exact (congrArg some (h 77 (by decide) (by decide))).symm
  | n + 4 =>
    have e0 : ¬ n + 4 = 0 := by omega
    have e1 : ¬ n + 4 = 1 := by omega
    have e2 : ¬ n + 4 = 2 := by omega
    have e3 : ¬ n + 4 = 3 := by omega
    simp [va_up, e0, e1, e2, e3]
/-- the cells in the order in which the constructor makes them: the Reader's bytes (81, 82) come behind its code -/
def ordX : List Nat := [0, 1, 2, 3, 4, 5, 6, 7, 8, 9, 10, 11, 12, 13, 14, 15, 16, 17, 18, 19, 20, 21, 22, 23, 24, 25, 26, 27, 28, 29, 30, 31, 32, 33, 34, 35, 36, 37, 38, 39, 40, 41, 42, 43, 44, 45, 46, 47, 48, 49, 50, 51, 52, 53, 54, 55, 56, 57, 58, 59, 60, 61, 62, 63, 64, 65, 66, 81, 82, 67, 68, 69, 70, 71, 72, 73, 74, 75, 76, 77, 78, 79, 80]
def posX (k : Nat) : Nat := if k < 67 then k else if k < 81 then k + 2 else k - 14
def cellsO (G : Gv) (w : Wd) : va_W := ordX.map (fun k => (G.2 k, cellE G (KX k) (w k)))
theorem posX_lt {k : Nat} (h : k < 83) : posX k < 83 := by
  unfold posX
  split
  · omega
  · split <;> omega
theorem ord_get : ∀ k : Nat, k < 83 → ordX[posX k]? = some k := by decide +kernel
theorem cellsO_get {G : Gv} {w : Wd} {k : Nat} (h : k < 83) : (cellsO G w)[posX k]? = some (G.2 k, cellE G (KX k) (w k)) := by
  unfold cellsO
  rw [List.getElem?_map, ord_get k h]
  rfl
theorem cellsO_len {G : Gv} {w : Wd} : (cellsO G w).length = 83 := by
  unfold cellsO
  rw [List.length_map]
  rfl
theorem posX_inj {i j : Nat} (hi : i < 83) (hj : j < 83) (h : posX i = posX j) : i = j := by
  have a := ord_get i hi
  have b := ord_get j hj
  rw [h] at a
  exact Option.some.inj (a.symm.trans b)
set_option maxRecDepth 100000 in
set_option maxHeartbeats 4000000 in
theorem startX (D : va_G) (q0 : Nat) (f : Fa) (q1 : Nat) (h sp : Fa) : (q0, ke_X8 (D, adr q0 f q1 h sp) f) :: kw_X8 (D, adr q0 f q1 h sp) f = cellsO (D, adr q0 f q1 h sp) wX0 := by
  rw [kw8_eq, kw8_t f (adr q0 f q1 h sp) (fun k hk1 hk => by
    unfold adr
    rw [if_neg (by omega), if_neg (by omega), if_pos (by omega)])]
  rfl
set_option maxRecDepth 20000 in
theorem sM_100 (D : va_G) (q0 : Nat) (f : Fa) (q1 : Nat) (h sp : Fa) : ((D, adr q0 f q1 h sp).2 100, cellE (D, adr q0 f q1 h sp) (KM 100) (wM0 100)) = (q1, .inr (9, [.ref (h 0), .ref (h 1), .ref (h 2), .ref (h 3), .int 0, .int 0, .ref (h 4), .int 0, .int 0, .int 0, .int 0, .int 0, .int 0, .int 0, .int 0, .ref (h 5), .ref (h 6), .ref (h 7), .ref (h 8), .ref (h 9), .ref (h 10), .ref (h 11), .ref (h 12), .ref (h 13), .int 0, .int 0, .int 0, .int 0])) := by
  show (q1, Sum.inr (9, slotsV (D, adr q0 f q1 h sp) (fun _ => 0) (tabM.getD 0 (9, 0, [])).2.2)) = _
  simp only [tabM, List.getD_cons_zero, slotsV, List.mapIdx_cons, List.mapIdx_nil]
  rfl
set_option maxRecDepth 20000 in
theorem sM_101 (D : va_G) (q0 : Nat) (f : Fa) (q1 : Nat) (h sp : Fa) : ((D, adr q0 f q1 h sp).2 101, cellE (D, adr q0 f q1 h sp) (KM 101) (wM0 101)) = (h 0, .inl ((D, adr q0 f q1 h sp).2 1001, 229, .inl (upd (upd (upd (fun _ => 0) 2 1) 6 (-1)) 7 (-1)))) := rfl
set_option maxRecDepth 20000 in
theorem sM_102 (D : va_G) (q0 : Nat) (f : Fa) (q1 : Nat) (h sp : Fa) : ((D, adr q0 f q1 h sp).2 102, cellE (D, adr q0 f q1 h sp) (KM 102) (wM0 102)) = (h 1, .inl ((D, adr q0 f q1 h sp).2 1001, 229, .inl (fun _ => 0))) := rfl
set_option maxRecDepth 20000 in
theorem sM_103 (D : va_G) (q0 : Nat) (f : Fa) (q1 : Nat) (h sp : Fa) : ((D, adr q0 f q1 h sp).2 103, cellE (D, adr q0 f q1 h sp) (KM 103) (wM0 103)) = (h 2, .inl ((D, adr q0 f q1 h sp).2 1001, 229, .inl (fun _ => 0))) := rfl
set_option maxRecDepth 20000 in
theorem sM_104 (D : va_G) (q0 : Nat) (f : Fa) (q1 : Nat) (h sp : Fa) : ((D, adr q0 f q1 h sp).2 104, cellE (D, adr q0 f q1 h sp) (KM 104) (wM0 104)) = (h 3, .inl ((D, adr q0 f q1 h sp).2 1001, 229, .inl (fun _ => 0))) := rfl
set_option maxRecDepth 20000 in
theorem sM_105 (D : va_G) (q0 : Nat) (f : Fa) (q1 : Nat) (h sp : Fa) : ((D, adr q0 f q1 h sp).2 105, cellE (D, adr q0 f q1 h sp) (KM 105) (wM0 105)) = (h 4, .inl ((D, adr q0 f q1 h sp).2 1001, 6, .inl (fun _ => 0))) := rfl
set_option maxRecDepth 20000 in
theorem sM_106 (D : va_G) (q0 : Nat) (f : Fa) (q1 : Nat) (h sp : Fa) : ((D, adr q0 f q1 h sp).2 106, cellE (D, adr q0 f q1 h sp) (KM 106) (wM0 106)) = (h 5, .inl ((D, adr q0 f q1 h sp).2 1001, 5, .inl (fun _ => 0))) := rfl
set_option maxRecDepth 20000 in
theorem sM_107 (D : va_G) (q0 : Nat) (f : Fa) (q1 : Nat) (h sp : Fa) : ((D, adr q0 f q1 h sp).2 107, cellE (D, adr q0 f q1 h sp) (KM 107) (wM0 107)) = (h 6, .inl ((D, adr q0 f q1 h sp).2 1001, 5, .inl (fun _ => 0))) := rfl
set_option maxRecDepth 20000 in
theorem sM_108 (D : va_G) (q0 : Nat) (f : Fa) (q1 : Nat) (h sp : Fa) : ((D, adr q0 f q1 h sp).2 108, cellE (D, adr q0 f q1 h sp) (KM 108) (wM0 108)) = (h 7, .inl ((D, adr q0 f q1 h sp).2 1001, 6, .inl (fun _ => 0))) := rfl
set_option maxRecDepth 20000 in
theorem sM_109 (D : va_G) (q0 : Nat) (f : Fa) (q1 : Nat) (h sp : Fa) : ((D, adr q0 f q1 h sp).2 109, cellE (D, adr q0 f q1 h sp) (KM 109) (wM0 109)) = (h 8, .inl ((D, adr q0 f q1 h sp).2 1001, 5, .inl (fun _ => 0))) := rfl
set_option maxRecDepth 20000 in
theorem sM_110 (D : va_G) (q0 : Nat) (f : Fa) (q1 : Nat) (h sp : Fa) : ((D, adr q0 f q1 h sp).2 110, cellE (D, adr q0 f q1 h sp) (KM 110) (wM0 110)) = (h 9, .inl ((D, adr q0 f q1 h sp).2 1001, 4, .inl (fun _ => 0))) := rfl
set_option maxRecDepth 20000 in
theorem sM_111 (D : va_G) (q0 : Nat) (f : Fa) (q1 : Nat) (h sp : Fa) : ((D, adr q0 f q1 h sp).2 111, cellE (D, adr q0 f q1 h sp) (KM 111) (wM0 111)) = (h 10, .inl ((D, adr q0 f q1 h sp).2 1001, 4, .inl (fun _ => 0))) := rfl
set_option maxRecDepth 20000 in
theorem sM_112 (D : va_G) (q0 : Nat) (f : Fa) (q1 : Nat) (h sp : Fa) : ((D, adr q0 f q1 h sp).2 112, cellE (D, adr q0 f q1 h sp) (KM 112) (wM0 112)) = (h 11, .inl ((D, adr q0 f q1 h sp).2 1001, 160, .inl (fun _ => 0))) := rfl
set_option maxRecDepth 20000 in
theorem sM_113 (D : va_G) (q0 : Nat) (f : Fa) (q1 : Nat) (h sp : Fa) : ((D, adr q0 f q1 h sp).2 113, cellE (D, adr q0 f q1 h sp) (KM 113) (wM0 113)) = (h 12, .inl ((D, adr q0 f q1 h sp).2 1001, 40, .inl (fun _ => 0))) := rfl
set_option maxRecDepth 20000 in
theorem sM_114 (D : va_G) (q0 : Nat) (f : Fa) (q1 : Nat) (h sp : Fa) : ((D, adr q0 f q1 h sp).2 114, cellE (D, adr q0 f q1 h sp) (KM 114) (wM0 114)) = (h 13, .inl ((D, adr q0 f q1 h sp).2 1001, 40, .inl (fun _ => 0))) := rfl
set_option maxRecDepth 100000 in
theorem startM (D : va_G) (q0 : Nat) (f : Fa) (q1 : Nat) (h sp : Fa) : (q1, ke_X9 (D, adr q0 f q1 h sp) h) :: kw_X9 (D, adr q0 f q1 h sp) h = cellsW (D, adr q0 f q1 h sp) SM wM0 := by
  show _ = [((D, adr q0 f q1 h sp).2 100, cellE (D, adr q0 f q1 h sp) (KM 100) (wM0 100)), ((D, adr q0 f q1 h sp).2 101, cellE (D, adr q0 f q1 h sp) (KM 101) (wM0 101)), ((D, adr q0 f q1 h sp).2 102, cellE (D, adr q0 f q1 h sp) (KM 102) (wM0 102)), ((D, adr q0 f q1 h sp).2 103, cellE (D, adr q0 f q1 h sp) (KM 103) (wM0 103)), ((D, adr q0 f q1 h sp).2 104, cellE (D, adr q0 f q1 h sp) (KM 104) (wM0 104)), ((D, adr q0 f q1 h sp).2 105, cellE (D, adr q0 f q1 h sp) (KM 105) (wM0 105)), ((D, adr q0 f q1 h sp).2 106, cellE (D, adr q0 f q1 h sp) (KM 106) (wM0 106)), ((D, adr q0 f q1 h sp).2 107, cellE (D, adr q0 f q1 h sp) (KM 107) (wM0 107)), ((D, adr q0 f q1 h sp).2 108, cellE (D, adr q0 f q1 h sp) (KM 108) (wM0 108)), ((D, adr q0 f q1 h sp).2 109, cellE (D, adr q0 f q1 h sp) (KM 109) (wM0 109)), ((D, adr q0 f q1 h sp).2 110, cellE (D, adr q0 f q1 h sp) (KM 110) (wM0 110)), ((D, adr q0 f q1 h sp).2 111, cellE (D, adr q0 f q1 h sp) (KM 111) (wM0 111)), ((D, adr q0 f q1 h sp).2 112, cellE (D, adr q0 f q1 h sp) (KM 112) (wM0 112)), ((D, adr q0 f q1 h sp).2 113, cellE (D, adr q0 f q1 h sp) (KM 113) (wM0 113)), ((D, adr q0 f q1 h sp).2 114, cellE (D, adr q0 f q1 h sp) (KM 114) (wM0 114))]
  rw [sM_100, sM_101, sM_102, sM_103, sM_104, sM_105, sM_106, sM_107, sM_108, sM_109, sM_110, sM_111, sM_112, sM_113, sM_114]
  rfl
set_option maxRecDepth 100000 in
theorem kwX_sp (D : va_G) (a c : Fa) (f : Fa) (h : ∀ k, 1000 ≤ k → a k = c k) : ke_X8 (D, a) f = ke_X8 (D, c) f ∧ kw_X8 (D, a) f = kw_X8 (D, c) f := by
  unfold ke_X8 kw_X8
  simp only [h 1001 (by decide), h 1002 (by decide), h 1003 (by decide), h 1004 (by decide), and_self]
set_option maxRecDepth 100000 in
theorem kwM_sp (D : va_G) (a c : Fa) (f : Fa) (h : ∀ k, 1000 ≤ k → a k = c k) : ke_X9 (D, a) f = ke_X9 (D, c) f ∧ kw_X9 (D, a) f = kw_X9 (D, c) f := by
  unfold ke_X9 kw_X9
  simp only [h 1001 (by decide), and_self]
theorem adr_sp {q0 : Nat} {f : Fa} {q1 : Nat} {h sp : Fa} (k : Nat) (hk : 1000 ≤ k) : adr q0 f q1 h sp k = sp k := by
  unfold adr
  rw [if_neg (by omega), if_neg (by omega), if_neg (by omega), if_neg (by omega), if_neg (by omega), if_neg (by omega)]
theorem str_of {args : Array Value} {s : State} {tm : Term} {byt : List Int32} {A : Nat → Prop} (hex : (Cond.exactly tm "java/lang/String").before args s = true) (hco : (Cond.eq (.field tm "java/lang/String" "coder" "B") (.int 0)).before args s = true) (har : (Cond.arrayOf (.field tm "java/lang/String" "value" "[B") .byte).before args s = true) (hle : (Cond.eq (.length (.field tm "java/lang/String" "value" "[B")) (.int (Int32.ofNat 3))).before args s = true)
    (hel : ∀ j : Nat, j < 3 → (Cond.eq (.elem (.field tm "java/lang/String" "value" "[B") (.int (Int32.ofNat j))) (.int (byt.getD j 0))).before args s = true) (hA : ∀ a : Nat, a < s.heap.size → ¬ A a) :
    ∃ a t : Nat, tm.eval args s none [] s = some (.ref a) ∧ va_O RJ0 a A s s.heap ∧ va_OF RJ0 "value" "[B" (.ref t) a A s s.heap ∧ va_OF RJ0 "coder" "B" (.int 0) a A s s.heap ∧ va_T .byte t 3 (fun j => .int (byt.getD j 0)) A s s.heap := by
  obtain ⟨a, c, cA, kA, q1, q2, q3, q4, q5, q6, -⟩ := Cond.exactly_spec (args := args) (first := s) (o := none) (s := s) (idx := []) (t := tm) (cls := "java/lang/String") hex
  obtain ⟨t, ht, hT⟩ := va_Tof (f := fun j => .int (byt.getD j 0)) (A := A) (by decide) har (va_eqt hle) (fun j hj => va_eqt (hel j hj)) hA
  exact ⟨a, t, q1, ⟨cA, q3, q5, by rw [q6]; exact q2, hA a (Array.getElem?_eq_some_iff.mp q3).1⟩, vk_OFof q1 ht hA, vk_OFof q1 (va_eqt hco) hA, hT⟩
theorem arr_of {args : Array Value} {s : State} {ty : FieldType} (h : (Cond.arrayClass ty).before args s = true) (hno : ∀ C, ty ≠ .object C) : ∃ cA, ArrOfT s cA ty ∧ va_RA s cA ty := by
  obtain ⟨cA, kA, comp, h1, h2, h3⟩ := Cond.arrayClass_spec h
  refine ⟨cA, fun n z => ⟨fun k hk => (by cases hk), kA, h2, comp, h3⟩, ?_⟩
  cases ty with
  | object C => exact absurd rfl (hno C)
  | _ => exact h1
theorem arrq_of {args : Array Value} {s : State} {C : String} (h : (Cond.arrayOver (.object C)).before args s = true) : ∃ cA, ArrOfT s cA (.object C) ∧ va_RA s cA (.object C) := by
  obtain ⟨comp, c, k, h1, h2, h3, h4, h5⟩ := Cond.arrayOver_spec h
  exact ⟨c, fun n z => ⟨fun k hk => (by cases hk), k, h3, comp, h4⟩, k, comp, h3, h4, h1, h5⟩

end S0
