/-! ===== the claim's room is too small: every run of the law makes more slots than room_1 has ===== -/
/-- the law, with a room in which it can run -/
def M_law9 : xM := (yL_law, cL_law, 4, (some .boolean), { frames := 10, cells := 83, slots := 1604, locals := 354 })
theorem l9_0 : decode M_law9.2.1 0 = .ok (.new 7, 3) := by decide +kernel
theorem l9_3 : decode M_law9.2.1 3 = .ok (.dup, 1) := by decide +kernel
theorem l9_4 : decode M_law9.2.1 4 = .ok (.invokespecial 9, 3) := by decide +kernel
theorem l9_7 : decode M_law9.2.1 7 = .ok (.astore_n 1, 1) := by decide +kernel
theorem l9_8 : decode M_law9.2.1 8 = .ok (.new 10, 3) := by decide +kernel
theorem l9_11 : decode M_law9.2.1 11 = .ok (.dup, 1) := by decide +kernel
theorem l9_12 : decode M_law9.2.1 12 = .ok (.invokespecial 12, 3) := by decide +kernel
set_option maxRecDepth 100000 in
theorem l9_c4 : x_okC M_law9 9 [79, 1, 2, 9, 56, 544, 81, 82, 0, 62, 83] = true := by decide +kernel
set_option maxRecDepth 100000 in
theorem l9_c12 : x_okC M_law9 12 [119, 1, 2, 10, 25, 1012, 896, 897, 0, 72, 898] = true := by decide +kernel
set_option maxRecDepth 100000 in
theorem l9_w : x_wd 79 (.classLink M_law9.1.cls 7 RX9) = true ∧ x_wd 80 (.instantiable RX9 9) = true ∧ x_wd 62 (.initialized RX9) = true ∧ x_wd 894 (.classLink M_law9.1.cls 10 RX10) = true ∧ x_wd 895 (.instantiable RX10 39) = true ∧ x_wd 72 (.initialized RX10) = true := by decide +kernel
/-- the slots of the arrays of a list of shapes -/
def x_a1 (sh : xS) : Nat := match sh with
  | .inl n => n
  | .inr _ => 0
def x_as (S : List xS) : Nat := (S.map x_a1).sum
theorem x_as_le : ∀ (S : List xS) (cells : List Cell), cells.length = S.length → (∀ (k n : Nat), S[k]? = some (.inl n) → ∃ c, cells[k]? = some c ∧ c.slots.size = n) → x_as S ≤ (cells.map (·.slots.size)).sum
  | [], cells, _, _ => Nat.zero_le _
  | sh :: S, [], h, _ => by simp at h
  | sh :: S, c :: cells, h, hk => by
    have ih := x_as_le S cells (by simpa using h) (fun k n hn => by
      obtain ⟨d, h1, h2⟩ := hk (k + 1) n (by simpa using hn)
      exact ⟨d, by simpa using h1, h2⟩)
    have h0 : x_a1 sh ≤ c.slots.size := by
      cases sh with
      | inl n =>
        obtain ⟨d, h1, h2⟩ := hk 0 n rfl
        cases h1
        exact Nat.le_of_eq h2.symm
      | inr o => exact Nat.zero_le _
    simp only [x_as, List.map_cons, List.sum_cons] at ih ⊢
    exact Nat.add_le_add h0 ih
theorem x_used {g : xG} {w : xW} {p : Program} {l : Launch} {e : Env} {R : Room} {s : State} {m : MethodId} {args : Array Value} {below : List Frame} {meth : Method} {c : Code} {T : State} {locs : List Loc} {cells slots : Nat} (hh : x_h g = s.heap.size) (hH : x_H g w T.heap) (X : Stand p l e R s m args below meth c T locs cells slots) : s.slotsUsed + x_as w.1 ≤ T.slotsUsed := by
  have h4 : T.slotsUsed = s.slotsUsed + ((T.heap.toList.drop s.heap.size).map (·.slots.size)).sum := X.same.2.2.2.1
  rw [h4]
  refine Nat.add_le_add_left (x_as_le _ _ ?_ (fun k n hn => ?_)) _
  · rw [List.length_drop, Array.length_toList, hH.1, hh]
    omega
  · have h1 := hH.2.2.1 k _ (x_cs_at (g := g) hn)
    refine ⟨vp_cell (x_cI g) (n, .inl (w.2 k)), ?_, ?_⟩
    · rw [List.getElem?_drop, Array.getElem?_toList, ← hh]
      exact h1
    · show (vp_cell _ _).slots.size = n
      rw [vp_cell_i, arrV_size]
theorem x_as_S0 : x_as sa_X10_init_0 = 1484 := by decide +kernel
set_option maxRecDepth 100000 in
set_option maxHeartbeats 4000000 in
/-- the law up to its loop -/
theorem law9_mid {g : xG} {p : Program} {l : Launch} {e : Env} {s : State} {m : MethodId} {below : List Frame} {meth : Method} {co : Code} {ls : Array Slot} {args : Array Value} {σ : Nat → Nat → Int32}
    (X : x_X M_law9 g p s m args meth co) (hh : x_h g = s.heap.size) (hH : x_H g ([], σ) s.heap) (hL : x_lv g ls 4 [some (.ref 1000), none, none, none]) : W p l e M_law9.2.2.2.2 s m args below meth co s.heap [] 0 0 (fun t => s.slotsUsed + 1132 < t.slotsUsed) (F0 m 0 ls []) := by
  refine x_newo (ci := 9) (q := (RX9, TX9, 9)) X hH va_S.rf rfl l9_w.1 l9_w.2.1 l9_w.2.2.1 (Nat.le_of_ble_eq_true rfl) (Nat.le_of_ble_eq_true rfl) (Nat.le_of_ble_eq_true rfl) l9_0 (fun H hH hS => ?_)
  refine lv_dup X.1 X.2.1 l9_3 rfl ?_
  refine x_callW (sums := sms_12) (lv := [some (.ref 1000), none, none, none]) (st := [.ref 0, .ref 0]) (lvx := []) X hH hS hL vss_12 l9_c4 l9_4 (Or.inr (Or.inr ⟨rfl, rfl⟩)) ?_
  refine And.intro trivial ?_
  intro H1 locs1 hH hS
  refine lv_astore_n X.1 X.2.1 l9_7 rfl (x_lv_has hL) (by decide) rfl (fun ls' h' => ?_)
  have hL := x_lv_back (v := .ref 0) hL rfl h'
  refine x_newo (ci := 10) (q := (RX10, TX10, 39)) X hH hS rfl l9_w.2.2.2.1 l9_w.2.2.2.2.1 l9_w.2.2.2.2.2 (Nat.le_of_ble_eq_true rfl) (Nat.le_of_ble_eq_true rfl) (Nat.le_of_ble_eq_true rfl) l9_8 (fun H hH hS => ?_)
  refine lv_dup X.1 X.2.1 l9_11 rfl ?_
  refine x_callW (sums := sms_12) (lv := [some (.ref 1000), some (.ref 0), none, none]) (st := [.ref 57, .ref 57]) (lvx := []) X hH hS hL vss_12 l9_c12 l9_12 (Or.inr (Or.inr ⟨rfl, rfl⟩)) ?_
  refine And.intro trivial ?_
  intro H2 locs2 hH2 hS2
  intro T hT XT
  refine ⟨_, Steps.refl _, ?_⟩
  have h9 := x_used (w := (sa_X10_init_0, _)) hh (by rw [hT]; exact hH2) XT
  have h9 : s.slotsUsed + x_as sa_X10_init_0 ≤ T.slotsUsed := h9
  rw [x_as_S0] at h9
  show s.slotsUsed + 1132 < T.slotsUsed
  omega
