/-! ===== what the law's start gives ===== -/
def x_tm (i : Nat) : Term := Term.string (x_strs.getD i ("", 0, "")).1 (x_strs.getD i ("", 0, "")).2.1
def x_gv : List Cond := flatC (Jvm.Cond.and given_1 narrow_1)
set_option maxRecDepth 100000 in
theorem x_g1 : ∀ i, i < 11 → (Cond.exactly (x_tm i) "java/lang/String") ∈ x_gv := by decide +kernel
set_option maxRecDepth 100000 in
theorem x_g2 : ∀ i, i < 11 → (Cond.eq (.field (x_tm i) "java/lang/String" "coder" "B") (.int 0)) ∈ x_gv := by decide +kernel
set_option maxRecDepth 100000 in
theorem x_g3 : ∀ i, i < 11 → (Cond.arrayOf (.field (x_tm i) "java/lang/String" "value" "[B") .byte) ∈ x_gv := by decide +kernel
set_option maxRecDepth 100000 in
theorem x_g4 : ∀ i, i < 11 → (Cond.eq (.length (.field (x_tm i) "java/lang/String" "value" "[B")) (.int (Int32.ofNat (x_len.getD i 0)))) ∈ x_gv := by decide +kernel
set_option maxRecDepth 100000 in
theorem x_g5 : ∀ i, i < 11 → ∀ j, j < x_len.getD i 0 → (Cond.eq (.elem (.field (x_tm i) "java/lang/String" "value" "[B") (.int (Int32.ofNat j))) (.int ((x_byt.getD i []).getD j 0))) ∈ x_gv := by decide +kernel
set_option maxRecDepth 100000 in
theorem x_g6 : ∀ i, i < 11 → ∀ j, j < 11 → i ≠ j → (Cond.not (Cond.eq (x_tm i) (x_tm j))) ∈ x_gv ∨ (Cond.not (Cond.eq (x_tm j) (x_tm i))) ∈ x_gv := by decide +kernel
set_option maxRecDepth 100000 in
theorem x_g7 : (Cond.eq (.static "java/lang/String" "COMPACT_STRINGS" "Z") (.int 1)) ∈ x_gv ∧ (Cond.isRef (.static "jdk/internal/util/Preconditions" "SIOOBE_FORMATTER" "Ljava/util/function/BiFunction;")) ∈ x_gv := by decide +kernel
theorem x_g8 : ∀ i, i < 11 → x_len.getD i 0 < 2 ^ 31 := by decide +kernel
set_option maxRecDepth 100000 in
theorem x_t1 : ∀ q ∈ x_nest, Cond.methodLinkNest q.1 q.2.1 q.2.2.1 q.2.2.2 ∈ lw_tbl := by decide +kernel
set_option maxRecDepth 100000 in
theorem x_t2 : ∀ q ∈ x_strs, Cond.stringRef q.1 q.2.1 q.2.2 ∈ lw_tbl := by decide +kernel
set_option maxRecDepth 100000 in
theorem x_t3 : (Cond.laysStatic "java/lang/String" "COMPACT_STRINGS" "Z") ∈ lw_tbl ∧ (Cond.initialized "java/lang/String") ∈ lw_tbl ∧ (Cond.laysStatic "jdk/internal/util/Preconditions" "SIOOBE_FORMATTER" "Ljava/util/function/BiFunction;") ∈ lw_tbl ∧ (Cond.initialized "jdk/internal/util/Preconditions") ∈ lw_tbl ∧ (Cond.arrayClass .int) ∈ lw_tbl := by decide +kernel
set_option maxRecDepth 100000 in
theorem x_t4 : ∀ q ∈ vwCl, (Cond.instantiable q.1 q.2.2) ∈ lw_tbl := by decide +kernel
theorem x_tb_sub {w : Cond} (h : w ∈ x_tb) : w ∈ lw_tbl := (List.mem_filter.mp h).1
/-- the world's keepers at the start -/
theorem x_start {s : State} {b L : Nat} {xs : Nat → Int32} {args : Array Value} (hts : ∀ w ∈ lw_tbl, w.before args s = true) (hX : va_X b L xs s s.heap) (hbl : b < s.heap.size) (hL : L ≤ 2560) (hgv : (Jvm.Cond.and given_1 narrow_1).before args s = true) :
    ∃ g : xG, x_h g = s.heap.size ∧ x_b g = b ∧ x_L g = L ∧ x_xs g = xs ∧ x_K g s := by
  have hgv := flat_of_before _ hgv
  have hk : ∀ k : Nat, ∃ (c : ClassId) (i : Nat → Nat), ∀ q : vw_C, vwCl[k]? = some q → u_Kn s q.1 q.2.1 q.2.2 c i := by
    intro k
    cases hq : vwCl[k]? with
    | none => exact ⟨0, fun _ => 0, fun q h => by cases h⟩
    | some q =>
      obtain ⟨c, i, h⟩ := u_known (C := q.1) (T := q.2.1) (N := q.2.2) (n := q.2.2) hts (fun w hw => x_tb_sub ((x_cls k q hq).1 w hw)) (hts _ (x_t4 q (List.mem_of_getElem? hq)))
      exact ⟨c, i, fun q' h' => by cases h'; exact h⟩
  obtain ⟨dC, hk⟩ := Classical.axiomOfChoice hk
  obtain ⟨dI, hk⟩ := Classical.axiomOfChoice hk
  obtain ⟨cA, kA, comp, hfind, hkA, hkind⟩ := Cond.arrayClass_spec (hts _ x_t3.2.2.2.2)
  have hA : ∀ a : Nat, a < s.heap.size → ¬ (fun q : Nat => s.heap.size ≤ q) a := fun a h => Nat.not_le.mpr h
  obtain ⟨adK, adV, hS, hR⟩ := vk_Sof (args := args) (s := s) (N := 11) (tm := x_tm) (len := x_len) (byt := x_byt) (A := fun q : Nat => s.heap.size ≤ q) x_g8 (fun i hi => hgv _ (x_g1 i hi)) (fun i hi => hgv _ (x_g2 i hi)) (fun i hi => hgv _ (x_g3 i hi)) (fun i hi => hgv _ (x_g4 i hi)) (fun i hi j hj => hgv _ (x_g5 i hi j hj))
    (fun i j hi hj hij => (x_g6 i hi j hj hij).elim (fun h => Or.inl (hgv _ h)) (fun h => Or.inr (hgv _ h))) hA
  refine ⟨(s.heap.size, (dC, dI), cA, adK, adV, b, L, xs), rfl, rfl, rfl, rfl, ⟨fun c q hq => hk c q hq, fun k q hq => ?_⟩, fun q hq => va_Nw.of rfl (hts _ (x_t1 q hq)), ⟨hS, fun i q hq => ?_, ?_, ?_⟩, hX, hbl, Nat.le_refl _, hL⟩
  · have hz : k < 1 := (List.getElem?_eq_some_iff.mp hq).1
    rw [show k = 0 by omega] at hq
    cases hq
    exact ⟨fun n z => ⟨fun k h => (by cases h), kA, hkA, comp, hkind⟩, hfind⟩
  · have hi : i < 11 := (List.getElem?_eq_some_iff.mp hq).1
    have e : x_strs.getD i ("", 0, "") = q := by rw [List.getD_eq_getElem?_getD, hq]; rfl
    have h1 := hR i hi
    rw [x_tm, e] at h1
    exact vk_R.of (hts _ (x_t2 q (List.mem_of_getElem? hq))) h1
  · exact va_Zof (hts _ x_t3.1) (hts _ x_t3.2.1) (va_eqi (hgv _ x_g7.1)) hA
  · exact va_Zqof (hts _ x_t3.2.2.1) (hts _ x_t3.2.2.2.1) (hgv _ x_g7.2) hA
