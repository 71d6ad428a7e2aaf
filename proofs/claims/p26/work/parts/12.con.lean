/-! ===== a contract out of a walk ===== -/
theorem x_lv_entry {g : xG} {args : List Value} {n : Nat} (hl : args.length ≤ n) (hc : ∀ v ∈ args, v.category = 1) : x_lv g ((lg_sl (args.map (x_v g)) ++ List.replicate (n - (lg_sl (args.map (x_v g))).length) Slot.unset).toArray) n (x_lv0 args n) := by
  have hsl : ∀ vs : List Value, (∀ v ∈ vs, v.category = 1) → lg_sl (vs.map (x_v g)) = vs.map (fun v => Slot.val (x_v g v)) := by
    intro vs
    induction vs with
    | nil => intro _; rfl
    | cons v vs ih =>
      intro h
      have h1 := ih (fun u hu => h u (List.mem_cons_of_mem _ hu))
      have h2 : (x_v g v).category = 1 := by rw [x_cat]; exact h v List.mem_cons_self
      simp only [List.map_cons]
      rw [← h1]
      simp [lg_sl, h2]
  have e := hsl args hc
  have h0 := lv_entry (args.map (x_v g)) (n := n) (by rw [e, List.length_map]; exact hl)
  refine ⟨by simp [x_lv0]; omega, h0.1, h0.2.1, fun i v hi => ?_⟩
  have hi2 : i < args.length := by
    rcases Nat.lt_or_ge i args.length with q | q
    · exact q
    · unfold x_lv0 at hi
      rw [List.getElem?_append_right (by simpa using q)] at hi
      rw [List.getElem?_replicate] at hi
      split at hi <;> cases hi
  unfold x_lv0 at hi
  rw [List.getElem?_append_left (by simpa using hi2)] at hi
  have hv : args[i]? = some v := by
    rw [List.getElem?_map] at hi
    cases ha : args[i]? with
    | none => rw [ha] at hi; cases hi
    | some u => rw [ha] at hi; cases hi; rfl
  refine ⟨hc v (List.mem_of_getElem? hv), ?_⟩
  obtain ⟨_, hv2⟩ := List.getElem?_eq_some_iff.mp hv
  rw [e]
  simp [List.getElem?_append_left, hi2, hv2]
theorem x_con {M : xM} {args : List Value} {w : xW} {Q : Option Value → xW → Prop} (hy : plainName M.1.cls = true) (hl : args.length ≤ M.2.2.1) (hc : ∀ v ∈ args, v.category = 1) (h : x_G M (x_ExC M Q) (0, x_lv0 args M.2.2.1, [], w, 0, 0)) : x_Con M args w Q := by
  intro g l
  refine Met.ofW (cc := M.2.1) (maxL := M.2.2.1) (ret := M.2.2.2.1) hy rfl ?_
  intro p e s m a below meth c s₁ B hml hv
  obtain ⟨rfl, hK, hH⟩ := hv
  have X : x_X M g p s m (args.map (x_v g)).toArray meth c := ⟨B.exec, B.bytes, B.returns, B.notSynchronized, hml, findClass_of_methodNamed B.named, atoms_spec (ws := x_ws M) B.pre, (name_of_methodNamed B.named B.method).1, hK⟩
  rw [lg_entry_eq]
  refine h g p l e s m _ below meth c s.heap [] _ _ X ?_ hH va_S.rf (x_lv_entry hl hc)
  intro pc H locs ls v w' cs ss hrt hEx hH' hS'
  obtain ⟨hcs, hss, hQ⟩ := hEx
  refine W.widen (k := M.2.2.2.2.cells) (n := M.2.2.2.2.slots) hcs hss ?_
  have hlocks := B.notSynchronized
  rcases hrt with ⟨rfl, hd, hr⟩ | ⟨x, rfl, hd, hr⟩ | ⟨b, rfl, hd, n, hr⟩
  · exact W.vret B.exec B.bytes (B.returns.trans hr) (fun t ht hW => ⟨⟨none, w', rfl, hQ, by rw [ht]; exact hH'⟩, hS'.F ht⟩) hS'.2.2 hd
  · rcases hr with hr | ⟨hr, hx⟩
    · exact W.iret (v := x) B.exec B.bytes (B.returns.trans hr) (fun t ht hW => ⟨⟨some (.int x), w', rfl, hQ, by rw [ht]; exact hH'⟩, hS'.F ht⟩) hS'.2.2 hd
    · refine W.zret (v := x) (ty := .boolean) B.exec B.bytes (B.returns.trans hr) ?_ (fun t ht hW => ⟨⟨some (.int x), w', rfl, hQ, by rw [ht]; exact hH'⟩, hS'.F ht⟩) hS'.2.2 hd
      rcases hx with rfl | rfl <;> decide +kernel
  · exact W.aret (v := x_v g (.ref b)) (rt := .object n) B.exec B.bytes (B.returns.trans hr) (Or.inl ⟨n, rfl⟩) (Or.inr ⟨_, rfl⟩) (fun t ht hW => ⟨⟨some (.ref b), w', rfl, hQ, by rw [ht]; exact hH'⟩, hS'.F ht⟩) hS'.2.2 hd
