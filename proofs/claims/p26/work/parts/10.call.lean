/-! ===== a call by its summary ===== -/
theorem x_callG {M : xM} {Ex : xEx} {sums : List (Nat × xSm)} {aux lvx : List Nat} {pc i cs ss : Nat} {lv : List (Option Value)} {st : List Value} {w : xW} {k : xC → Prop} {ins : Instr}
    (hsum : ∀ q ∈ sums, x_VS q) (hok : x_okC M i aux = true) (hd : decode M.2.1 pc = .ok (ins, 3)) (hins : (ins = .invokevirtual i ∧ x_kd aux [0] = true) ∨ (ins = .invokestatic i ∧ x_kd aux [1, 4] = true) ∨ (ins = .invokespecial i ∧ x_kd aux [2, 5] = true))
    (h : x_call M.2.2.2.2 sums aux st w cs ss (fun st w mc ms => k (pc + 3, lv, st, w, cs + mc, ss + ms))) (hk : ∀ c, k c → x_G M Ex c) : x_G M Ex (pc, lv, st, w, cs, ss) := by
  unfold x_call at h
  split at h
  rotate_left
  · exact h.elim
  next mi na kd ci mc ms more =>
  split at h
  rotate_left
  · exact h.elim
  next f hf =>
  split at h
  rotate_left
  · exact h.elim
  next hb =>
  split at h
  rotate_left
  · exact h.elim
  next r hr =>
  obtain ⟨hP, hkk⟩ := h
  have hV := hsum _ (x_sum_in hf) _ _ _ hr hP
  have hG := hk _ hkk
  simp only [Bool.and_eq_true, Bool.or_eq_true] at hb
  obtain ⟨⟨hcat, hlen, hrcv⟩, hroom1, hroom2⟩ := hb
  have hcat := Nat.le_of_ble_eq_true hcat
  have hlen : (st.take na).length = na := Nat.eq_of_beq_eq_true hlen
  have hf9 : cs + mc ≤ M.2.2.2.2.cells ∧ ss + ms ≤ M.2.2.2.2.slots := ⟨Nat.le_of_ble_eq_true hroom1, Nat.le_of_ble_eq_true hroom2⟩
  unfold x_okC at hok
  split at hok
  rotate_left
  · cases hok
  next mi' na' kd' ci' mc' ms' wl wi ws wn wc more' he =>
  cases he
  simp only [Bool.and_eq_true, decide_eq_true_eq] at hok
  obtain ⟨⟨⟨⟨hwc, hwn⟩, hy⟩, hrc, hrs, hfr, hlo⟩, hkind⟩ := hok
  intro g p l e s m args below meth co H locs ls Qf X E hH hS hL
  have hX := X
  obtain ⟨hx, hb, -, -, hml, hown, hts, -, hK⟩ := X
  have hgood : GoodIn (x_ws M) (x_ws (x_m mi)) := x_good (x_tb_of hwc)
  have hini := hts _ (x_wd_in (M := M) hwn)
  have hM := hV g l
  have hpre : ∀ U : State, U.heap = H → s.WarmedH U.vm → x_K g U ∧ x_H g w U.heap := fun U hU hW => ⟨hK.to hW hU hS, by rw [hU]; exact hH⟩
  have hst : st.map (x_v g) = (((st.take na).reverse).map (x_v g)).reverse ++ (st.drop na).map (x_v g) := by
    rw [← List.map_reverse, List.reverse_reverse, ← List.map_append, List.take_append_drop]
  have hcat2 : (((st.drop na).map (x_v g)).map fun v => v.category).sum ≤ 8 := by rw [x_cats]; exact hcat
  have fin : ∀ (a : Array Value), va_Run p l e M.2.2.2.2 s m args below meth co H locs cs ss mc ms (F0 m pc ls (st.map (x_v g))) ((st.drop na).map (x_v g)) (x_Q g (fun a b => a = r.1 ∧ b = r.2.1) a) (x_A g) → W p l e M.2.2.2.2 s m args below meth co H locs cs ss Qf (F0 m pc ls (st.map (x_v g))) := by
    intro a hrun
    refine x_run hrun hS (fun r1 w1 H1 locs1 hq hH1 hS1 => ?_)
    obtain ⟨rfl, rfl⟩ := hq
    have h9 := hG g p l e s m args below meth co H1 locs1 ls Qf hX E hH1 hS1 hL
    have e9 : ((r.1.toList ++ st.drop na).map (x_v g)) = (r.1.map (x_v g)).toList ++ (st.drop na).map (x_v g) := by
      rw [List.map_append]
      cases r.1 <;> rfl
    rw [e9] at h9
    exact h9
  subst hrc
  subst hrs
  split at hkind
  -- a virtual call
  · simp only [Bool.and_eq_true, decide_eq_true_eq] at hkind
    obtain ⟨⟨⟨⟨hwl, hwi⟩, hws⟩, hpar, hna⟩, hcls⟩ := hkind
    have hins : ins = .invokevirtual i := by
      rcases hins with h | h | h
      · exact h.1
      · exact absurd h.2 Bool.false_ne_true
      · exact absurd h.2 Bool.false_ne_true
    subst hins
    have hrcv : x_rcv w (st.take na).reverse ci = true := by
      rcases hrcv with (h | h) | h
      · cases h
      · cases h
      · exact h
    obtain ⟨a, tl, hargs⟩ : ∃ a tl, (st.take na).reverse = .ref a :: tl := by
      unfold x_rcv at hrcv
      split at hrcv
      · exact ⟨_, _, by assumption⟩
      · cases hrcv
    rw [hargs] at hM hst hrcv
    have hrec : ∃ cellB : Cell, H[x_ad g a]? = some cellB ∧ cellB.vm.isStatics = false ∧ s.vm.findClass (x_m mi).1.cls = some cellB.cls := by
      unfold x_rcv x_rc at hrcv
      dsimp only at hrcv
      split at hrcv
      · next h99 =>
        rw [h99] at hcls
        simp only [Bool.and_eq_true] at hrcv
        have h1 := Nat.le_of_ble_eq_true hrcv.1
        have h2 := Nat.le_of_ble_eq_true hrcv.2
        obtain ⟨j, rfl⟩ := Nat.le.dest h1
        rw [x_ad_s, of_decide_eq_true hcls]
        exact vk_recv hK.2.2.1.1 (by omega) hS
      · next h99 =>
        rw [h99] at hcls
        dsimp only at hcls
        split at hrcv
        · next o ho =>
          have hci : o.1 = ci := Nat.eq_of_beq_eq_true hrcv
          split at hcls
          · next q hq =>
            rw [← of_decide_eq_true hcls, x_ad_lt (Nat.lt_trans (x_lt ho) hH.2.1)]
            refine va_recv (ci := ci) (q0 := a) hK.1 hH.2.2.1 hq (fs := o.2.mapIdx (fun j f => x_v g (x_fv (w.2 a j) f))) ?_
            rw [x_cs_at ho, ← hci]
            rfl
          · cases hcls
        · cases hrcv
    have hlen2 : tl.length = na - 1 := by
      have := congrArg List.length hargs
      rw [List.length_reverse, hlen] at this
      simp at this
      omega
    refine fin _ (va_runV (As := tl.map (x_v g)) (b := x_ad g a) (C := (x_m mi).1.cls) (n := na - 1) ⟨hx, hb, hml, hown, hts⟩ hM ⟨callB_of (na - 1) hts hgood rfl rfl rfl hini (hts _ (x_wd_in (M := M) hwl)) ⟨hy.1, hy.2, hpar⟩ ⟨hfr, hlo⟩, hts _ (x_wd_in (M := M) hwi), hts _ (x_wd_in (M := M) hws)⟩
      ⟨x_blind, hrec, fun U hU hW => ⟨rfl, hpre U hU hW⟩⟩ rfl (by rw [List.length_map]; exact hlen2) hL.2.1 ?_ (lv_room hcat2) hd hf9)
    rw [hst]
    simp [x_v]
  -- a static one
  · simp only [Bool.and_eq_true, decide_eq_true_eq] at hkind
    obtain ⟨⟨hwl, hwi⟩, hpar⟩ := hkind
    have hins : ins = .invokestatic i := by
      rcases hins with h | h | h
      · exact absurd h.2 Bool.false_ne_true
      · exact h.1
      · exact absurd h.2 Bool.false_ne_true
    subst hins
    exact fin _ (va_runS (As := ((st.take na).reverse).map (x_v g)) (n := na) ⟨hx, hb, hml, hown, hts⟩ hM ⟨callB_of na hts hgood rfl rfl rfl hini (hts _ (x_wd_in (M := M) hwl)) ⟨hy.1, hy.2, hpar⟩ ⟨hfr, hlo⟩, hts _ (x_wd_in (M := M) hwi)⟩
      ⟨x_blind, fun U hU hW => ⟨rfl, hpre U hU hW⟩⟩ rfl (by rw [List.length_map, List.length_reverse]; exact hlen) hL.2.1 hst (lv_room hcat2) hd hf9)
  -- a constructor
  · simp only [Bool.and_eq_true, decide_eq_true_eq] at hkind
    obtain ⟨⟨hwl, hwi⟩, hpar, hna, hname, hret⟩ := hkind
    have hins : ins = .invokespecial i := by
      rcases hins with h | h | h
      · exact absurd h.2 Bool.false_ne_true
      · exact absurd h.2 Bool.false_ne_true
      · exact h.1
    subst hins
    have hrcv : x_rcv w (st.take na).reverse ci = true := by
      rcases hrcv with (h | h) | h
      · cases h
      · cases h
      · exact h
    obtain ⟨a, tl, hargs⟩ : ∃ a tl, (st.take na).reverse = .ref a :: tl := by
      unfold x_rcv at hrcv
      split at hrcv
      · exact ⟨_, _, by assumption⟩
      · cases hrcv
    rw [hargs] at hM hst
    have hlen2 : tl.length = na - 1 := by
      have := congrArg List.length hargs
      rw [List.length_reverse, hlen] at this
      simp at this
      omega
    have hcb := callB_of (own := M.1.cls) (index := i) (y := (x_m mi).1) (bytes := (x_m mi).2.1) (maxL := (x_m mi).2.2.1) (ret := (x_m mi).2.2.2.1) (R := M.2.2.2.2) (rm := (x_m mi).2.2.2.2) (na - 1) hts hgood rfl rfl rfl hini (hts _ (x_wd_in (M := M) hwl)) ⟨hy.1, hy.2, hpar⟩ ⟨hfr, hlo⟩
    rw [hret] at hcb
    refine fin _ (va_runI (As := tl.map (x_v g)) (b := x_ad g a) (n := na - 1) ⟨hx, hb, hml, hown, hts⟩ hM ⟨hcb, hname, hts _ (x_wd_in (M := M) hwi)⟩
      ⟨x_blind, fun U hU hW => ⟨rfl, hpre U hU hW⟩⟩ rfl (by rw [List.length_map]; exact hlen2) hL.2.1 ?_ (lv_room hcat2) hd hf9)
    rw [hst]
    simp [x_v]
  -- a private static one of another class
  · simp only [Bool.and_eq_true, decide_eq_true_eq] at hkind
    obtain ⟨⟨hwl, hwi⟩, hpar⟩ := hkind
    have hins : ins = .invokestatic i := by
      rcases hins with h | h | h
      · exact absurd h.2 Bool.false_ne_true
      · exact h.1
      · exact absurd h.2 Bool.false_ne_true
    subst hins
    have hn := hK.2.1 _ (List.mem_of_getElem? hwl)
    exact fin _ (va_runSN (As := ((st.take na).reverse).map (x_v g)) (n := na) ⟨hx, hb, hml, hown, hts⟩ hM ⟨va_cnB na hts hgood rfl rfl rfl hn hini ⟨hy.1, hy.2, hpar⟩ ⟨hfr, hlo⟩, hts _ (x_wd_in (M := M) hwi), trivial⟩
      ⟨x_blind, fun U hU hW => ⟨rfl, hpre U hU hW⟩⟩ rfl (by rw [List.length_map, List.length_reverse]; exact hlen) hL.2.1 hst (lv_room hcat2) hd hf9)
  -- a private constructor
  · simp only [Bool.and_eq_true, decide_eq_true_eq] at hkind
    obtain ⟨⟨hwl, hwi⟩, hpar, hna, hname, hret⟩ := hkind
    have hins : ins = .invokespecial i := by
      rcases hins with h | h | h
      · exact absurd h.2 Bool.false_ne_true
      · exact absurd h.2 Bool.false_ne_true
      · exact h.1
    subst hins
    have hn := hK.2.1 _ (List.mem_of_getElem? hwl)
    have hrcv : x_rcv w (st.take na).reverse ci = true := by
      rcases hrcv with (h | h) | h
      · cases h
      · cases h
      · exact h
    obtain ⟨a, tl, hargs⟩ : ∃ a tl, (st.take na).reverse = .ref a :: tl := by
      unfold x_rcv at hrcv
      split at hrcv
      · exact ⟨_, _, by assumption⟩
      · cases hrcv
    rw [hargs] at hM hst
    have hlen2 : tl.length = na - 1 := by
      have := congrArg List.length hargs
      rw [List.length_reverse, hlen] at this
      simp at this
      omega
    have hcb := va_cnB (own := M.1.cls) (index := i) (y := (x_m mi).1) (bytes := (x_m mi).2.1) (maxL := (x_m mi).2.2.1) (ret := (x_m mi).2.2.2.1) (R := M.2.2.2.2) (rm := (x_m mi).2.2.2.2) (na - 1) hts hgood rfl rfl rfl hn hini ⟨hy.1, hy.2, hpar⟩ ⟨hfr, hlo⟩
    rw [hret] at hcb
    refine fin _ (va_runIN (As := tl.map (x_v g)) (b := x_ad g a) (n := na - 1) ⟨hx, hb, hml, hown, hts⟩ hM ⟨hcb, hname, hts _ (x_wd_in (M := M) hwi)⟩
      ⟨x_blind, fun U hU hW => ⟨rfl, hpre U hU hW⟩⟩ rfl (by rw [List.length_map]; exact hlen2) hL.2.1 ?_ (lv_room hcat2) hd hf9)
    rw [hst]
    simp [x_v]
  · cases hkind
