/-! ===== a step is sound ===== -/
theorem x_rd_of {w : xW} {a ci j : Nat} {v : Value} (h : x_rd w a ci j = some v) : ∃ (fs : List (Option (Option Nat))) (f : Option (Option Nat)), w.1[a]? = some (.inr (ci, fs)) ∧ fs[j]? = some f ∧ v = x_fv (w.2 a j) f := by
  unfold x_rd at h
  split at h
  · next o ho =>
    split at h
    · next hb =>
      have e : o.1 = ci := Nat.eq_of_beq_eq_true hb
      split at h
      · next f hf =>
        cases h
        refine ⟨o.2, f, ?_, hf, rfl⟩
        rw [ho, ← e]
      · cases h
    · cases h
  · cases h
theorem x_al_of {w : xW} {a n : Nat} (h : x_al w a = some n) : w.1[a]? = some (.inl n) := by
  unfold x_al at h
  split at h
  · next n' hn =>
    cases h
    exact hn
  · cases h
set_option maxHeartbeats 4000000 in
theorem x_st_sound {M : xM} {Ex : xEx} {sums : List (Nat × xSm)} {t : xT} {c : xC} {k : xC → Prop} (hsum : ∀ q ∈ sums, x_VS q) (hok : x_okT M t = true) (hpc : t.1 = c.1) (h : x_st M.2.2.2.2 sums Ex t c k) (hk : ∀ c, k c → x_G M Ex c) : x_G M Ex c := by
  obtain ⟨pc0, ins, len, aux, cst⟩ := t
  obtain ⟨pc, lv, st, w, cs, ss⟩ := c
  have hpc : pc0 = pc := hpc
  subst hpc
  simp only [x_okT, Bool.and_eq_true, decide_eq_true_eq] at hok
  obtain ⟨hd, hok⟩ := hok
  cases ins
  case iconst n =>
    simp only [x_okI, decide_eq_true_eq] at hok
    obtain ⟨hv, rfl⟩ := hok
    exact x_G_of (fun g p l e s m args below meth co H locs ls Qf X hH hS hL k => lv_iconst X.1 X.2.1 hd hv k) (hk _ h)
  case bipush n =>
    simp only [x_okI, decide_eq_true_eq] at hok
    obtain ⟨hv, rfl⟩ := hok
    exact x_G_of (fun g p l e s m args below meth co H locs ls Qf X hH hS hL k => lv_bipush X.1 X.2.1 hd hv k) (hk _ h)
  case sipush n =>
    simp only [x_okI, decide_eq_true_eq] at hok
    obtain ⟨hv, rfl⟩ := hok
    exact x_G_of (fun g p l e s m args below meth co H locs ls Qf X hH hS hL k => lv_sipush X.1 X.2.1 hd hv k) (hk _ h)
  case ldc_w i =>
    simp only [x_okI] at hok
    split at hok
    · next j _ =>
      simp only [Bool.and_eq_true, decide_eq_true_eq] at hok
      obtain ⟨hw, rfl⟩ := hok
      exact x_G_of (fun g p l e s m args below meth co H locs ls Qf X hH hS hL k => lv_ldcw X.1 X.2.1 X.2.2.2.2.2.1 (X.2.2.2.2.2.2.1 _ (x_wd_in (M := M) hw)) hd k) (hk _ h)
    · cases hok
  case iload_n i =>
    simp only [x_okI, decide_eq_true_eq] at hok
    subst hok
    simp only [x_st] at h
    split at h
    · next x hx =>
      exact x_G_of (fun g p l e s m args below meth co H locs ls Qf X hH hS hL k => lv_iload_n X.1 X.2.1 hd rfl (hL.2.2.2 _ _ hx).2 k) (hk _ h)
    · exact h.elim
  case iload i =>
    simp only [x_okI, decide_eq_true_eq] at hok
    subst hok
    simp only [x_st] at h
    split at h
    · next x hx =>
      exact x_G_of (fun g p l e s m args below meth co H locs ls Qf X hH hS hL k => lv_iload X.1 X.2.1 hd (hL.2.2.2 _ _ hx).2 k) (hk _ h)
    · exact h.elim
  case aload_n i =>
    simp only [x_okI, decide_eq_true_eq] at hok
    subst hok
    simp only [x_st] at h
    split at h
    · next x hx =>
      exact x_G_of (fun g p l e s m args below meth co H locs ls Qf X hH hS hL k => lv_aload_n X.1 X.2.1 hd rfl (hL.2.2.2 _ _ hx).2 k) (hk _ h)
    · exact h.elim
  case istore_n i =>
    simp only [x_okI, decide_eq_true_eq] at hok
    obtain ⟨rfl, hi⟩ := hok
    simp only [x_st] at h
    split at h
    · next x st' =>
      exact x_G_lv (fun g p l e s m args below meth co H locs ls Qf X hL k => lv_istore_n X.1 X.2.1 hd rfl (x_lv_has hL) hi rfl (fun ls' h' => k ls' (x_lv_back hL rfl h'))) (hk _ h)
    · exact h.elim
  case istore i =>
    simp only [x_okI, decide_eq_true_eq] at hok
    obtain ⟨rfl, hi⟩ := hok
    simp only [x_st] at h
    split at h
    · next x st' =>
      exact x_G_lv (fun g p l e s m args below meth co H locs ls Qf X hL k => lv_istore X.1 X.2.1 hd (x_lv_has hL) hi rfl (fun ls' h' => k ls' (x_lv_back hL rfl h'))) (hk _ h)
    · exact h.elim
  case astore_n i =>
    simp only [x_okI, decide_eq_true_eq] at hok
    obtain ⟨rfl, hi⟩ := hok
    simp only [x_st] at h
    split at h
    · next x st' =>
      exact x_G_lv (fun g p l e s m args below meth co H locs ls Qf X hL k => lv_astore_n X.1 X.2.1 hd rfl (x_lv_has hL) hi rfl (fun ls' h' => k ls' (x_lv_back (v := .ref x) hL rfl h'))) (hk _ h)
    · exact h.elim
  case iinc i n =>
    simp only [x_okI, decide_eq_true_eq] at hok
    obtain ⟨hv, rfl⟩ := hok
    simp only [x_st] at h
    split at h
    · next x hx =>
      refine x_G_lv (fun g p l e s m args below meth co H locs ls Qf X hL k => ?_) (hk _ h)
      have hm : ((i, Value.int x) : Nat × Value) ∈ x_ll g lv := x_ll_mem.mpr ⟨.int x, hx, rfl⟩
      obtain ⟨j, hj⟩ := List.mem_iff_getElem?.mp hm
      have hi : i < M.2.2.1 := by rw [← hL.1]; exact (List.getElem?_eq_some_iff.mp hx).1
      exact lv_iinc X.1 X.2.1 hd (x_lv_has hL) hj (by rw [hv]) hi rfl (fun ls' h' => k ls' (x_lv_back (v := .int (x + cst)) hL rfl h'))
    · exact h.elim
  case iadd =>
    simp only [x_okI, decide_eq_true_eq] at hok
    subst hok
    simp only [x_st] at h
    split at h
    · exact x_G_of (fun g p l e s m args below meth co H locs ls Qf X hH hS hL k => lv_iadd X.1 X.2.1 hd k) (hk _ h)
    · exact h.elim
  case isub =>
    simp only [x_okI, decide_eq_true_eq] at hok
    subst hok
    simp only [x_st] at h
    split at h
    · exact x_G_of (fun g p l e s m args below meth co H locs ls Qf X hH hS hL k => lv_isub X.1 X.2.1 hd k) (hk _ h)
    · exact h.elim
  case imul =>
    simp only [x_okI, decide_eq_true_eq] at hok
    subst hok
    simp only [x_st] at h
    split at h
    · exact x_G_of (fun g p l e s m args below meth co H locs ls Qf X hH hS hL k => lv_imul X.1 X.2.1 hd k) (hk _ h)
    · exact h.elim
  case iand =>
    simp only [x_okI, decide_eq_true_eq] at hok
    subst hok
    simp only [x_st] at h
    split at h
    · exact x_G_of (fun g p l e s m args below meth co H locs ls Qf X hH hS hL k => lv_iand X.1 X.2.1 hd k) (hk _ h)
    · exact h.elim
  case ior =>
    simp only [x_okI, decide_eq_true_eq] at hok
    subst hok
    simp only [x_st] at h
    split at h
    · exact x_G_of (fun g p l e s m args below meth co H locs ls Qf X hH hS hL k => lv_ior X.1 X.2.1 hd k) (hk _ h)
    · exact h.elim
  case ixor =>
    simp only [x_okI, decide_eq_true_eq] at hok
    subst hok
    simp only [x_st] at h
    split at h
    · exact x_G_of (fun g p l e s m args below meth co H locs ls Qf X hH hS hL k => lv_ixor X.1 X.2.1 hd k) (hk _ h)
    · exact h.elim
  case ishl =>
    simp only [x_okI, decide_eq_true_eq] at hok
    subst hok
    simp only [x_st] at h
    split at h
    · exact x_G_of (fun g p l e s m args below meth co H locs ls Qf X hH hS hL k => lv_ishl X.1 X.2.1 hd k) (hk _ h)
    · exact h.elim
  case ishr =>
    simp only [x_okI, decide_eq_true_eq] at hok
    subst hok
    simp only [x_st] at h
    split at h
    · exact x_G_of (fun g p l e s m args below meth co H locs ls Qf X hH hS hL k => lv_ishr X.1 X.2.1 hd k) (hk _ h)
    · exact h.elim
  case iushr =>
    simp only [x_okI, decide_eq_true_eq] at hok
    subst hok
    simp only [x_st] at h
    split at h
    · exact x_G_of (fun g p l e s m args below meth co H locs ls Qf X hH hS hL k => lv_iushr X.1 X.2.1 hd rfl k) (hk _ h)
    · exact h.elim
  case dup =>
    simp only [x_okI, decide_eq_true_eq] at hok
    subst hok
    simp only [x_st] at h
    split at h
    · exact x_G_of (fun g p l e s m args below meth co H locs ls Qf X hH hS hL k => lv_dup X.1 X.2.1 hd rfl k) (hk _ h)
    · exact x_G_of (fun g p l e s m args below meth co H locs ls Qf X hH hS hL k => lv_dup X.1 X.2.1 hd rfl k) (hk _ h)
    · exact h.elim
  case pop =>
    simp only [x_okI, decide_eq_true_eq] at hok
    subst hok
    simp only [x_st] at h
    split at h
    · next x st' => exact x_G_of (fun g p l e s m args below meth co H locs ls Qf X hH hS hL k => lv_pop (va := .int x) X.1 X.2.1 hd rfl k) (hk _ h)
    · next x st' => exact x_G_of (fun g p l e s m args below meth co H locs ls Qf X hH hS hL k => lv_pop (va := x_v g (.ref x)) X.1 X.2.1 hd rfl k) (hk _ h)
    · exact h.elim
  case goto off =>
    simp only [x_okI, decide_eq_true_eq] at hok
    obtain ⟨ht, rfl⟩ := hok
    exact x_G_of (fun g p l e s m args below meth co H locs ls Qf X hH hS hL k => lv_goto X.1 X.2.1 hd ht k) (hk _ h)
  case ifCond cc off =>
    simp only [x_okI, decide_eq_true_eq] at hok
    obtain ⟨ht, rfl⟩ := hok
    simp only [x_st] at h
    split at h
    · next x st' =>
      cases cc
      · exact x_G_of2 (fun g p l e s m args below meth co H locs ls Qf X k1 k2 => lv_if_eq X.1 X.2.1 hd ht k1 k2) (fun z => hk _ (h.1 z)) (fun z => hk _ (h.2 z))
      · exact x_G_of2 (fun g p l e s m args below meth co H locs ls Qf X k1 k2 => lv_if_ne X.1 X.2.1 hd ht k1 k2) (fun z => hk _ (h.1 z)) (fun z => hk _ (h.2 z))
      · exact x_G_of2 (fun g p l e s m args below meth co H locs ls Qf X k1 k2 => lv_if_lt X.1 X.2.1 hd ht k1 k2) (fun z => hk _ (h.1 z)) (fun z => hk _ (h.2 z))
      · exact x_G_of2 (fun g p l e s m args below meth co H locs ls Qf X k1 k2 => lv_if_ge X.1 X.2.1 hd ht k1 k2) (fun z => hk _ (h.1 z)) (fun z => hk _ (h.2 z))
      · exact x_G_of2 (fun g p l e s m args below meth co H locs ls Qf X k1 k2 => lv_if_gt X.1 X.2.1 hd ht k1 k2) (fun z => hk _ (h.1 z)) (fun z => hk _ (h.2 z))
      · exact x_G_of2 (fun g p l e s m args below meth co H locs ls Qf X k1 k2 => lv_if_le X.1 X.2.1 hd ht k1 k2) (fun z => hk _ (h.1 z)) (fun z => hk _ (h.2 z))
    · exact h.elim
  case if_icmp cc off =>
    simp only [x_okI, decide_eq_true_eq] at hok
    obtain ⟨ht, rfl⟩ := hok
    simp only [x_st] at h
    split at h
    · next y x st' =>
      cases cc
      · exact x_G_of2 (fun g p l e s m args below meth co H locs ls Qf X k1 k2 => lv_icmp_eq X.1 X.2.1 hd ht k1 k2) (fun z => hk _ (h.1 z)) (fun z => hk _ (h.2 z))
      · exact x_G_of2 (fun g p l e s m args below meth co H locs ls Qf X k1 k2 => lv_icmp_ne X.1 X.2.1 hd ht k1 k2) (fun z => hk _ (h.1 z)) (fun z => hk _ (h.2 z))
      · exact x_G_of2 (fun g p l e s m args below meth co H locs ls Qf X k1 k2 => lv_icmp_lt X.1 X.2.1 hd ht k1 k2) (fun z => hk _ (h.1 z)) (fun z => hk _ (h.2 z))
      · exact x_G_of2 (fun g p l e s m args below meth co H locs ls Qf X k1 k2 => lv_icmp_ge X.1 X.2.1 hd ht k1 k2) (fun z => hk _ (h.1 z)) (fun z => hk _ (h.2 z))
      · exact x_G_of2 (fun g p l e s m args below meth co H locs ls Qf X k1 k2 => lv_icmp_gt X.1 X.2.1 hd ht k1 k2) (fun z => hk _ (h.1 z)) (fun z => hk _ (h.2 z))
      · exact x_G_of2 (fun g p l e s m args below meth co H locs ls Qf X k1 k2 => lv_icmp_le X.1 X.2.1 hd ht k1 k2) (fun z => hk _ (h.1 z)) (fun z => hk _ (h.2 z))
    · exact h.elim
  case getfield i =>
    simp only [x_okI] at hok
    simp only [x_st] at h
    split at h
    · next a st' ci j more =>
      split at h
      · next v hv =>
        obtain ⟨fs, f, h1, h2, rfl⟩ := x_rd_of hv
        split at hok
        · next ci' j' wi more' he =>
          cases he
          split at hok
          · next q hq =>
            simp only [Bool.and_eq_true, decide_eq_true_eq] at hok
            obtain ⟨⟨hj, rfl⟩, hw⟩ := hok
            refine x_G_of (fun g p l e s m args below meth co H locs ls Qf X hH hS hL k => ?_) (hk _ h)
            obtain ⟨C, T, N⟩ := q
            show W p l e _ s m args below meth co H locs cs ss Qf (F0 m pc0 ls (.ref (x_ad g a) :: st'.map (x_v g)))
            rw [x_ad_lt (Nat.lt_trans (x_lt h1) hH.2.1)]
            exact va_get (C := C) (T := T) (N := N) (ci := ci) X.1 X.2.1 X.2.2.2.2.2.2.1 (fun w hw => List.mem_cons_of_mem _ ((x_cls ci _ hq).1 w hw)) X.2.2.2.2.2.1 X.2.2.2.2.2.2.2.2.1 hH.2.2.1 a (x_cs_at h1) hq j hj (X.2.2.2.2.2.2.1 _ (x_wd_in (M := M) hw)) (fun _ h9 => h9) (by simp [List.getElem?_mapIdx, h2]) hd k
          · cases hok
        · cases hok
      · exact h.elim
    · exact h.elim
  case putfield i =>
    simp only [x_okI] at hok
    split at hok
    · next ci j wi ty more =>
      split at hok
      · next q hq =>
        simp only [Bool.and_eq_true, decide_eq_true_eq] at hok
        obtain ⟨⟨⟨⟨hj, rfl⟩, hw⟩, hfin⟩, hty⟩ := hok
        simp only [x_st] at h
        split at h
        · next x a st' ci' j' wi' ty' more' he =>
          cases he
          split at h
          · next x0 hv =>
            obtain ⟨fs, f, h1, h2, h3⟩ := x_rd_of hv
            have hf : f = none := by
              rcases f with _ | _ | _
              · rfl
              · cases h3
              · cases h3
            subst hf
            have hlj : j < fs.length := (List.getElem?_eq_some_iff.mp h2).1
            have done : ∀ (ft : FieldType), parseFieldDescriptor (q.2.1 j).2.2.1 = some ft → narrow ft (.int x) = .int x → fits ft (.int x) = true → k (pc0 + 3, lv, st', (w.1, x_u w.2 a j x), cs, ss) → x_G M Ex (pc0, lv, .int x :: .ref a :: st', w, cs, ss) := by
              intro ft hft hn hfit h
              intro g p l e s m args below meth co H locs ls Qf X E hH hS hL
              refine x_put X hH hS h1 hq hj hw hfin hft hn hfit hlj hd (fun H1 locs1 hP1 hz hS1 => ?_)
              dsimp only at hP1
              rw [show x_v g (.int x) = .int x from rfl, x_set_f h1 h2] at hP1
              have hal : a < 1000 := Nat.lt_trans (x_lt h1) hH.2.1
              exact hk _ h g p l e s m args below meth co H1 locs1 ls Qf X E (hH.w hz hP1 (x_u_same (Nat.ne_of_gt hal)) (x_u_same (Nat.ne_of_gt (Nat.lt_succ_of_lt hal)))) hS1 hL
            split at h
            · exact done .int (of_decide_eq_true hty) rfl rfl h
            · refine done .boolean (of_decide_eq_true hty) ?_ ?_ h.2
              · rcases h.1 with rfl | rfl <;> decide +kernel
              · rcases h.1 with rfl | rfl <;> decide +kernel
            · exact h.elim
          · exact h.elim
        · next r a st' ci' j' wi' more' he =>
          cases he
          split at h
          · next o ho =>
            split at h
            · next y hb hy =>
              have e1 : o.1 = ci := Nat.eq_of_beq_eq_true hb
              have h1 : w.1[a]? = some (.inr (ci, o.2)) := by rw [ho, ← e1]
              have hlj : j < o.2.length := (List.getElem?_eq_some_iff.mp hy).1
              have done : ∀ (ft : FieldType), parseFieldDescriptor (q.2.1 j).2.2.1 = some ft → (∀ z, narrow ft (.ref z) = .ref z) → (∀ z, fits ft (.ref z) = true) → x_G M Ex (pc0, lv, .ref r :: .ref a :: st', w, cs, ss) := by
                intro ft hft hn hfit
                intro g p l e s m args below meth co H locs ls Qf X E hH hS hL
                refine x_put (v := x_v g (.ref r)) X hH hS h1 hq hj hw hfin hft (hn _) (hfit _) hlj hd (fun H1 locs1 hP1 hz hS1 => ?_)
                dsimp only at hP1
                rw [x_set_r h1 hy] at hP1
                rw [e1] at h
                refine hk _ h g p l e s m args below meth co H1 locs1 ls Qf X E ⟨?_, ?_, hP1, hH.2.2.2.1, hH.2.2.2.2⟩ hS1 hL
                · show H1.size = x_h g + (w.1.set a _).length
                  rw [List.length_set, hz]
                  exact hH.1
                · show (w.1.set a _).length < 1000
                  rw [List.length_set]
                  exact hH.2.1
              have hty : (match parseFieldDescriptor (q.2.1 j).2.2.1 with
                | some (.object _) => true
                | some (.array _) => true
                | _ => false) = true := hty
              split at hty
              · next n hn => exact done _ hn (fun _ => rfl) (fun _ => rfl)
              · next n hn => exact done _ hn (fun _ => rfl) (fun _ => rfl)
              · cases hty
            · exact h.elim
          · exact h.elim
        · exact h.elim
      · cases hok
    · cases hok
  case iaload =>
    simp only [x_okI, decide_eq_true_eq] at hok
    subst hok
    simp only [x_st] at h
    split at h
    · next i a st' =>
      split at h
      · next hb =>
        have ha : a = 1000 := Nat.eq_of_beq_eq_true hb
        subst ha
        refine x_G_of (fun g p l e s m args below meth co H locs ls Qf X hH hS hL k => ?_) (hk _ h.2)
        obtain ⟨hx, hb, -, -, -, -, -, -, -, -, -, hXs, hbh, hhs, hL5⟩ := X
        have hn : (w.2 1001 0).toNatClampNeg = x_L g := by
          rw [hH.2.2.2.2]
          exact nI_clamp (by omega)
        have hin : vp_in i (x_L g) := by rw [← hn]; exact h.1
        have hlt : i.toNatClampNeg < x_L g := Nat.not_le.mp fun q => hin (Or.inr q)
        show W p l e _ s m args below meth co H locs cs ss Qf (F0 m pc0 ls (.int i :: .ref (x_ad g 1000) :: st'.map (x_v g)))
        rw [x_ad_b]
        refine va_sld hx hb hXs (Nat.lt_of_lt_of_le hbh hhs) (Nat.not_le.mpr hbh) hS hin hd ?_
        rw [← hH.2.2.2.1 _ hlt]
        exact k
      · next hb =>
        split at h
        · next n hn =>
          have h1 := x_al_of hn
          refine x_G_of (fun g p l e s m args below meth co H locs ls Qf X hH hS hL k => ?_) (hk _ h.2)
          show W p l e _ s m args below meth co H locs cs ss Qf (F0 m pc0 ls (.int i :: .ref (x_ad g a) :: st'.map (x_v g)))
          rw [x_ad_lt (Nat.lt_trans (x_lt h1) hH.2.1)]
          exact va_iald X.1 X.2.1 X.2.2.2.2.2.2.2.2.1 hH.2.2.1 a 0 (x_cs_at h1) rfl h.1 hd k
        · exact h.elim
    · exact h.elim
  case iastore =>
    simp only [x_okI, decide_eq_true_eq] at hok
    subst hok
    simp only [x_st] at h
    split at h
    · next x i a st' =>
      split at h
      · next n hn =>
        have h1 := x_al_of hn
        intro g p l e s m args below meth co H locs ls Qf X E hH hS hL
        exact x_iast X hH hS h1 h.1 hd (fun H1 locs1 hH1 hS1 => hk _ h.2 g p l e s m args below meth co H1 locs1 ls Qf X E hH1 hS1 hL)
      · exact h.elim
    · exact h.elim
  case arraylength =>
    simp only [x_okI, decide_eq_true_eq] at hok
    subst hok
    simp only [x_st] at h
    split at h
    · next a st' =>
      split at h
      · next hb =>
        have ha : a = 1000 := Nat.eq_of_beq_eq_true hb
        subst ha
        refine x_G_of (fun g p l e s m args below meth co H locs ls Qf X hH hS hL k => ?_) (hk _ h)
        obtain ⟨hx, hb, -, -, -, -, -, -, -, -, -, hXs, hbh, hhs, hL5⟩ := X
        show W p l e _ s m args below meth co H locs cs ss Qf (F0 m pc0 ls (.ref (x_ad g 1000) :: st'.map (x_v g)))
        rw [x_ad_b]
        refine va_slen hx hb hXs (Nat.lt_of_lt_of_le hbh hhs) (Nat.not_le.mpr hbh) hS hd ?_
        rw [← hH.2.2.2.2]
        exact k
      · next hb =>
        split at h
        · next n hn =>
          have h1 := x_al_of hn
          refine x_G_of (fun g p l e s m args below meth co H locs ls Qf X hH hS hL k => ?_) (hk _ h)
          show W p l e _ s m args below meth co H locs cs ss Qf (F0 m pc0 ls (.ref (x_ad g a) :: st'.map (x_v g)))
          rw [x_ad_lt (Nat.lt_trans (x_lt h1) hH.2.1)]
          exact va_alen X.1 X.2.1 X.2.2.2.2.2.2.2.2.1 hH.2.2.1 a 0 (x_cs_at h1) (ty := .int) rfl rfl hd k
        · exact h.elim
    · exact h.elim
  case invokevirtual i =>
    simp only [x_okI, Bool.and_eq_true, decide_eq_true_eq] at hok
    obtain ⟨⟨rfl, hc⟩, hkd⟩ := hok
    exact x_callG (lvx := []) hsum hc hd (Or.inl ⟨rfl, hkd⟩) h hk
  case invokestatic i =>
    simp only [x_okI, Bool.and_eq_true, decide_eq_true_eq] at hok
    obtain ⟨⟨rfl, hc⟩, hkd⟩ := hok
    exact x_callG (lvx := []) hsum hc hd (Or.inr (Or.inl ⟨rfl, hkd⟩)) h hk
  case invokespecial i =>
    simp only [x_okI] at hok
    simp only [x_st] at h
    split at h
    · next more =>
      split at hok
      · next a b c more' he =>
        cases he
        simp only [Bool.and_eq_true, decide_eq_true_eq] at hok
        obtain ⟨⟨⟨⟨rfl, hf, hl⟩, ha⟩, hb⟩, hc⟩ := hok
        split at h
        · next r st' =>
          split at h
          · next hcat =>
            have hcat := Nat.le_of_ble_eq_true hcat
            refine x_G_of (fun g p l e s m args below meth co H locs ls Qf X hH hS hL k => ?_) (hk _ h)
            have h8 : 2 * (F0 m pc0 ls (st'.map (x_v g))).monitorRoom + ((st'.map (x_v g)).map fun v => v.category).sum ≤ 8 := lv_room (by rw [x_cats]; exact hcat)
            exact W.objInit X.1 X.2.1 X.2.2.2.2.2.1 (X.2.2.2.2.2.2.1 _ (x_wd_in (M := M) ha)) (X.2.2.2.2.2.2.1 _ (x_wd_in (M := M) hb)) (X.2.2.2.2.2.2.1 _ (x_wd_in (M := M) hc)) rfl (by rw [X.2.2.2.2.1]; exact hL.2.1) rfl hd hf (Nat.le_trans (Nat.add_le_add_right h8 12) hl) k
          · exact h.elim
        · exact h.elim
      · next hne =>
        simp only [Bool.and_eq_true, decide_eq_true_eq] at hok
        rcases more with _ | ⟨a, _ | ⟨b, _ | ⟨c, more⟩⟩⟩
        · exact absurd hok.1.2 Bool.false_ne_true
        · exact absurd hok.1.2 Bool.false_ne_true
        · exact absurd hok.1.2 Bool.false_ne_true
        · exact absurd rfl (hne a b c more)
    · next hne =>
      split at hok
      · next a b c more' => exact absurd rfl (hne _)
      · simp only [Bool.and_eq_true, decide_eq_true_eq] at hok
        obtain ⟨⟨rfl, hc⟩, hkd⟩ := hok
        exact x_callG (lvx := []) hsum hc hd (Or.inr (Or.inr ⟨rfl, hkd⟩)) h hk
  case new i =>
    simp only [x_okI] at hok
    simp only [x_st] at h
    split at hok
    · next ci N a b c more =>
      split at hok
      · next q hq =>
        simp only [Bool.and_eq_true, decide_eq_true_eq] at hok
        obtain ⟨⟨⟨⟨rfl, rfl⟩, ha⟩, hb⟩, hc⟩ := hok
        obtain ⟨⟨h1, h2, h3⟩, h4⟩ := h
        intro g p l e s m args below meth co H locs ls Qf X E hH hS hL
        exact x_newo X hH hS hq ha hb hc h1 h2 h3 hd (fun H1 hH1 hS1 => hk _ h4 g p l e s m args below meth co H1 locs ls Qf X E hH1 hS1 hL)
      · cases hok
    · cases hok
  case newarray ty =>
    simp only [x_okI] at hok
    simp only [x_st] at h
    split at hok
    · next a more =>
      simp only [Bool.and_eq_true, decide_eq_true_eq] at hok
      obtain ⟨⟨rfl, rfl⟩, ha⟩ := hok
      split at h
      · next n st' =>
        obtain ⟨⟨h0, h1, h2, h3, h4⟩, h5⟩ := h
        intro g p l e s m args below meth co H locs ls Qf X E hH hS hL
        exact x_newi X hH hS ha h0 h1 h2 h3 h4 hd (fun H1 hH1 hS1 => hk _ h5 g p l e s m args below meth co H1 locs ls Qf X E hH1 hS1 hL)
      · exact h.elim
    · cases hok
  case ireturn =>
    simp only [x_okI] at hok
    simp only [x_st] at h
    split at h
    · next x =>
      split at h
      · next =>
        simp only [decide_eq_true_eq] at hok
        obtain ⟨rfl, hr⟩ := hok
        intro g p l e s m args below meth co H locs ls Qf X E hH hS hL
        exact E pc0 H locs ls (some (.int x)) w cs ss (Or.inr (Or.inl ⟨x, rfl, hd, Or.inr ⟨hr, h.1⟩⟩)) h.2 hH hS
      · next hne =>
        split at hok
        · next => exact absurd rfl hne
        · simp only [decide_eq_true_eq] at hok
          obtain ⟨rfl, hr⟩ := hok
          intro g p l e s m args below meth co H locs ls Qf X E hH hS hL
          exact E pc0 H locs ls (some (.int x)) w cs ss (Or.inr (Or.inl ⟨x, rfl, hd, Or.inl hr⟩)) h hH hS
    · exact h.elim
  case areturn =>
    simp only [x_okI] at hok
    simp only [x_st] at h
    split at hok
    · next n hr =>
      simp only [decide_eq_true_eq] at hok
      subst hok
      split at h
      · next a =>
        intro g p l e s m args below meth co H locs ls Qf X E hH hS hL
        exact E pc0 H locs ls (some (.ref a)) w cs ss (Or.inr (Or.inr ⟨a, rfl, hd, n, hr⟩)) h hH hS
      · exact h.elim
    · cases hok
  case return_ =>
    simp only [x_okI, decide_eq_true_eq] at hok
    obtain ⟨rfl, hr⟩ := hok
    simp only [x_st] at h
    split at h
    · intro g p l e s m args below meth co H locs ls Qf X E hH hS hL
      exact E pc0 H locs ls none w cs ss (Or.inl ⟨rfl, hd, hr⟩) h hH hS
    · exact h.elim
  all_goals cases hok
/-- A STRETCH: what it asks is enough -/
theorem x_wp_sound {M : xM} {Ex : xEx} {sums : List (Nat × xSm)} {tb : List xT} {cuts : List Nat} (hsum : ∀ q ∈ sums, x_VS q) (htb : tb.all (x_okT M) = true) : ∀ (n : Nat) (c : xC), x_wp M.2.2.2.2 sums tb cuts (x_G M Ex) Ex n c → x_G M Ex c := by
  intro n
  induction n with
  | zero => exact fun c h => h
  | succ n ih =>
    intro c h
    rw [x_wp] at h
    split at h
    · next t ht =>
      obtain ⟨h1, h2⟩ := x_look_in ht
      refine x_st_sound hsum (List.all_eq_true.mp htb t h1) h2 h (fun c' hc' => ?_)
      split at hc'
      · exact hc'
      · exact ih c' hc'
    · exact h.elim
/-- the end of a contract -/
def x_ExC (M : xM) (Q : Option Value → xW → Prop) : xEx := fun r w cs ss => cs ≤ M.2.2.2.2.cells ∧ ss ≤ M.2.2.2.2.slots ∧ Q r w
/-- the locals at the entry -/
def x_lv0 (args : List Value) (nL : Nat) : List (Option Value) := args.map some ++ List.replicate (nL - args.length) none
