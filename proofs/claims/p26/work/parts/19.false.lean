/-! ===== THE REFUTATION: the printed start (the witness) and the printed claim can't both hold ===== -/
/-- the entry of a method, one step of the machine -/
theorem x_enter {p : Program} {l : Launch} {e : Env} {s : State} {m : MethodId} {args : Array Value} {below : List Frame} {S : Spec} {y : MethodName} {cc : ByteArray} {maxL : Nat} {ret : Option FieldType} (hy : plainName y.cls = true) (ha : l.admits e) (hc : FairCas e.choices) (hk : FairClock e.choices) (hf : s.frames = .invoking m args :: below) (happ : S.appliesLoose y e.platform s = true)
    (hw : (Cond.code y cc maxL ret).before args s = true) : ∃ (meth : Method) (c : Code) (s₁ : State), BodyLoose p l y S cc maxL ret e s m args below meth c s₁ ∧ c.maxLocals = maxL ∧ ∀ t, Steps p.tables e below (s₁.setTop (entryFrame m args maxL)) t → Steps p.tables e below s t := by
  obtain ⟨hrun, hable, halone, hname, hhears, hinit, hroom, hpre⟩ := (Spec.appliesLoose_iff hf).mp happ
  obtain ⟨meth, c, hmeth, hcode, hbytes, hlocals, hret, hlocks, -, -⟩ := Cond.code_spec hname hw
  have hcur := State.cur_lt_of_frames hf
  have hf1 := State.frames_setFrames (s := s) (.java (entryFrame m args maxL) :: below) hcur
  have ht1 := State.topJava?_of_frames hf1
  have hfull : e.platform.stackFull (s.setFrames below).me (s.setFrames below).frames c.maxLocals = false := by
    obtain ⟨-, h1, -, h2⟩ := State.hasRoom_stack hroom
    rw [hf, List.length_cons] at h1
    rw [State.localsInUse_invoking hf hmeth hcode] at h2
    have h3 := stackUse_le_stackWeight below
    rw [State.frames_setFrames _ hcur]
    exact Platform.stackFull_eq_false (by rw [State.stackLimits_setFrames]; omega) (by rw [State.stackLimits_setFrames]; omega)
  have hstep : (stepThread p.tables e s).1 = (s.setFrames (.java (entryFrame m args maxL) :: below)).setTop (entryFrame m args maxL) := by
    rw [stepThread_invoking hf, (doInvoke_java (s := s.setFrames below) (e := e) (meth := meth) (code := c) hmeth hcode hlocks hfull).1, State.setTop_self ht1]
    simp only [State.pushFrame, State.frames_setFrames _ hcur, State.setFrames_setFrames, hlocals, entryFrame]
  have hAt : At (s.setFrames (.java (entryFrame m args maxL) :: below)) m c below :=
    ⟨by rw [ht1]; rfl, ⟨[], by rw [hf1]; rfl⟩, hrun, by simpa using hable, by simpa using halone, by rw [State.code?_eq]; simp [State.setFrames, hmeth, hcode], State.plainMethod.of_named (s := s) (plainFor_of_name hy) hname hmeth⟩
  refine ⟨meth, c, _, ⟨ha, hc, hk, by cases p <;> rfl, hf, hname, hhears, hinit, hroom, hpre, hmeth, hret, hlocks, hbytes, rfl, hAt⟩, hlocals, fun t ht => ?_⟩
  exact Steps.head (tb := p.tables) (e := e) ⟨hrun, hable, halone⟩ ⟨[.invoking m args], hf, by simp, by simp⟩ (hstep ▸ ht)
/-- a machine with more slots -/
def x_more (e : Env) : Env := { e with platform := { e.platform with maxSlots := e.platform.maxSlots + 2000 } }
theorem x_more_admits {l : Launch} {e : Env} (h : l.admits e) : l.admits (x_more e) := by
  obtain ⟨h1, h2, h3, h4, h5, h6, h7, h8, h9⟩ := h
  exact ⟨h1, h2, h3, h4, congrArg (fun pl : Platform => { pl with maxSlots := e.platform.maxSlots + 2000 }) h5, h6, h7, Nat.le_trans h8 (Nat.le_add_right _ _), h9⟩
theorem x_more_room {e : Env} {s : State} {r : Room} {n : Nat} (h : s.hasRoom e.platform r = true) (hn : n ≤ 2000) : s.hasRoom (x_more e).platform { r with slots := r.slots + n } = true := by
  simp only [State.hasRoom, Bool.and_eq_true, decide_eq_true_eq] at h ⊢
  obtain ⟨⟨⟨⟨h1, h2⟩, h3⟩, h4⟩, h5⟩ := h
  refine ⟨⟨⟨⟨h1, h2⟩, h3⟩, ?_⟩, h5⟩
  show s.slotsUsed + (r.slots + n) ≤ e.platform.maxSlots + 2000
  omega
def lw_P (b : Addr) (xs : List Int32) (args : Array Value) (s : State) : Prop := args = #[.ref b] ∧ s.IntsAt b xs ∧ xs.length ≤ 2560 ∧ (Jvm.Cond.and given_1 narrow_1).before args s = true
theorem lw_pre_spec {args : Array Value} {s : State} (h : (Jvm.Cond.and given_1 narrow_1).before args s = true) (hr : rest_1_c.before args s = true) : ∃ (b : Addr) (xs : List Int32), lw_P b xs args s := by
  have hs := flat_of_before _ h
  have hq := flat_of_before _ hr
  have hc : (Cond.count 1).before args s = true := hs _ (by decide +kernel)
  have harr : (Cond.arrayOf (.arg 0) .int).before args s = true := hs _ (by decide +kernel)
  have hle : (Cond.le (.length (.arg 0)) (.int 2560)).before args s = true := hs _ (by decide +kernel)
  have hlen : (Cond.isInt (.length (.arg 0))).before args s = true := hq _ (by decide +kernel)
  have hall : (Cond.all (.arg 0) (.isInt (.elem (.arg 0) (.index 0)))).before args s = true := hq _ (by decide +kernel)
  obtain ⟨b, xs, hb, hx⟩ := State.ints_of_pre rfl harr hlen hall
  have hsm : xs.length < 2 ^ 31 := hx.choose_spec.2.2.2
  have hev : (Term.length (.arg 0)).eval args s none [] s = some (.int xs.length.toInt32) := hx.length_eval hb
  have hv := Cond.le_ints hev (show (Term.int 2560).eval args s none [] s = some (.int 2560) from rfl)
  have hd : xs.length.toInt32 ≤ 2560 := by
    simpa [Cond.before, Cond.holds, hv] using hle
  have hN : xs.length ≤ 2560 := (Int32.ofNat_le_ofNat hsm (by decide)).mp (show Int32.ofNat xs.length ≤ Int32.ofNat 2560 from hd)
  exact ⟨b, xs, Cond.one_arg hc (show args[0]? = some (.ref b) from hb), hx, hN, h⟩
theorem x_apps {ts : List Cond} {r r' : Room} {y : MethodName} {pl pl' : Platform} {s : State} {m : MethodId} {args : Array Value} {below : List Frame} (hfr : s.frames = .invoking m args :: below) (h : (headSpec ts r).applies y pl s = true) (hr : s.hasRoom pl r = true → s.hasRoom pl' r' = true) : (headSpec ts r').applies y pl' s = true := by
  obtain ⟨a1, a2, a3, a4, a5, a6, a7, a8⟩ := (Spec.applies_iff hfr).mp h
  exact (Spec.applies_iff hfr).mpr ⟨a1, a2, a3, a4, a5, a6, hr a7, a8⟩
theorem x_appl {ts : List Cond} {r : Room} {y : MethodName} {pl : Platform} {s : State} {m : MethodId} {args : Array Value} {below : List Frame} (hfr : s.frames = .invoking m args :: below) (h : (headSpec ts r).applies y pl s = true) : (headSpec ts r).appliesLoose y pl s = true ∧ ∀ c ∈ ts, c.before args s = true :=
  ⟨((Spec.applies_iff_loose hfr).mp h).1, atoms_spec (ws := ts) ((Spec.applies_iff hfr).mp h).2.2.2.2.2.2.2⟩
def x_tsl : List Cond := Jvm.Cond.code x code maxLocals ret :: tables_1
def x_s0 (L : Nat) (xs : Nat → Int32) : Nat → Nat → Int32 := fun i j => if i = 1000 then xs j else if i = 1001 then Int32.ofNat L else 0
set_option maxRecDepth 100000 in
set_option maxHeartbeats 4000000 in
/-- THE CLAIM IS FALSE AS IT IS PRINTED: at the printed start the law makes more than 1132 slots (its arrays alone are 1484), and Post_1_1 says at most 1132 -/
theorem whole_false_at {l : Launch} {p : Program} {e : Env} {s : State} {m : MethodId} {args : Array Value} {below : List Frame} (hfl : l.flags = flags0) (hS : AtStart classFile x code maxLocals ret World_1 tables_1 room_1 Calls_1 rest_1 Pre_1 l p e s m args below) : ¬ Claimed_1_1 := by
  intro hC
  obtain ⟨hLi, hWo, hadm, -, hcas, hclk, hfr, hfit, hheap, happ, hcalls, hrest, hpre⟩ := hS
  have happ : (headSpec x_tsl room_1).applies x e.platform s = true := happ
  have happ' : (headSpec x_tsl room_1).applies x (x_more e).platform s = true := x_apps hfr happ (fun h => x_more_room (r := room_1) (n := 0) h (Nat.zero_le _))
  obtain ⟨n, o, hwn, hrun, hend, hpost⟩ := hC l hfl hLi hWo p (x_more e) (x_more_admits hadm) hcas hclk s m args below hfr hfit hheap happ' ⟨hcalls, hrest, hpre⟩
  obtain ⟨happ9, hts0⟩ := x_appl hfr (x_apps (r' := { room_1 with slots := room_1.slots + 472 }) (pl' := (x_more e).platform) hfr happ (fun h => x_more_room (r := room_1) (n := 472) h (Nat.le_of_ble_eq_true rfl)))
  obtain ⟨meth, c, s₁, B, hml, hgo⟩ := x_enter (p := p) (l := l) (y := x) (cc := code) (maxL := maxLocals) (ret := ret) (by decide) (x_more_admits hadm) hcas hclk hfr happ9 (hts0 _ List.mem_cons_self)
  obtain ⟨b, ys, rfl, hy, hbd, hgv⟩ := lw_pre_spec hpre hrest
  obtain ⟨scr, harrAt, hlist, hof, hsmall⟩ := hy
  obtain ⟨hcb, hkn, -, -⟩ := State.arrayAt?_spec harrAt
  have hts : ∀ w ∈ lw_tbl, w.before #[Value.ref b] s = true := k2_hts_sels lw_privs (fun w hw => hts0 w (List.mem_cons_of_mem _ hw)) lw_privs_ok
  have hsz : scr.slots.size = ys.length := by rw [← Array.length_toList, hlist, List.length_map]
  have hval : ∀ j : Nat, j < ys.length → scr.slots[j]? = some (.int (ys.getD j 0)) := fun j hj => by
    rw [← Array.getElem?_toList, hlist]
    simp [hj]
  have hbl : b < s.heap.size := (Array.getElem?_eq_some_iff.mp hcb).1
  have hX : va_X b ys.length (fun j => ys.getD j 0) s s.heap := ⟨scr, hcb, hof, hkn, hsz, hval⟩
  obtain ⟨g, hh, hb9, hL9, hxs, hK⟩ := x_start hts hX hbl hbd hgv
  have X : x_X M_law9 g p s m #[Value.ref b] meth c := ⟨B.exec, B.bytes, B.returns, B.notSynchronized, hml, findClass_of_methodNamed B.named, fun w hw => (List.mem_cons.mp hw).elim (fun h => by rw [h]; exact hts0 _ List.mem_cons_self) (fun h => hts w (x_tb_sub h)), (name_of_methodNamed B.named B.method).1, hK⟩
  have hH : x_H g ([], x_s0 (x_L g) (x_xs g)) s.heap := ⟨by rw [hh]; rfl, Nat.le_of_ble_eq_true rfl, fun k q h => by simp [x_cs] at h, fun j hj => rfl, rfl⟩
  have hL := x_lv_entry (g := g) (args := [.ref 1000]) (n := 4) (Nat.le_of_ble_eq_true rfl) (by simp [Value.category])
  have hv : ([.ref 1000] : List Value).map (x_v g) = [.ref b] := by
    show [Value.ref (x_ad g 1000)] = _
    rw [x_ad_b, hb9]
  rw [hv] at hL
  have K := law9_mid (l := l) (e := x_more e) (below := below) X hh hH hL
  obtain ⟨t, hst, hq⟩ := K s₁ (by rw [B.state]; rfl) (Stand.of_body B)
  have hst : Steps p.tables (x_more e) below (s₁.setTop (entryFrame m ([Value.ref b] : List Value).toArray 4)) t := by
    rw [lg_entry_eq]
    exact hst
  obtain ⟨k, hk, hwk⟩ := hgo t hst
  have hkn : k ≤ n := by
    rcases Nat.lt_or_ge n k with h | h
    · exact absurd (hwk n h) hend.not_within
    · exact h
  have hmono := (stepsAlone_heap_grows_add p.tables (x_more e) k (n - k) s).2
  rw [hk, Nat.add_sub_cancel' hkn] at hmono
  obtain ⟨-, -, hF⟩ := hpost.2
  have e1 : (stepsAlone p.tables (x_more e) n s).slotsUsed = s.slotsUsed + _ := hF.2.2.2.1
  have e2 := hF.2.2.2.2.1
  rw [e1] at hmono
  exact absurd (Nat.lt_of_lt_of_le hq hmono) (Nat.not_lt.mpr (Nat.add_le_add_left e2 _))
theorem x_flags : launch0.flags = flags0 := by unfold launch0; rfl
theorem whole_false (hw : WitnessClaimed_1) : ¬ (Claimed_1_1 ∧ Claimed_1_2) := by
  obtain ⟨p, e, s, m, args, below, hS⟩ := hw
  exact fun h => whole_false_at x_flags hS h.1
