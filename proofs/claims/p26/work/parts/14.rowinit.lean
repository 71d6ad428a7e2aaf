theorem x_wp_pf {R : Room} {sums : List (Nat × xSm)} {tb : List xT} {cuts : List Nat} {L : xC → Prop} {Ex : xEx} {n pc i len ci j wi cs ss a r : Nat} {more : List Nat} {cst : Int32} {lv : List (Option Value)} {st : List Value} {w : xW} {fs : List (Option (Option Nat))} {y : Option Nat}
    (hl : x_look tb pc = some (pc, .putfield i, len, ci :: j :: wi :: 2 :: more, cst)) (h : w.1[a]? = some (.inr (ci, fs))) (hf : fs[j]? = some (some y)) (hcut : cuts.elem (pc + len) = false)
    (hk : x_wp R sums tb cuts L Ex n (pc + len, lv, st, (w.1.set a (.inr (ci, fs.set j (some (some r)))), w.2), cs, ss)) : x_wp R sums tb cuts L Ex (n + 1) (pc, lv, .ref r :: .ref a :: st, w, cs, ss) := by
  rw [x_wp]
  dsimp only
  rw [hl]
  simp only [x_st]
  rw [h]
  dsimp only
  have hb : Nat.beq ci ci = true := Nat.beq_refl ci
  rw [hb, hf]
  dsimp only
  rw [hcut]
  exact hk
def sm_X7_init_4 : xSm := fun args w => match args with
  | [.ref a, .int x] => match decide (x = 4), w.1[a]?, Nat.blt (w.1.length + 1) 1000 with
    | true, some (.inr (7, [some none])), true => some (none, ((w.1 ++ [(.inl 4 : xS)]).set a (.inr (7, [some (some w.1.length)])), x_z w.2 w.1.length), True)
    | _, _, _ => none
  | _ => none
theorem vs_X7_init_4 : x_VS (64, sm_X7_init_4) := by
  intro args w r hr hP
  unfold sm_X7_init_4 at hr
  dsimp only at hr
  split at hr
  · next a x =>
    split at hr
    · next h1 h2 h3 =>
      cases hr
      have hx := of_decide_eq_true h1
      subst hx
      have hlt : w.1.length + 1 < 1000 := by simpa using h3
      have h4 : (w.1 ++ [(.inl 4 : xS)])[a]? = some (.inr (7, [some none])) := by rw [List.getElem?_append_left (x_lt h2)]; exact h2
      refine x_con (M := M_X7_init_4) (args := [.ref a, .int 4]) rfl (Nat.le_of_ble_eq_true rfl) (by simp [Value.category]) (x_wp_sound (sums := []) (cuts := []) (by simp) ok_X7_init_4 30 _ ?_)
      refine And.intro (fun h => ?_) (fun _ => ?_)
      · exact absurd h (by decide)
      refine And.intro ⟨by decide, Nat.le_of_ble_eq_true rfl, Nat.le_of_ble_eq_true rfl, Nat.le_of_ble_eq_true rfl, hlt⟩ ?_
      refine x_wp_pf (n := 21) (pc := 16) rfl h4 rfl rfl ?_
      exact ⟨Nat.le_of_ble_eq_true rfl, Nat.le_of_ble_eq_true rfl, rfl, rfl⟩
    · cases hr
  · cases hr
def sm_X7_init_6 : xSm := fun args w => match args with
  | [.ref a, .int x] => match decide (x = 6), w.1[a]?, Nat.blt (w.1.length + 1) 1000 with
    | true, some (.inr (7, [some none])), true => some (none, ((w.1 ++ [(.inl 6 : xS)]).set a (.inr (7, [some (some w.1.length)])), x_z w.2 w.1.length), True)
    | _, _, _ => none
  | _ => none
theorem vs_X7_init_6 : x_VS (65, sm_X7_init_6) := by
  intro args w r hr hP
  unfold sm_X7_init_6 at hr
  dsimp only at hr
  split at hr
  · next a x =>
    split at hr
    · next h1 h2 h3 =>
      cases hr
      have hx := of_decide_eq_true h1
      subst hx
      have hlt : w.1.length + 1 < 1000 := by simpa using h3
      have h4 : (w.1 ++ [(.inl 6 : xS)])[a]? = some (.inr (7, [some none])) := by rw [List.getElem?_append_left (x_lt h2)]; exact h2
      refine x_con (M := M_X7_init_6) (args := [.ref a, .int 6]) rfl (Nat.le_of_ble_eq_true rfl) (by simp [Value.category]) (x_wp_sound (sums := []) (cuts := []) (by simp) ok_X7_init_6 30 _ ?_)
      refine And.intro (fun h => ?_) (fun _ => ?_)
      · exact absurd h (by decide)
      refine And.intro ⟨by decide, Nat.le_of_ble_eq_true rfl, Nat.le_of_ble_eq_true rfl, Nat.le_of_ble_eq_true rfl, hlt⟩ ?_
      refine x_wp_pf (n := 21) (pc := 16) rfl h4 rfl rfl ?_
      exact ⟨Nat.le_of_ble_eq_true rfl, Nat.le_of_ble_eq_true rfl, rfl, rfl⟩
    · cases hr
  · cases hr
def sm_X7_init_8 : xSm := fun args w => match args with
  | [.ref a, .int x] => match decide (x = 8), w.1[a]?, Nat.blt (w.1.length + 1) 1000 with
    | true, some (.inr (7, [some none])), true => some (none, ((w.1 ++ [(.inl 8 : xS)]).set a (.inr (7, [some (some w.1.length)])), x_z w.2 w.1.length), True)
    | _, _, _ => none
  | _ => none
theorem vs_X7_init_8 : x_VS (66, sm_X7_init_8) := by
  intro args w r hr hP
  unfold sm_X7_init_8 at hr
  dsimp only at hr
  split at hr
  · next a x =>
    split at hr
    · next h1 h2 h3 =>
      cases hr
      have hx := of_decide_eq_true h1
      subst hx
      have hlt : w.1.length + 1 < 1000 := by simpa using h3
      have h4 : (w.1 ++ [(.inl 8 : xS)])[a]? = some (.inr (7, [some none])) := by rw [List.getElem?_append_left (x_lt h2)]; exact h2
      refine x_con (M := M_X7_init_8) (args := [.ref a, .int 8]) rfl (Nat.le_of_ble_eq_true rfl) (by simp [Value.category]) (x_wp_sound (sums := []) (cuts := []) (by simp) ok_X7_init_8 30 _ ?_)
      refine And.intro (fun h => ?_) (fun _ => ?_)
      · exact absurd h (by decide)
      refine And.intro ⟨by decide, Nat.le_of_ble_eq_true rfl, Nat.le_of_ble_eq_true rfl, Nat.le_of_ble_eq_true rfl, hlt⟩ ?_
      refine x_wp_pf (n := 21) (pc := 16) rfl h4 rfl rfl ?_
      exact ⟨Nat.le_of_ble_eq_true rfl, Nat.le_of_ble_eq_true rfl, rfl, rfl⟩
    · cases hr
  · cases hr
def sm_X7_init_16 : xSm := fun args w => match args with
  | [.ref a, .int x] => match decide (x = 16), w.1[a]?, Nat.blt (w.1.length + 1) 1000 with
    | true, some (.inr (7, [some none])), true => some (none, ((w.1 ++ [(.inl 16 : xS)]).set a (.inr (7, [some (some w.1.length)])), x_z w.2 w.1.length), True)
    | _, _, _ => none
  | _ => none
theorem vs_X7_init_16 : x_VS (67, sm_X7_init_16) := by
  intro args w r hr hP
  unfold sm_X7_init_16 at hr
  dsimp only at hr
  split at hr
  · next a x =>
    split at hr
    · next h1 h2 h3 =>
      cases hr
      have hx := of_decide_eq_true h1
      subst hx
      have hlt : w.1.length + 1 < 1000 := by simpa using h3
      have h4 : (w.1 ++ [(.inl 16 : xS)])[a]? = some (.inr (7, [some none])) := by rw [List.getElem?_append_left (x_lt h2)]; exact h2
      refine x_con (M := M_X7_init_16) (args := [.ref a, .int 16]) rfl (Nat.le_of_ble_eq_true rfl) (by simp [Value.category]) (x_wp_sound (sums := []) (cuts := []) (by simp) ok_X7_init_16 30 _ ?_)
      refine And.intro (fun h => ?_) (fun _ => ?_)
      · exact absurd h (by decide)
      refine And.intro ⟨by decide, Nat.le_of_ble_eq_true rfl, Nat.le_of_ble_eq_true rfl, Nat.le_of_ble_eq_true rfl, hlt⟩ ?_
      refine x_wp_pf (n := 21) (pc := 16) rfl h4 rfl rfl ?_
      exact ⟨Nat.le_of_ble_eq_true rfl, Nat.le_of_ble_eq_true rfl, rfl, rfl⟩
    · cases hr
  · cases hr
def sm_X7_init_24 : xSm := fun args w => match args with
  | [.ref a, .int x] => match decide (x = 24), w.1[a]?, Nat.blt (w.1.length + 1) 1000 with
    | true, some (.inr (7, [some none])), true => some (none, ((w.1 ++ [(.inl 24 : xS)]).set a (.inr (7, [some (some w.1.length)])), x_z w.2 w.1.length), True)
    | _, _, _ => none
  | _ => none
theorem vs_X7_init_24 : x_VS (68, sm_X7_init_24) := by
  intro args w r hr hP
  unfold sm_X7_init_24 at hr
  dsimp only at hr
  split at hr
  · next a x =>
    split at hr
    · next h1 h2 h3 =>
      cases hr
      have hx := of_decide_eq_true h1
      subst hx
      have hlt : w.1.length + 1 < 1000 := by simpa using h3
      have h4 : (w.1 ++ [(.inl 24 : xS)])[a]? = some (.inr (7, [some none])) := by rw [List.getElem?_append_left (x_lt h2)]; exact h2
      refine x_con (M := M_X7_init_24) (args := [.ref a, .int 24]) rfl (Nat.le_of_ble_eq_true rfl) (by simp [Value.category]) (x_wp_sound (sums := []) (cuts := []) (by simp) ok_X7_init_24 30 _ ?_)
      refine And.intro (fun h => ?_) (fun _ => ?_)
      · exact absurd h (by decide)
      refine And.intro ⟨by decide, Nat.le_of_ble_eq_true rfl, Nat.le_of_ble_eq_true rfl, Nat.le_of_ble_eq_true rfl, hlt⟩ ?_
      refine x_wp_pf (n := 21) (pc := 16) rfl h4 rfl rfl ?_
      exact ⟨Nat.le_of_ble_eq_true rfl, Nat.le_of_ble_eq_true rfl, rfl, rfl⟩
    · cases hr
  · cases hr
def sm_X7_init_32 : xSm := fun args w => match args with
  | [.ref a, .int x] => match decide (x = 32), w.1[a]?, Nat.blt (w.1.length + 1) 1000 with
    | true, some (.inr (7, [some none])), true => some (none, ((w.1 ++ [(.inl 32 : xS)]).set a (.inr (7, [some (some w.1.length)])), x_z w.2 w.1.length), True)
    | _, _, _ => none
  | _ => none
theorem vs_X7_init_32 : x_VS (69, sm_X7_init_32) := by
  intro args w r hr hP
  unfold sm_X7_init_32 at hr
  dsimp only at hr
  split at hr
  · next a x =>
    split at hr
    · next h1 h2 h3 =>
      cases hr
      have hx := of_decide_eq_true h1
      subst hx
      have hlt : w.1.length + 1 < 1000 := by simpa using h3
      have h4 : (w.1 ++ [(.inl 32 : xS)])[a]? = some (.inr (7, [some none])) := by rw [List.getElem?_append_left (x_lt h2)]; exact h2
      refine x_con (M := M_X7_init_32) (args := [.ref a, .int 32]) rfl (Nat.le_of_ble_eq_true rfl) (by simp [Value.category]) (x_wp_sound (sums := []) (cuts := []) (by simp) ok_X7_init_32 30 _ ?_)
      refine And.intro (fun h => ?_) (fun _ => ?_)
      · exact absurd h (by decide)
      refine And.intro ⟨by decide, Nat.le_of_ble_eq_true rfl, Nat.le_of_ble_eq_true rfl, Nat.le_of_ble_eq_true rfl, hlt⟩ ?_
      refine x_wp_pf (n := 21) (pc := 16) rfl h4 rfl rfl ?_
      exact ⟨Nat.le_of_ble_eq_true rfl, Nat.le_of_ble_eq_true rfl, rfl, rfl⟩
    · cases hr
  · cases hr
def sm_X7_init_40 : xSm := fun args w => match args with
  | [.ref a, .int x] => match decide (x = 40), w.1[a]?, Nat.blt (w.1.length + 1) 1000 with
    | true, some (.inr (7, [some none])), true => some (none, ((w.1 ++ [(.inl 40 : xS)]).set a (.inr (7, [some (some w.1.length)])), x_z w.2 w.1.length), True)
    | _, _, _ => none
  | _ => none
theorem vs_X7_init_40 : x_VS (70, sm_X7_init_40) := by
  intro args w r hr hP
  unfold sm_X7_init_40 at hr
  dsimp only at hr
  split at hr
  · next a x =>
    split at hr
    · next h1 h2 h3 =>
      cases hr
      have hx := of_decide_eq_true h1
      subst hx
      have hlt : w.1.length + 1 < 1000 := by simpa using h3
      have h4 : (w.1 ++ [(.inl 40 : xS)])[a]? = some (.inr (7, [some none])) := by rw [List.getElem?_append_left (x_lt h2)]; exact h2
      refine x_con (M := M_X7_init_40) (args := [.ref a, .int 40]) rfl (Nat.le_of_ble_eq_true rfl) (by simp [Value.category]) (x_wp_sound (sums := []) (cuts := []) (by simp) ok_X7_init_40 30 _ ?_)
      refine And.intro (fun h => ?_) (fun _ => ?_)
      · exact absurd h (by decide)
      refine And.intro ⟨by decide, Nat.le_of_ble_eq_true rfl, Nat.le_of_ble_eq_true rfl, Nat.le_of_ble_eq_true rfl, hlt⟩ ?_
      refine x_wp_pf (n := 21) (pc := 16) rfl h4 rfl rfl ?_
      exact ⟨Nat.le_of_ble_eq_true rfl, Nat.le_of_ble_eq_true rfl, rfl, rfl⟩
    · cases hr
  · cases hr
def sms_0 : List (Nat × xSm) := [(64, sm_X7_init_4), (65, sm_X7_init_6), (66, sm_X7_init_8), (67, sm_X7_init_16), (68, sm_X7_init_24), (69, sm_X7_init_32), (70, sm_X7_init_40)]
theorem vss_0 : ∀ q ∈ sms_0, x_VS q := by
  intro q hq
  simp only [sms_0, List.mem_cons, List.mem_nil_iff, or_false] at hq
  rcases hq with rfl | rfl | rfl | rfl | rfl | rfl | rfl
  · exact vs_X7_init_4
  · exact vs_X7_init_6
  · exact vs_X7_init_8
  · exact vs_X7_init_16
  · exact vs_X7_init_24
  · exact vs_X7_init_32
  · exact vs_X7_init_40
