set_option maxHeartbeats 4000000 in
set_option maxRecDepth 100000 in
theorem kt_X4_isSlot (l : Launch) (D : va_G) (cy : Nat → ClassId)  (p1 : Int)  (z : Int) (hf : fX4_isSlot p1 = some z) :
    tl_MC l D (tl_tys cy) yX4_isSlot (tl_w yX4_isSlot cX4_isSlot 1 (some .boolean)) { frames := 0, cells := 0, slots := 0, locals := 0 } [.int (tl_I p1)] [] 0 0 (fun v w1 => v = some (.int (tl_I z)) ∧ w1 = []) := by
  refine tl_ofW (cc := cX4_isSlot) (maxL := 1) (ret := (some .boolean)) (by decide +kernel) (Nat.le_of_ble_eq_true rfl) ?_
  intro p e s m below meth c hx hb hr hml hts hown hlocks hnm A hAe hA hP hK hD hS ls hl
  have hl : lv_has ls 1 [(0, .int (tl_I p1))] := hl
  unfold fX4_isSlot at hf
  refine lv_iload_n hx hb dX4_isSlot_0 rfl (lv_at hl 0 rfl) ?_
  refine tr_if_lt (tgt := 14) hx hb hf dX4_isSlot_1 (by decide) (fun hc hf => ?_) (fun hc hf => ?_)
  · refine lv_iconst (v := tl_I (0 : Int)) hx hb dX4_isSlot_14 rfl ?_
    injection hf with hf
    subst hf
    exact W.zret (v := tl_I (0 : Int)) hx hb hr rfl (fun t ht hW => tl_fin hAe ⟨rfl, rfl⟩ (hP.sub (ws' := []) [] rfl) hK (hD.sub (ws' := []) [] (by decide) rfl) hS ht hW) hS.2.2 dX4_isSlot_15
  · refine lv_iload_n hx hb dX4_isSlot_4 rfl (lv_at hl 0 rfl) ?_
    refine lv_bipush (v := tl_I (100 : Int)) hx hb dX4_isSlot_5 rfl ?_
    refine tr_icmp_ge (tgt := 14) hx hb hf dX4_isSlot_7 (by decide) (fun hc hf => ?_) (fun hc hf => ?_)
    · refine lv_iconst (v := tl_I (1 : Int)) hx hb dX4_isSlot_10 rfl ?_
      refine lv_goto (tgt := 15) hx hb dX4_isSlot_11 (by decide) ?_
      injection hf with hf
      subst hf
      exact W.zret (v := tl_I (1 : Int)) hx hb hr rfl (fun t ht hW => tl_fin hAe ⟨rfl, rfl⟩ (hP.sub (ws' := []) [] rfl) hK (hD.sub (ws' := []) [] (by decide) rfl) hS ht hW) hS.2.2 dX4_isSlot_15
    · refine lv_iconst (v := tl_I (0 : Int)) hx hb dX4_isSlot_14 rfl ?_
      injection hf with hf
      subst hf
      exact W.zret (v := tl_I (0 : Int)) hx hb hr rfl (fun t ht hW => tl_fin hAe ⟨rfl, rfl⟩ (hP.sub (ws' := []) [] rfl) hK (hD.sub (ws' := []) [] (by decide) rfl) hS ht hW) hS.2.2 dX4_isSlot_15
set_option maxHeartbeats 4000000 in
set_option maxRecDepth 100000 in
theorem kt_X4_length (l : Launch) (D : va_G) (cy : Nat → ClassId) (a_this a_inside a_list : Nat) (v_this_length : Int)  (z : Int) (hf : fX4_length v_this_length = some z) :
    tl_MC l D (tl_tys cy) yX4_length (tl_w yX4_length cX4_length 1 (some .int)) { frames := 0, cells := 0, slots := 0, locals := 0 } [.ref a_this] [tl_ob a_this 5 [.ref a_inside, .ref a_list, .int (tl_I v_this_length)]] 0 0 (fun v w1 => v = some (.int (tl_I z)) ∧ w1 = [tl_ob a_this 5 [.ref a_inside, .ref a_list, .int (tl_I v_this_length)]]) := by
  refine tl_ofW (cc := cX4_length) (maxL := 1) (ret := (some .int)) (by decide +kernel) (Nat.le_of_ble_eq_true rfl) ?_
  intro p e s m below meth c hx hb hr hml hts hown hlocks hnm A hAe hA hP hK hD hS ls hl
  have hl : lv_has ls 1 [(0, .ref a_this)] := hl
  unfold fX4_length at hf
  refine lv_aload_n hx hb dX4_length_0 rfl (lv_at hl 0 rfl) ?_
  refine va_get (ci := 5) (v := .int (tl_I v_this_length)) (C := RX4) (T := TX4) (N := 3) hx hb hts in_X4 hown hK hP 0 rfl rfl 2 (by decide) (hts _ tw_139) (fun _ h9 => h9) rfl dX4_length_1 ?_
  injection hf with hf
  subst hf
  exact W.iret (v := tl_I v_this_length) hx hb hr (fun t ht hW => tl_fin hAe ⟨rfl, rfl⟩ (hP.sub (ws' := [tl_ob a_this 5 [.ref a_inside, .ref a_list, .int (tl_I v_this_length)]]) [0] rfl) hK (hD.sub (ws' := [tl_ob a_this 5 [.ref a_inside, .ref a_list, .int (tl_I v_this_length)]]) [0] (by decide) rfl) hS ht hW) hS.2.2 dX4_length_4
set_option maxHeartbeats 4000000 in
set_option maxRecDepth 100000 in
theorem kt_X4_get (l : Launch) (D : va_G) (cy : Nat → ClassId) (a_this a_list a_inside : Nat) (v_this_length : Int) (v_list : Nat → Int) (p1 : Int)  (z : Int) (hf : fX4_get v_this_length v_list p1 = some z) :
    tl_MC l D (tl_tys cy) yX4_get (tl_w yX4_get cX4_get 2 (some .int)) { frames := 0, cells := 0, slots := 0, locals := 0 } [.ref a_this, .int (tl_I p1)] [tl_ob a_this 5 [.ref a_inside, .ref a_list, .int (tl_I v_this_length)], tl_ia (cy 1) a_list 100 v_list] 0 0 (fun v w1 => v = some (.int (tl_I z)) ∧ w1 = [tl_ob a_this 5 [.ref a_inside, .ref a_list, .int (tl_I v_this_length)], tl_ia (cy 1) a_list 100 v_list]) := by
  refine tl_ofW (cc := cX4_get) (maxL := 2) (ret := (some .int)) (by decide +kernel) (Nat.le_of_ble_eq_true rfl) ?_
  intro p e s m below meth c hx hb hr hml hts hown hlocks hnm A hAe hA hP hK hD hS ls hl
  have hl : lv_has ls 2 [(0, .ref a_this), (1, .int (tl_I p1))] := hl
  unfold fX4_get at hf
  refine lv_iload_n hx hb dX4_get_0 rfl (lv_at hl 1 rfl) ?_
  refine tr_if_lt (tgt := 21) hx hb hf dX4_get_1 (by decide) (fun hc hf => ?_) (fun hc hf => ?_)
  · refine lv_iconst (v := tl_I (-1 : Int)) hx hb dX4_get_21 rfl ?_
    injection hf with hf
    subst hf
    exact W.iret (v := tl_I (-1 : Int)) hx hb hr (fun t ht hW => tl_fin hAe ⟨rfl, rfl⟩ (hP.sub (ws' := [tl_ob a_this 5 [.ref a_inside, .ref a_list, .int (tl_I v_this_length)], tl_ia (cy 1) a_list 100 v_list]) [0, 1] rfl) hK (hD.sub (ws' := [tl_ob a_this 5 [.ref a_inside, .ref a_list, .int (tl_I v_this_length)], tl_ia (cy 1) a_list 100 v_list]) [0, 1] (by decide) rfl) hS ht hW) hS.2.2 dX4_get_22
  · refine lv_iload_n hx hb dX4_get_4 rfl (lv_at hl 1 rfl) ?_
    refine lv_aload_n hx hb dX4_get_5 rfl (lv_at hl 0 rfl) ?_
    refine va_get (ci := 5) (v := .int (tl_I v_this_length)) (C := RX4) (T := TX4) (N := 3) hx hb hts in_X4 hown hK hP 0 rfl rfl 2 (by decide) (hts _ tw_139) (fun _ h9 => h9) rfl dX4_get_6 ?_
    refine tr_icmp_ge (tgt := 21) hx hb hf dX4_get_9 (by decide) (fun hc hf => ?_) (fun hc hf => ?_)
    · refine lv_aload_n hx hb dX4_get_12 rfl (lv_at hl 0 rfl) ?_
      refine va_get (ci := 5) (v := .ref a_list) (C := RX4) (T := TX4) (N := 3) hx hb hts in_X4 hown hK hP 0 rfl rfl 1 (by decide) (hts _ tw_138) (fun _ h9 => h9) rfl dX4_get_13 ?_
      refine lv_iload_n hx hb dX4_get_16 rfl (lv_at hl 1 rfl) ?_
      refine tr_iald hx hb hf hK hP 1 1 rfl rfl (by decide) dX4_get_17 (fun hf => ?_)
      refine lv_goto (tgt := 22) hx hb dX4_get_18 (by decide) ?_
      injection hf with hf
      subst hf
      exact W.iret (v := tl_I (v_list p1.toNat)) hx hb hr (fun t ht hW => tl_fin hAe ⟨rfl, rfl⟩ (hP.sub (ws' := [tl_ob a_this 5 [.ref a_inside, .ref a_list, .int (tl_I v_this_length)], tl_ia (cy 1) a_list 100 v_list]) [0, 1] rfl) hK (hD.sub (ws' := [tl_ob a_this 5 [.ref a_inside, .ref a_list, .int (tl_I v_this_length)], tl_ia (cy 1) a_list 100 v_list]) [0, 1] (by decide) rfl) hS ht hW) hS.2.2 dX4_get_22
    · refine lv_iconst (v := tl_I (-1 : Int)) hx hb dX4_get_21 rfl ?_
      injection hf with hf
      subst hf
      exact W.iret (v := tl_I (-1 : Int)) hx hb hr (fun t ht hW => tl_fin hAe ⟨rfl, rfl⟩ (hP.sub (ws' := [tl_ob a_this 5 [.ref a_inside, .ref a_list, .int (tl_I v_this_length)], tl_ia (cy 1) a_list 100 v_list]) [0, 1] rfl) hK (hD.sub (ws' := [tl_ob a_this 5 [.ref a_inside, .ref a_list, .int (tl_I v_this_length)], tl_ia (cy 1) a_list 100 v_list]) [0, 1] (by decide) rfl) hS ht hW) hS.2.2 dX4_get_22
set_option maxHeartbeats 4000000 in
set_option maxRecDepth 100000 in
theorem kt_X4_holds (l : Launch) (D : va_G) (cy : Nat → ClassId) (a_this a_inside a_list : Nat) (v_this_length : Int) (v_inside : Nat → Int) (p1 : Int)  (z : Int) (hf : fX4_holds v_this_length v_inside p1 = some z) :
    tl_MC l D (tl_tys cy) yX4_holds (tl_w yX4_holds cX4_holds 2 (some .boolean)) { frames := 1, cells := 0, slots := 0, locals := 20 } [.ref a_this, .int (tl_I p1)] [tl_ob a_this 5 [.ref a_inside, .ref a_list, .int (tl_I v_this_length)], tl_ia (cy 3) a_inside 100 v_inside] 0 0 (fun v w1 => v = some (.int (tl_I z)) ∧ w1 = [tl_ob a_this 5 [.ref a_inside, .ref a_list, .int (tl_I v_this_length)], tl_ia (cy 3) a_inside 100 v_inside]) := by
  refine tl_ofW (cc := cX4_holds) (maxL := 2) (ret := (some .boolean)) (by decide +kernel) (Nat.le_of_ble_eq_true rfl) ?_
  intro p e s m below meth c hx hb hr hml hts hown hlocks hnm A hAe hA hP hK hD hS ls hl
  have hl : lv_has ls 2 [(0, .ref a_this), (1, .int (tl_I p1))] := hl
  unfold fX4_holds at hf
  refine lv_iload_n hx hb dX4_holds_0 rfl (lv_at hl 1 rfl) ?_
  obtain ⟨z1, hz, hf⟩ := tl_bs hf
  refine tl_callS0 (As := [.int (tl_I p1)]) (rest := []) (wr := [tl_ob a_this 5 [.ref a_inside, .ref a_list, .int (tl_I v_this_length)], tl_ia (cy 3) a_inside 100 v_inside]) ⟨hx, hb, hml, hown, hts⟩ (kt_X4_isSlot l D cy p1 z1 hz) (va_cwS 1 hts tg_X4_23 rfl rfl rfl td_X4_isSlot ⟨by decide, by decide⟩) hK hP hD hS hA [] [0, 1] rfl rfl rfl rfl (by decide) rfl hl.1 rfl (Nat.le_of_ble_eq_true rfl) dX4_holds_1 ⟨by decide, by decide⟩ (fun v w1 H locs hp hP hD hS => ?_)
  obtain ⟨rfl, rfl⟩ := hp
  have hP : va_P D vwCl [tl_ob a_this 5 [.ref a_inside, .ref a_list, .int (tl_I v_this_length)], tl_ia (cy 3) a_inside 100 v_inside] H := hP
  have hD : va_D A [tl_ob a_this 5 [.ref a_inside, .ref a_list, .int (tl_I v_this_length)], tl_ia (cy 3) a_inside 100 v_inside] := hD
  refine W.eq (g2 := F0 m 4 ls [.int (tl_I z1)]) rfl ?_
  refine tr_if_eq (tgt := 20) hx hb hf dX4_holds_4 (by decide) (fun hc hf => ?_) (fun hc hf => ?_)
  · refine lv_iconst (v := tl_I (0 : Int)) hx hb dX4_holds_20 rfl ?_
    injection hf with hf
    subst hf
    exact W.zret (v := tl_I (0 : Int)) hx hb hr rfl (fun t ht hW => tl_fin hAe ⟨rfl, rfl⟩ (hP.sub (ws' := [tl_ob a_this 5 [.ref a_inside, .ref a_list, .int (tl_I v_this_length)], tl_ia (cy 3) a_inside 100 v_inside]) [0, 1] rfl) hK (hD.sub (ws' := [tl_ob a_this 5 [.ref a_inside, .ref a_list, .int (tl_I v_this_length)], tl_ia (cy 3) a_inside 100 v_inside]) [0, 1] (by decide) rfl) hS ht hW) hS.2.2 dX4_holds_21
  · refine lv_aload_n hx hb dX4_holds_7 rfl (lv_at hl 0 rfl) ?_
    refine va_get (ci := 5) (v := .ref a_inside) (C := RX4) (T := TX4) (N := 3) hx hb hts in_X4 hown hK hP 0 rfl rfl 0 (by decide) (hts _ tw_137) (fun _ h9 => h9) rfl dX4_holds_8 ?_
    refine lv_iload_n hx hb dX4_holds_11 rfl (lv_at hl 1 rfl) ?_
    refine tr_zald hx hb hf hK hP 1 3 rfl rfl (by decide) dX4_holds_12 (fun hf => ?_)
    refine tr_if_eq (tgt := 20) hx hb hf dX4_holds_13 (by decide) (fun hc hf => ?_) (fun hc hf => ?_)
    · refine lv_iconst (v := tl_I (0 : Int)) hx hb dX4_holds_20 rfl ?_
      injection hf with hf
      subst hf
      exact W.zret (v := tl_I (0 : Int)) hx hb hr rfl (fun t ht hW => tl_fin hAe ⟨rfl, rfl⟩ (hP.sub (ws' := [tl_ob a_this 5 [.ref a_inside, .ref a_list, .int (tl_I v_this_length)], tl_ia (cy 3) a_inside 100 v_inside]) [0, 1] rfl) hK (hD.sub (ws' := [tl_ob a_this 5 [.ref a_inside, .ref a_list, .int (tl_I v_this_length)], tl_ia (cy 3) a_inside 100 v_inside]) [0, 1] (by decide) rfl) hS ht hW) hS.2.2 dX4_holds_21
    · refine lv_iconst (v := tl_I (1 : Int)) hx hb dX4_holds_16 rfl ?_
      refine lv_goto (tgt := 21) hx hb dX4_holds_17 (by decide) ?_
      injection hf with hf
      subst hf
      exact W.zret (v := tl_I (1 : Int)) hx hb hr rfl (fun t ht hW => tl_fin hAe ⟨rfl, rfl⟩ (hP.sub (ws' := [tl_ob a_this 5 [.ref a_inside, .ref a_list, .int (tl_I v_this_length)], tl_ia (cy 3) a_inside 100 v_inside]) [0, 1] rfl) hK (hD.sub (ws' := [tl_ob a_this 5 [.ref a_inside, .ref a_list, .int (tl_I v_this_length)], tl_ia (cy 3) a_inside 100 v_inside]) [0, 1] (by decide) rfl) hS ht hW) hS.2.2 dX4_holds_21
set_option maxHeartbeats 4000000 in
set_option maxRecDepth 100000 in
theorem kt_X4_add (l : Launch) (D : va_G) (cy : Nat → ClassId) (a_this a_inside a_list : Nat) (v_this_length : Int) (v_inside : Nat → Int) (v_list : Nat → Int) (p1 : Int)  (z : (Nat → Int) × (Nat → Int) × Int) (hf : fX4_add v_this_length v_inside v_list p1 = some z) :
    tl_MC l D (tl_tys cy) yX4_add (tl_w yX4_add cX4_add 2 none) { frames := 1, cells := 0, slots := 0, locals := 20 } [.ref a_this, .int (tl_I p1)] [tl_ob a_this 5 [.ref a_inside, .ref a_list, .int (tl_I v_this_length)], tl_ia (cy 3) a_inside 100 v_inside, tl_ia (cy 1) a_list 100 v_list] 0 0 (fun v w1 => v = none ∧ w1 = [tl_ob a_this 5 [.ref a_inside, .ref a_list, .int (tl_I z.2.2)], tl_ia (cy 3) a_inside 100 z.1, tl_ia (cy 1) a_list 100 z.2.1]) := by
  refine tl_ofW (cc := cX4_add) (maxL := 2) (ret := none) (by decide +kernel) (Nat.le_of_ble_eq_true rfl) ?_
  intro p e s m below meth c hx hb hr hml hts hown hlocks hnm A hAe hA hP hK hD hS ls hl
  have hl : lv_has ls 2 [(0, .ref a_this), (1, .int (tl_I p1))] := hl
  unfold fX4_add at hf
  refine lv_iload_n hx hb dX4_add_0 rfl (lv_at hl 1 rfl) ?_
  obtain ⟨z1, hz, hf⟩ := tl_bs hf
  refine tl_callS0 (As := [.int (tl_I p1)]) (rest := []) (wr := [tl_ob a_this 5 [.ref a_inside, .ref a_list, .int (tl_I v_this_length)], tl_ia (cy 3) a_inside 100 v_inside, tl_ia (cy 1) a_list 100 v_list]) ⟨hx, hb, hml, hown, hts⟩ (kt_X4_isSlot l D cy p1 z1 hz) (va_cwS 1 hts tg_X4_23 rfl rfl rfl td_X4_isSlot ⟨by decide, by decide⟩) hK hP hD hS hA [] [0, 1, 2] rfl rfl rfl rfl (by decide) rfl hl.1 rfl (Nat.le_of_ble_eq_true rfl) dX4_add_1 ⟨by decide, by decide⟩ (fun v w1 H locs hp hP hD hS => ?_)
  obtain ⟨rfl, rfl⟩ := hp
  have hP : va_P D vwCl [tl_ob a_this 5 [.ref a_inside, .ref a_list, .int (tl_I v_this_length)], tl_ia (cy 3) a_inside 100 v_inside, tl_ia (cy 1) a_list 100 v_list] H := hP
  have hD : va_D A [tl_ob a_this 5 [.ref a_inside, .ref a_list, .int (tl_I v_this_length)], tl_ia (cy 3) a_inside 100 v_inside, tl_ia (cy 1) a_list 100 v_list] := hD
  refine W.eq (g2 := F0 m 4 ls [.int (tl_I z1)]) rfl ?_
  refine tr_if_eq (tgt := 52) hx hb hf dX4_add_4 (by decide) (fun hc hf => ?_) (fun hc hf => ?_)
  · injection hf with hf
    subst hf
    exact W.vret hx hb hr (fun t ht hW => tl_fin hAe ⟨rfl, rfl⟩ (hP.sub (ws' := [tl_ob a_this 5 [.ref a_inside, .ref a_list, .int (tl_I v_this_length)], tl_ia (cy 3) a_inside 100 v_inside, tl_ia (cy 1) a_list 100 v_list]) [0, 1, 2] rfl) hK (hD.sub (ws' := [tl_ob a_this 5 [.ref a_inside, .ref a_list, .int (tl_I v_this_length)], tl_ia (cy 3) a_inside 100 v_inside, tl_ia (cy 1) a_list 100 v_list]) [0, 1, 2] (by decide) rfl) hS ht hW) hS.2.2 dX4_add_52
  · refine lv_aload_n hx hb dX4_add_7 rfl (lv_at hl 0 rfl) ?_
    refine va_get (ci := 5) (v := .ref a_inside) (C := RX4) (T := TX4) (N := 3) hx hb hts in_X4 hown hK hP 0 rfl rfl 0 (by decide) (hts _ tw_137) (fun _ h9 => h9) rfl dX4_add_8 ?_
    refine lv_iload_n hx hb dX4_add_11 rfl (lv_at hl 1 rfl) ?_
    refine tr_zald hx hb hf hK hP 1 3 rfl rfl (by decide) dX4_add_12 (fun hf => ?_)
    refine tr_if_ne (tgt := 52) hx hb hf dX4_add_13 (by decide) (fun hc hf => ?_) (fun hc hf => ?_)
    · refine lv_aload_n hx hb dX4_add_16 rfl (lv_at hl 0 rfl) ?_
      refine va_get (ci := 5) (v := .int (tl_I v_this_length)) (C := RX4) (T := TX4) (N := 3) hx hb hts in_X4 hown hK hP 0 rfl rfl 2 (by decide) (hts _ tw_139) (fun _ h9 => h9) rfl dX4_add_17 ?_
      refine lv_bipush (v := tl_I (100 : Int)) hx hb dX4_add_20 rfl ?_
      refine tr_icmp_ge (tgt := 52) hx hb hf dX4_add_22 (by decide) (fun hc hf => ?_) (fun hc hf => ?_)
      · refine lv_aload_n hx hb dX4_add_25 rfl (lv_at hl 0 rfl) ?_
        refine va_get (ci := 5) (v := .ref a_inside) (C := RX4) (T := TX4) (N := 3) hx hb hts in_X4 hown hK hP 0 rfl rfl 0 (by decide) (hts _ tw_137) (fun _ h9 => h9) rfl dX4_add_26 ?_
        refine lv_iload_n hx hb dX4_add_29 rfl (lv_at hl 1 rfl) ?_
        refine lv_iconst (v := tl_I (1 : Int)) hx hb dX4_add_30 rfl ?_
        refine tr_zast hx hb hf hK hP hD hS 1 3 rfl rfl (by decide) dX4_add_31 (fun hf H locs hP hD hS => ?_)
        have hP : va_P D vwCl [tl_ob a_this 5 [.ref a_inside, .ref a_list, .int (tl_I v_this_length)], tl_ia (cy 3) a_inside 100 (va_up v_inside p1.toNat (1 : Int)), tl_ia (cy 1) a_list 100 v_list] H := hP
        have hD : va_D A [tl_ob a_this 5 [.ref a_inside, .ref a_list, .int (tl_I v_this_length)], tl_ia (cy 3) a_inside 100 (va_up v_inside p1.toNat (1 : Int)), tl_ia (cy 1) a_list 100 v_list] := hD
        refine lv_aload_n hx hb dX4_add_32 rfl (lv_at hl 0 rfl) ?_
        refine va_get (ci := 5) (v := .ref a_list) (C := RX4) (T := TX4) (N := 3) hx hb hts in_X4 hown hK hP 0 rfl rfl 1 (by decide) (hts _ tw_138) (fun _ h9 => h9) rfl dX4_add_33 ?_
        refine lv_aload_n hx hb dX4_add_36 rfl (lv_at hl 0 rfl) ?_
        refine va_get (ci := 5) (v := .int (tl_I v_this_length)) (C := RX4) (T := TX4) (N := 3) hx hb hts in_X4 hown hK hP 0 rfl rfl 2 (by decide) (hts _ tw_139) (fun _ h9 => h9) rfl dX4_add_37 ?_
        refine lv_iload_n hx hb dX4_add_40 rfl (lv_at hl 1 rfl) ?_
        refine tr_iast hx hb hf hK hP hD hS 2 1 rfl rfl (by decide) dX4_add_41 (fun hf H locs hP hD hS => ?_)
        have hP : va_P D vwCl [tl_ob a_this 5 [.ref a_inside, .ref a_list, .int (tl_I v_this_length)], tl_ia (cy 3) a_inside 100 (va_up v_inside p1.toNat (1 : Int)), tl_ia (cy 1) a_list 100 (va_up v_list v_this_length.toNat p1)] H := hP
        have hD : va_D A [tl_ob a_this 5 [.ref a_inside, .ref a_list, .int (tl_I v_this_length)], tl_ia (cy 3) a_inside 100 (va_up v_inside p1.toNat (1 : Int)), tl_ia (cy 1) a_list 100 (va_up v_list v_this_length.toNat p1)] := hD
        refine lv_aload_n hx hb dX4_add_42 rfl (lv_at hl 0 rfl) ?_
        refine lv_dup hx hb dX4_add_43 rfl ?_
        refine va_get (ci := 5) (v := .int (tl_I v_this_length)) (C := RX4) (T := TX4) (N := 3) hx hb hts in_X4 hown hK hP 0 rfl rfl 2 (by decide) (hts _ tw_139) (fun _ h9 => h9) rfl dX4_add_44 ?_
        refine lv_iconst (v := tl_I (1 : Int)) hx hb dX4_add_47 rfl ?_
        refine tr_iadd hx hb dX4_add_48 ?_
        refine va_put (ci := 5) (v := .int (tl_I (v_this_length + (1 : Int)))) (ty := .int) (C := RX4) (T := TX4) (N := 3) hx hb hts in_X4 tyX4 tyX4_ok nmX4 hown hK hP hD hS 0 rfl rfl 2 (by decide) (hts _ tw_139) (fun _ h9 => h9) rfl (by decide +kernel) rfl rfl (Nat.le_of_ble_eq_true rfl) dX4_add_49 (fun H locs hP hD hS => ?_)
        have hP : va_P D vwCl [tl_ob a_this 5 [.ref a_inside, .ref a_list, .int (tl_I (v_this_length + (1 : Int)))], tl_ia (cy 3) a_inside 100 (va_up v_inside p1.toNat (1 : Int)), tl_ia (cy 1) a_list 100 (va_up v_list v_this_length.toNat p1)] H := hP
        have hD : va_D A [tl_ob a_this 5 [.ref a_inside, .ref a_list, .int (tl_I (v_this_length + (1 : Int)))], tl_ia (cy 3) a_inside 100 (va_up v_inside p1.toNat (1 : Int)), tl_ia (cy 1) a_list 100 (va_up v_list v_this_length.toNat p1)] := hD
        injection hf with hf
        subst hf
        exact W.vret hx hb hr (fun t ht hW => tl_fin hAe ⟨rfl, rfl⟩ (hP.sub (ws' := [tl_ob a_this 5 [.ref a_inside, .ref a_list, .int (tl_I (v_this_length + (1 : Int)))], tl_ia (cy 3) a_inside 100 (va_up v_inside p1.toNat (1 : Int)), tl_ia (cy 1) a_list 100 (va_up v_list v_this_length.toNat p1)]) [0, 1, 2] rfl) hK (hD.sub (ws' := [tl_ob a_this 5 [.ref a_inside, .ref a_list, .int (tl_I (v_this_length + (1 : Int)))], tl_ia (cy 3) a_inside 100 (va_up v_inside p1.toNat (1 : Int)), tl_ia (cy 1) a_list 100 (va_up v_list v_this_length.toNat p1)]) [0, 1, 2] (by decide) rfl) hS ht hW) hS.2.2 dX4_add_52
      · injection hf with hf
        subst hf
        exact W.vret hx hb hr (fun t ht hW => tl_fin hAe ⟨rfl, rfl⟩ (hP.sub (ws' := [tl_ob a_this 5 [.ref a_inside, .ref a_list, .int (tl_I v_this_length)], tl_ia (cy 3) a_inside 100 v_inside, tl_ia (cy 1) a_list 100 v_list]) [0, 1, 2] rfl) hK (hD.sub (ws' := [tl_ob a_this 5 [.ref a_inside, .ref a_list, .int (tl_I v_this_length)], tl_ia (cy 3) a_inside 100 v_inside, tl_ia (cy 1) a_list 100 v_list]) [0, 1, 2] (by decide) rfl) hS ht hW) hS.2.2 dX4_add_52
    · injection hf with hf
      subst hf
      exact W.vret hx hb hr (fun t ht hW => tl_fin hAe ⟨rfl, rfl⟩ (hP.sub (ws' := [tl_ob a_this 5 [.ref a_inside, .ref a_list, .int (tl_I v_this_length)], tl_ia (cy 3) a_inside 100 v_inside, tl_ia (cy 1) a_list 100 v_list]) [0, 1, 2] rfl) hK (hD.sub (ws' := [tl_ob a_this 5 [.ref a_inside, .ref a_list, .int (tl_I v_this_length)], tl_ia (cy 3) a_inside 100 v_inside, tl_ia (cy 1) a_list 100 v_list]) [0, 1, 2] (by decide) rfl) hS ht hW) hS.2.2 dX4_add_52
set_option maxHeartbeats 4000000 in
set_option maxRecDepth 100000 in
theorem kt_X4_clear (l : Launch) (D : va_G) (cy : Nat → ClassId) (a_this a_inside a_list : Nat) (v_this_length : Int) (v_inside : Nat → Int) (v_list : Nat → Int)  (z : (Nat → Int) × Int) (hf : fX4_clear v_this_length v_inside v_list = some z) :
    tl_MC l D (tl_tys cy) yX4_clear (tl_w yX4_clear cX4_clear 3 none) { frames := 1, cells := 0, slots := 0, locals := 20 } [.ref a_this] [tl_ob a_this 5 [.ref a_inside, .ref a_list, .int (tl_I v_this_length)], tl_ia (cy 3) a_inside 100 v_inside, tl_ia (cy 1) a_list 100 v_list] 0 0 (fun v w1 => v = none ∧ w1 = [tl_ob a_this 5 [.ref a_inside, .ref a_list, .int (tl_I z.2)], tl_ia (cy 3) a_inside 100 z.1, tl_ia (cy 1) a_list 100 v_list]) := by
  refine tl_ofW (cc := cX4_clear) (maxL := 3) (ret := none) (by decide +kernel) (Nat.le_of_ble_eq_true rfl) ?_
  intro p e s m below meth c hx hb hr hml hts hown hlocks hnm A hAe hA hP hK hD hS ls hl
  have hl : lv_has ls 3 [(0, .ref a_this)] := hl
  unfold fX4_clear at hf
  refine lv_iconst (v := tl_I (0 : Int)) hx hb dX4_clear_0 rfl ?_
  refine lv_istore_n (lv' := [(1, .int (tl_I (0 : Int))), (0, .ref a_this)]) hx hb dX4_clear_1 rfl hl (by decide) rfl (fun ls hl => ?_)
  have lp1 : ∀ (n : Nat) (x1 : Int) (x2 : Nat → Int) (outL1 : Nat → Int), fX4_clear_L1 v_this_length v_list n x1 x2 = some outL1 → ∀ (H : Heap) (locs : List Loc) (ls : Array Slot), va_P D vwCl [tl_ob a_this 5 [.ref a_inside, .ref a_list, .int (tl_I v_this_length)], tl_ia (cy 3) a_inside 100 x2, tl_ia (cy 1) a_list 100 v_list] H → va_D A [tl_ob a_this 5 [.ref a_inside, .ref a_list, .int (tl_I v_this_length)], tl_ia (cy 3) a_inside 100 x2, tl_ia (cy 1) a_list 100 v_list] → va_S A s.heap H locs → lv_has ls 3 [(1, .int (tl_I x1)), (0, .ref a_this)] → (∀ (x2 : Nat → Int), outL1 = x2 → ∀ (H : Heap) (locs : List Loc) (ls : Array Slot), va_P D vwCl [tl_ob a_this 5 [.ref a_inside, .ref a_list, .int (tl_I v_this_length)], tl_ia (cy 3) a_inside 100 x2, tl_ia (cy 1) a_list 100 v_list] H → va_D A [tl_ob a_this 5 [.ref a_inside, .ref a_list, .int (tl_I v_this_length)], tl_ia (cy 3) a_inside 100 x2, tl_ia (cy 1) a_list 100 v_list] → va_S A s.heap H locs → lv_has ls 3 [(0, .ref a_this)] → W p l e { frames := 1, cells := 0, slots := 0, locals := 20 } s m ([.ref a_this] : List Value).toArray below meth c H locs 0 0 (MQ below (tl_Q D (tl_tys cy) [tl_ob a_this 5 [.ref a_inside, .ref a_list, .int (tl_I v_this_length)], tl_ia (cy 3) a_inside 100 v_inside, tl_ia (cy 1) a_list 100 v_list] s.heap.size (fun v w1 => v = none ∧ w1 = [tl_ob a_this 5 [.ref a_inside, .ref a_list, .int (tl_I z.2)], tl_ia (cy 3) a_inside 100 z.1, tl_ia (cy 1) a_list 100 v_list])) ([.ref a_this] : List Value).toArray s 0 0 A) (F0 m 37 ls [])) → W p l e { frames := 1, cells := 0, slots := 0, locals := 20 } s m ([.ref a_this] : List Value).toArray below meth c H locs 0 0 (MQ below (tl_Q D (tl_tys cy) [tl_ob a_this 5 [.ref a_inside, .ref a_list, .int (tl_I v_this_length)], tl_ia (cy 3) a_inside 100 v_inside, tl_ia (cy 1) a_list 100 v_list] s.heap.size (fun v w1 => v = none ∧ w1 = [tl_ob a_this 5 [.ref a_inside, .ref a_list, .int (tl_I z.2)], tl_ia (cy 3) a_inside 100 z.1, tl_ia (cy 1) a_list 100 v_list])) ([.ref a_this] : List Value).toArray s 0 0 A) (F0 m 2 ls []) := by
    intro n
    induction n with
    | zero =>
      intro x1 x2 outL1 hf
      cases hf
    | succ n ih =>
      intro x1 x2 outL1 hf H locs ls hP hD hS hl hE
      rw [fX4_clear_L1] at hf
      refine lv_iload_n hx hb dX4_clear_2 rfl (lv_at hl 0 rfl) ?_
      refine lv_aload_n hx hb dX4_clear_3 rfl (lv_at hl 1 rfl) ?_
      refine va_get (ci := 5) (v := .int (tl_I v_this_length)) (C := RX4) (T := TX4) (N := 3) hx hb hts in_X4 hown hK hP 0 rfl rfl 2 (by decide) (hts _ tw_139) (fun _ h9 => h9) rfl dX4_clear_4 ?_
      refine tr_icmp_ge (tgt := 37) hx hb hf dX4_clear_7 (by decide) (fun hc hf => ?_) (fun hc hf => ?_)
      · refine lv_aload_n hx hb dX4_clear_10 rfl (lv_at hl 1 rfl) ?_
        refine va_get (ci := 5) (v := .ref a_list) (C := RX4) (T := TX4) (N := 3) hx hb hts in_X4 hown hK hP 0 rfl rfl 1 (by decide) (hts _ tw_138) (fun _ h9 => h9) rfl dX4_clear_11 ?_
        refine lv_iload_n hx hb dX4_clear_14 rfl (lv_at hl 0 rfl) ?_
        refine tr_iald hx hb hf hK hP 2 1 rfl rfl (by decide) dX4_clear_15 (fun hf => ?_)
        refine lv_istore_n (lv' := [(2, .int (tl_I (v_list x1.toNat))), (1, .int (tl_I x1)), (0, .ref a_this)]) hx hb dX4_clear_16 rfl hl (by decide) rfl (fun ls hl => ?_)
        refine lv_iload_n hx hb dX4_clear_17 rfl (lv_at hl 0 rfl) ?_
        obtain ⟨z3, hz, hf⟩ := tl_bs hf
        refine tl_callS0 (As := [.int (tl_I (v_list x1.toNat))]) (rest := []) (wr := [tl_ob a_this 5 [.ref a_inside, .ref a_list, .int (tl_I v_this_length)], tl_ia (cy 3) a_inside 100 x2, tl_ia (cy 1) a_list 100 v_list]) ⟨hx, hb, hml, hown, hts⟩ (kt_X4_isSlot l D cy (v_list x1.toNat) z3 hz) (va_cwS 1 hts tg_X4_23 rfl rfl rfl td_X4_isSlot ⟨by decide, by decide⟩) hK hP hD hS hA [] [0, 1, 2] rfl rfl rfl rfl (by decide) rfl hl.1 rfl (Nat.le_of_ble_eq_true rfl) dX4_clear_18 ⟨by decide, by decide⟩ (fun v w1 H locs hp hP hD hS => ?_)
        obtain ⟨rfl, rfl⟩ := hp
        have hP : va_P D vwCl [tl_ob a_this 5 [.ref a_inside, .ref a_list, .int (tl_I v_this_length)], tl_ia (cy 3) a_inside 100 x2, tl_ia (cy 1) a_list 100 v_list] H := hP
        have hD : va_D A [tl_ob a_this 5 [.ref a_inside, .ref a_list, .int (tl_I v_this_length)], tl_ia (cy 3) a_inside 100 x2, tl_ia (cy 1) a_list 100 v_list] := hD
        refine W.eq (g2 := F0 m 21 ls [.int (tl_I z3)]) rfl ?_
        refine tr_if_eq (tgt := 31) hx hb hf dX4_clear_21 (by decide) (fun hc hf => ?_) (fun hc hf => ?_)
        · refine lv_iinc (v := tl_I (x1 + 1)) (lv' := [(1, .int (tl_I (x1 + 1))), (2, .int (tl_I (v_list x1.toNat))), (0, .ref a_this)]) hx hb dX4_clear_31 hl (k := 1) rfl (tl_add _ _) (by decide) rfl (fun ls hl => ?_)
          refine lv_goto (tgt := 2) hx hb dX4_clear_34 (by decide) ?_
          exact ih (x1 + 1) x2 outL1 hf _ _ _ (hP.sub (ws' := [tl_ob a_this 5 [.ref a_inside, .ref a_list, .int (tl_I v_this_length)], tl_ia (cy 3) a_inside 100 x2, tl_ia (cy 1) a_list 100 v_list]) [0, 1, 2] rfl) (hD.sub (ws' := [tl_ob a_this 5 [.ref a_inside, .ref a_list, .int (tl_I v_this_length)], tl_ia (cy 3) a_inside 100 x2, tl_ia (cy 1) a_list 100 v_list]) [0, 1, 2] (by decide) rfl) hS (lv_sub hl [0, 2] rfl) hE
        · refine lv_aload_n hx hb dX4_clear_24 rfl (lv_at hl 2 rfl) ?_
          refine va_get (ci := 5) (v := .ref a_inside) (C := RX4) (T := TX4) (N := 3) hx hb hts in_X4 hown hK hP 0 rfl rfl 0 (by decide) (hts _ tw_137) (fun _ h9 => h9) rfl dX4_clear_25 ?_
          refine lv_iload_n hx hb dX4_clear_28 rfl (lv_at hl 0 rfl) ?_
          refine lv_iconst (v := tl_I (0 : Int)) hx hb dX4_clear_29 rfl ?_
          refine tr_zast hx hb hf hK hP hD hS 1 3 rfl rfl (by decide) dX4_clear_30 (fun hf H locs hP hD hS => ?_)
          have hP : va_P D vwCl [tl_ob a_this 5 [.ref a_inside, .ref a_list, .int (tl_I v_this_length)], tl_ia (cy 3) a_inside 100 (va_up x2 ((v_list x1.toNat).toNat) (0 : Int)), tl_ia (cy 1) a_list 100 v_list] H := hP
          have hD : va_D A [tl_ob a_this 5 [.ref a_inside, .ref a_list, .int (tl_I v_this_length)], tl_ia (cy 3) a_inside 100 (va_up x2 ((v_list x1.toNat).toNat) (0 : Int)), tl_ia (cy 1) a_list 100 v_list] := hD
          refine lv_iinc (v := tl_I (x1 + 1)) (lv' := [(1, .int (tl_I (x1 + 1))), (2, .int (tl_I (v_list x1.toNat))), (0, .ref a_this)]) hx hb dX4_clear_31 hl (k := 1) rfl (tl_add _ _) (by decide) rfl (fun ls hl => ?_)
          refine lv_goto (tgt := 2) hx hb dX4_clear_34 (by decide) ?_
          exact ih (x1 + 1) (va_up x2 ((v_list x1.toNat).toNat) (0 : Int)) outL1 hf _ _ _ (hP.sub (ws' := [tl_ob a_this 5 [.ref a_inside, .ref a_list, .int (tl_I v_this_length)], tl_ia (cy 3) a_inside 100 (va_up x2 ((v_list x1.toNat).toNat) (0 : Int)), tl_ia (cy 1) a_list 100 v_list]) [0, 1, 2] rfl) (hD.sub (ws' := [tl_ob a_this 5 [.ref a_inside, .ref a_list, .int (tl_I v_this_length)], tl_ia (cy 3) a_inside 100 (va_up x2 ((v_list x1.toNat).toNat) (0 : Int)), tl_ia (cy 1) a_list 100 v_list]) [0, 1, 2] (by decide) rfl) hS (lv_sub hl [0, 2] rfl) hE
      · injection hf with hf
        subst hf
        exact hE x2 rfl _ _ _ (hP.sub (ws' := [tl_ob a_this 5 [.ref a_inside, .ref a_list, .int (tl_I v_this_length)], tl_ia (cy 3) a_inside 100 x2, tl_ia (cy 1) a_list 100 v_list]) [0, 1, 2] rfl) (hD.sub (ws' := [tl_ob a_this 5 [.ref a_inside, .ref a_list, .int (tl_I v_this_length)], tl_ia (cy 3) a_inside 100 x2, tl_ia (cy 1) a_list 100 v_list]) [0, 1, 2] (by decide) rfl) hS (lv_sub hl [1] rfl)
  obtain ⟨o, hz, hf⟩ := tl_bs hf
  refine lp1 tl_N (0 : Int) v_inside o hz _ _ _ (hP.sub (ws' := [tl_ob a_this 5 [.ref a_inside, .ref a_list, .int (tl_I v_this_length)], tl_ia (cy 3) a_inside 100 v_inside, tl_ia (cy 1) a_list 100 v_list]) [0, 1, 2] rfl) (hD.sub (ws' := [tl_ob a_this 5 [.ref a_inside, .ref a_list, .int (tl_I v_this_length)], tl_ia (cy 3) a_inside 100 v_inside, tl_ia (cy 1) a_list 100 v_list]) [0, 1, 2] (by decide) rfl) hS (lv_sub hl [0, 1] rfl) ?_
  intro x2 ho H locs ls hP hD hS hl
  rw [ho] at hf
  try dsimp only at hf
  refine lv_aload_n hx hb dX4_clear_37 rfl (lv_at hl 0 rfl) ?_
  refine lv_iconst (v := tl_I (0 : Int)) hx hb dX4_clear_38 rfl ?_
  refine va_put (ci := 5) (v := .int (tl_I (0 : Int))) (ty := .int) (C := RX4) (T := TX4) (N := 3) hx hb hts in_X4 tyX4 tyX4_ok nmX4 hown hK hP hD hS 0 rfl rfl 2 (by decide) (hts _ tw_139) (fun _ h9 => h9) rfl (by decide +kernel) rfl rfl (Nat.le_of_ble_eq_true rfl) dX4_clear_39 (fun H locs hP hD hS => ?_)
  have hP : va_P D vwCl [tl_ob a_this 5 [.ref a_inside, .ref a_list, .int (tl_I (0 : Int))], tl_ia (cy 3) a_inside 100 x2, tl_ia (cy 1) a_list 100 v_list] H := hP
  have hD : va_D A [tl_ob a_this 5 [.ref a_inside, .ref a_list, .int (tl_I (0 : Int))], tl_ia (cy 3) a_inside 100 x2, tl_ia (cy 1) a_list 100 v_list] := hD
  injection hf with hf
  subst hf
  exact W.vret hx hb hr (fun t ht hW => tl_fin hAe ⟨rfl, rfl⟩ (hP.sub (ws' := [tl_ob a_this 5 [.ref a_inside, .ref a_list, .int (tl_I (0 : Int))], tl_ia (cy 3) a_inside 100 x2, tl_ia (cy 1) a_list 100 v_list]) [0, 1, 2] rfl) hK (hD.sub (ws' := [tl_ob a_this 5 [.ref a_inside, .ref a_list, .int (tl_I (0 : Int))], tl_ia (cy 3) a_inside 100 x2, tl_ia (cy 1) a_list 100 v_list]) [0, 1, 2] (by decide) rfl) hS ht hW) hS.2.2 dX4_clear_42
