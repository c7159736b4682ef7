set_option maxHeartbeats 4000000 in
set_option maxRecDepth 100000 in
theorem kt_X6_length (l : Launch) (D : va_G) (cy : Nat → ClassId) (a_this a_numbers : Nat) (v_this_length : Int)  (z : Int) (hf : fX6_length v_this_length = some z) :
    tl_MC l D (tl_tys cy) yX6_length (tl_w yX6_length cX6_length 1 (some .int)) { frames := 0, cells := 0, slots := 0, locals := 0 } [.ref a_this] [tl_ob a_this 7 [.ref a_numbers, .int (tl_I v_this_length)]] 0 0 (fun v w1 => v = some (.int (tl_I z)) ∧ w1 = [tl_ob a_this 7 [.ref a_numbers, .int (tl_I v_this_length)]]) := by
  refine tl_ofW (cc := cX6_length) (maxL := 1) (ret := (some .int)) (by decide +kernel) (Nat.le_of_ble_eq_true rfl) ?_
  intro p e s m below meth c hx hb hr hml hts hown hlocks hnm A hAe hA hP hK hD hS ls hl
  have hl : lv_has ls 1 [(0, .ref a_this)] := hl
  unfold fX6_length at hf
  refine lv_aload_n hx hb dX6_length_0 rfl (lv_at hl 0 rfl) ?_
  refine va_get (ci := 7) (v := .int (tl_I v_this_length)) (C := RX6) (T := TX6) (N := 2) hx hb hts in_X6 hown hK hP 0 rfl rfl 1 (by decide) (hts _ tw_119) (fun _ h9 => h9) rfl dX6_length_1 ?_
  injection hf with hf
  subst hf
  exact W.iret (v := tl_I v_this_length) hx hb hr (fun t ht hW => tl_fin hAe ⟨rfl, rfl⟩ (hP.sub (ws' := [tl_ob a_this 7 [.ref a_numbers, .int (tl_I v_this_length)]]) [0] rfl) hK (hD.sub (ws' := [tl_ob a_this 7 [.ref a_numbers, .int (tl_I v_this_length)]]) [0] (by decide) rfl) hS ht hW) hS.2.2 dX6_length_4
set_option maxHeartbeats 4000000 in
set_option maxRecDepth 100000 in
theorem kt_X6_get (l : Launch) (D : va_G) (cy : Nat → ClassId) (a_this a_numbers : Nat) (v_this_length : Int) (v_numbers : Nat → Int) (p1 : Int)  (z : Int) (hf : fX6_get v_this_length v_numbers p1 = some z) :
    tl_MC l D (tl_tys cy) yX6_get (tl_w yX6_get cX6_get 2 (some .int)) { frames := 0, cells := 0, slots := 0, locals := 0 } [.ref a_this, .int (tl_I p1)] [tl_ob a_this 7 [.ref a_numbers, .int (tl_I v_this_length)], tl_ia (cy 1) a_numbers 100 v_numbers] 0 0 (fun v w1 => v = some (.int (tl_I z)) ∧ w1 = [tl_ob a_this 7 [.ref a_numbers, .int (tl_I v_this_length)], tl_ia (cy 1) a_numbers 100 v_numbers]) := by
  refine tl_ofW (cc := cX6_get) (maxL := 2) (ret := (some .int)) (by decide +kernel) (Nat.le_of_ble_eq_true rfl) ?_
  intro p e s m below meth c hx hb hr hml hts hown hlocks hnm A hAe hA hP hK hD hS ls hl
  have hl : lv_has ls 2 [(0, .ref a_this), (1, .int (tl_I p1))] := hl
  unfold fX6_get at hf
  refine lv_iload_n hx hb dX6_get_0 rfl (lv_at hl 1 rfl) ?_
  refine tr_if_lt (tgt := 21) hx hb hf dX6_get_1 (by decide) (fun hc hf => ?_) (fun hc hf => ?_)
  · refine lv_iconst (v := tl_I (-1 : Int)) hx hb dX6_get_21 rfl ?_
    injection hf with hf
    subst hf
    exact W.iret (v := tl_I (-1 : Int)) hx hb hr (fun t ht hW => tl_fin hAe ⟨rfl, rfl⟩ (hP.sub (ws' := [tl_ob a_this 7 [.ref a_numbers, .int (tl_I v_this_length)], tl_ia (cy 1) a_numbers 100 v_numbers]) [0, 1] rfl) hK (hD.sub (ws' := [tl_ob a_this 7 [.ref a_numbers, .int (tl_I v_this_length)], tl_ia (cy 1) a_numbers 100 v_numbers]) [0, 1] (by decide) rfl) hS ht hW) hS.2.2 dX6_get_22
  · refine lv_iload_n hx hb dX6_get_4 rfl (lv_at hl 1 rfl) ?_
    refine lv_aload_n hx hb dX6_get_5 rfl (lv_at hl 0 rfl) ?_
    refine va_get (ci := 7) (v := .int (tl_I v_this_length)) (C := RX6) (T := TX6) (N := 2) hx hb hts in_X6 hown hK hP 0 rfl rfl 1 (by decide) (hts _ tw_119) (fun _ h9 => h9) rfl dX6_get_6 ?_
    refine tr_icmp_ge (tgt := 21) hx hb hf dX6_get_9 (by decide) (fun hc hf => ?_) (fun hc hf => ?_)
    · refine lv_aload_n hx hb dX6_get_12 rfl (lv_at hl 0 rfl) ?_
      refine va_get (ci := 7) (v := .ref a_numbers) (C := RX6) (T := TX6) (N := 2) hx hb hts in_X6 hown hK hP 0 rfl rfl 0 (by decide) (hts _ tw_118) (fun _ h9 => h9) rfl dX6_get_13 ?_
      refine lv_iload_n hx hb dX6_get_16 rfl (lv_at hl 1 rfl) ?_
      refine tr_iald hx hb hf hK hP 1 1 rfl rfl (by decide) dX6_get_17 (fun hf => ?_)
      refine lv_goto (tgt := 22) hx hb dX6_get_18 (by decide) ?_
      injection hf with hf
      subst hf
      exact W.iret (v := tl_I (v_numbers p1.toNat)) hx hb hr (fun t ht hW => tl_fin hAe ⟨rfl, rfl⟩ (hP.sub (ws' := [tl_ob a_this 7 [.ref a_numbers, .int (tl_I v_this_length)], tl_ia (cy 1) a_numbers 100 v_numbers]) [0, 1] rfl) hK (hD.sub (ws' := [tl_ob a_this 7 [.ref a_numbers, .int (tl_I v_this_length)], tl_ia (cy 1) a_numbers 100 v_numbers]) [0, 1] (by decide) rfl) hS ht hW) hS.2.2 dX6_get_22
    · refine lv_iconst (v := tl_I (-1 : Int)) hx hb dX6_get_21 rfl ?_
      injection hf with hf
      subst hf
      exact W.iret (v := tl_I (-1 : Int)) hx hb hr (fun t ht hW => tl_fin hAe ⟨rfl, rfl⟩ (hP.sub (ws' := [tl_ob a_this 7 [.ref a_numbers, .int (tl_I v_this_length)], tl_ia (cy 1) a_numbers 100 v_numbers]) [0, 1] rfl) hK (hD.sub (ws' := [tl_ob a_this 7 [.ref a_numbers, .int (tl_I v_this_length)], tl_ia (cy 1) a_numbers 100 v_numbers]) [0, 1] (by decide) rfl) hS ht hW) hS.2.2 dX6_get_22
set_option maxHeartbeats 4000000 in
set_option maxRecDepth 100000 in
theorem kt_X6_clear (l : Launch) (D : va_G) (cy : Nat → ClassId) (a_this a_numbers : Nat) (v_this_length : Int)  (z : Int) (hf : fX6_clear v_this_length = some z) :
    tl_MC l D (tl_tys cy) yX6_clear (tl_w yX6_clear cX6_clear 1 none) { frames := 0, cells := 0, slots := 0, locals := 0 } [.ref a_this] [tl_ob a_this 7 [.ref a_numbers, .int (tl_I v_this_length)]] 0 0 (fun v w1 => v = none ∧ w1 = [tl_ob a_this 7 [.ref a_numbers, .int (tl_I z)]]) := by
  refine tl_ofW (cc := cX6_clear) (maxL := 1) (ret := none) (by decide +kernel) (Nat.le_of_ble_eq_true rfl) ?_
  intro p e s m below meth c hx hb hr hml hts hown hlocks hnm A hAe hA hP hK hD hS ls hl
  have hl : lv_has ls 1 [(0, .ref a_this)] := hl
  unfold fX6_clear at hf
  refine lv_aload_n hx hb dX6_clear_0 rfl (lv_at hl 0 rfl) ?_
  refine lv_iconst (v := tl_I (0 : Int)) hx hb dX6_clear_1 rfl ?_
  refine va_put (ci := 7) (v := .int (tl_I (0 : Int))) (ty := .int) (C := RX6) (T := TX6) (N := 2) hx hb hts in_X6 tyX6 tyX6_ok nmX6 hown hK hP hD hS 0 rfl rfl 1 (by decide) (hts _ tw_119) (fun _ h9 => h9) rfl (by decide +kernel) rfl rfl (Nat.le_of_ble_eq_true rfl) dX6_clear_2 (fun H locs hP hD hS => ?_)
  have hP : va_P D vwCl [tl_ob a_this 7 [.ref a_numbers, .int (tl_I (0 : Int))]] H := hP
  have hD : va_D A [tl_ob a_this 7 [.ref a_numbers, .int (tl_I (0 : Int))]] := hD
  injection hf with hf
  subst hf
  exact W.vret hx hb hr (fun t ht hW => tl_fin hAe ⟨rfl, rfl⟩ (hP.sub (ws' := [tl_ob a_this 7 [.ref a_numbers, .int (tl_I (0 : Int))]]) [0] rfl) hK (hD.sub (ws' := [tl_ob a_this 7 [.ref a_numbers, .int (tl_I (0 : Int))]]) [0] (by decide) rfl) hS ht hW) hS.2.2 dX6_clear_5
set_option maxHeartbeats 4000000 in
set_option maxRecDepth 100000 in
theorem kt_X6_add (l : Launch) (D : va_G) (cy : Nat → ClassId) (a_this a_numbers : Nat) (v_this_length : Int) (v_numbers : Nat → Int) (p1 : Int)  (z : (Nat → Int) × Int) (hf : fX6_add v_this_length v_numbers p1 = some z) :
    tl_MC l D (tl_tys cy) yX6_add (tl_w yX6_add cX6_add 2 none) { frames := 0, cells := 0, slots := 0, locals := 0 } [.ref a_this, .int (tl_I p1)] [tl_ob a_this 7 [.ref a_numbers, .int (tl_I v_this_length)], tl_ia (cy 1) a_numbers 100 v_numbers] 0 0 (fun v w1 => v = none ∧ w1 = [tl_ob a_this 7 [.ref a_numbers, .int (tl_I z.2)], tl_ia (cy 1) a_numbers 100 z.1]) := by
  refine tl_ofW (cc := cX6_add) (maxL := 2) (ret := none) (by decide +kernel) (Nat.le_of_ble_eq_true rfl) ?_
  intro p e s m below meth c hx hb hr hml hts hown hlocks hnm A hAe hA hP hK hD hS ls hl
  have hl : lv_has ls 2 [(0, .ref a_this), (1, .int (tl_I p1))] := hl
  unfold fX6_add at hf
  refine lv_aload_n hx hb dX6_add_0 rfl (lv_at hl 0 rfl) ?_
  refine va_get (ci := 7) (v := .int (tl_I v_this_length)) (C := RX6) (T := TX6) (N := 2) hx hb hts in_X6 hown hK hP 0 rfl rfl 1 (by decide) (hts _ tw_119) (fun _ h9 => h9) rfl dX6_add_1 ?_
  refine lv_bipush (v := tl_I (100 : Int)) hx hb dX6_add_4 rfl ?_
  refine tr_icmp_ge (tgt := 29) hx hb hf dX6_add_6 (by decide) (fun hc hf => ?_) (fun hc hf => ?_)
  · refine lv_aload_n hx hb dX6_add_9 rfl (lv_at hl 0 rfl) ?_
    refine va_get (ci := 7) (v := .ref a_numbers) (C := RX6) (T := TX6) (N := 2) hx hb hts in_X6 hown hK hP 0 rfl rfl 0 (by decide) (hts _ tw_118) (fun _ h9 => h9) rfl dX6_add_10 ?_
    refine lv_aload_n hx hb dX6_add_13 rfl (lv_at hl 0 rfl) ?_
    refine va_get (ci := 7) (v := .int (tl_I v_this_length)) (C := RX6) (T := TX6) (N := 2) hx hb hts in_X6 hown hK hP 0 rfl rfl 1 (by decide) (hts _ tw_119) (fun _ h9 => h9) rfl dX6_add_14 ?_
    refine lv_iload_n hx hb dX6_add_17 rfl (lv_at hl 1 rfl) ?_
    refine tr_iast hx hb hf hK hP hD hS 1 1 rfl rfl (by decide) dX6_add_18 (fun hf H locs hP hD hS => ?_)
    have hP : va_P D vwCl [tl_ob a_this 7 [.ref a_numbers, .int (tl_I v_this_length)], tl_ia (cy 1) a_numbers 100 (va_up v_numbers v_this_length.toNat p1)] H := hP
    have hD : va_D A [tl_ob a_this 7 [.ref a_numbers, .int (tl_I v_this_length)], tl_ia (cy 1) a_numbers 100 (va_up v_numbers v_this_length.toNat p1)] := hD
    refine lv_aload_n hx hb dX6_add_19 rfl (lv_at hl 0 rfl) ?_
    refine lv_dup hx hb dX6_add_20 rfl ?_
    refine va_get (ci := 7) (v := .int (tl_I v_this_length)) (C := RX6) (T := TX6) (N := 2) hx hb hts in_X6 hown hK hP 0 rfl rfl 1 (by decide) (hts _ tw_119) (fun _ h9 => h9) rfl dX6_add_21 ?_
    refine lv_iconst (v := tl_I (1 : Int)) hx hb dX6_add_24 rfl ?_
    refine tr_iadd hx hb dX6_add_25 ?_
    refine va_put (ci := 7) (v := .int (tl_I (v_this_length + (1 : Int)))) (ty := .int) (C := RX6) (T := TX6) (N := 2) hx hb hts in_X6 tyX6 tyX6_ok nmX6 hown hK hP hD hS 0 rfl rfl 1 (by decide) (hts _ tw_119) (fun _ h9 => h9) rfl (by decide +kernel) rfl rfl (Nat.le_of_ble_eq_true rfl) dX6_add_26 (fun H locs hP hD hS => ?_)
    have hP : va_P D vwCl [tl_ob a_this 7 [.ref a_numbers, .int (tl_I (v_this_length + (1 : Int)))], tl_ia (cy 1) a_numbers 100 (va_up v_numbers v_this_length.toNat p1)] H := hP
    have hD : va_D A [tl_ob a_this 7 [.ref a_numbers, .int (tl_I (v_this_length + (1 : Int)))], tl_ia (cy 1) a_numbers 100 (va_up v_numbers v_this_length.toNat p1)] := hD
    injection hf with hf
    subst hf
    exact W.vret hx hb hr (fun t ht hW => tl_fin hAe ⟨rfl, rfl⟩ (hP.sub (ws' := [tl_ob a_this 7 [.ref a_numbers, .int (tl_I (v_this_length + (1 : Int)))], tl_ia (cy 1) a_numbers 100 (va_up v_numbers v_this_length.toNat p1)]) [0, 1] rfl) hK (hD.sub (ws' := [tl_ob a_this 7 [.ref a_numbers, .int (tl_I (v_this_length + (1 : Int)))], tl_ia (cy 1) a_numbers 100 (va_up v_numbers v_this_length.toNat p1)]) [0, 1] (by decide) rfl) hS ht hW) hS.2.2 dX6_add_29
  · injection hf with hf
    subst hf
    exact W.vret hx hb hr (fun t ht hW => tl_fin hAe ⟨rfl, rfl⟩ (hP.sub (ws' := [tl_ob a_this 7 [.ref a_numbers, .int (tl_I v_this_length)], tl_ia (cy 1) a_numbers 100 v_numbers]) [0, 1] rfl) hK (hD.sub (ws' := [tl_ob a_this 7 [.ref a_numbers, .int (tl_I v_this_length)], tl_ia (cy 1) a_numbers 100 v_numbers]) [0, 1] (by decide) rfl) hS ht hW) hS.2.2 dX6_add_29
