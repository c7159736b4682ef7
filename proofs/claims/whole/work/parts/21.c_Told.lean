set_option maxHeartbeats 4000000 in
set_option maxRecDepth 100000 in
theorem kt_X5_howMany (l : Launch) (D : va_G) (cy : Nat → ClassId) (a_this a_from a_to a_forms a_rules : Nat) (v_this_length : Int)  (z : Int) (hf : fX5_howMany v_this_length = some z) :
    tl_MC l D (tl_tys cy) yX5_howMany (tl_w yX5_howMany cX5_howMany 1 (some .int)) { frames := 0, cells := 0, slots := 0, locals := 0 } [.ref a_this] [tl_ob a_this 6 [.ref a_from, .ref a_to, .ref a_forms, .ref a_rules, .int (tl_I v_this_length)]] 0 0 (fun v w1 => v = some (.int (tl_I z)) ∧ w1 = [tl_ob a_this 6 [.ref a_from, .ref a_to, .ref a_forms, .ref a_rules, .int (tl_I v_this_length)]]) := by
  refine tl_ofW (cc := cX5_howMany) (maxL := 1) (ret := (some .int)) (by decide +kernel) (Nat.le_of_ble_eq_true rfl) ?_
  intro p e s m below meth c hx hb hr hml hts hown hlocks hnm A hAe hA hP hK hD hS ls hl
  have hl : lv_has ls 1 [(0, .ref a_this)] := hl
  unfold fX5_howMany at hf
  refine lv_aload_n hx hb dX5_howMany_0 rfl (lv_at hl 0 rfl) ?_
  refine va_get (ci := 6) (v := .int (tl_I v_this_length)) (C := RX5) (T := TX5) (N := 5) hx hb hts in_X5 hown hK hP 0 rfl rfl 4 (by decide) (hts _ tw_99) (fun _ h9 => h9) rfl dX5_howMany_1 ?_
  injection hf with hf
  subst hf
  exact W.iret (v := tl_I v_this_length) hx hb hr (fun t ht hW => tl_fin hAe ⟨rfl, rfl⟩ (hP.sub (ws' := [tl_ob a_this 6 [.ref a_from, .ref a_to, .ref a_forms, .ref a_rules, .int (tl_I v_this_length)]]) [0] rfl) hK (hD.sub (ws' := [tl_ob a_this 6 [.ref a_from, .ref a_to, .ref a_forms, .ref a_rules, .int (tl_I v_this_length)]]) [0] (by decide) rfl) hS ht hW) hS.2.2 dX5_howMany_4
set_option maxHeartbeats 4000000 in
set_option maxRecDepth 100000 in
theorem kt_X5_knows (l : Launch) (D : va_G) (cy : Nat → ClassId) (a_this a_from a_to a_forms a_rules : Nat) (v_this_length : Int) (p1 : Int)  (z : Int) (hf : fX5_knows v_this_length p1 = some z) :
    tl_MC l D (tl_tys cy) yX5_knows (tl_w yX5_knows cX5_knows 2 (some .boolean)) { frames := 0, cells := 0, slots := 0, locals := 0 } [.ref a_this, .int (tl_I p1)] [tl_ob a_this 6 [.ref a_from, .ref a_to, .ref a_forms, .ref a_rules, .int (tl_I v_this_length)]] 0 0 (fun v w1 => v = some (.int (tl_I z)) ∧ w1 = [tl_ob a_this 6 [.ref a_from, .ref a_to, .ref a_forms, .ref a_rules, .int (tl_I v_this_length)]]) := by
  refine tl_ofW (cc := cX5_knows) (maxL := 2) (ret := (some .boolean)) (by decide +kernel) (Nat.le_of_ble_eq_true rfl) ?_
  intro p e s m below meth c hx hb hr hml hts hown hlocks hnm A hAe hA hP hK hD hS ls hl
  have hl : lv_has ls 2 [(0, .ref a_this), (1, .int (tl_I p1))] := hl
  unfold fX5_knows at hf
  refine lv_iload_n hx hb dX5_knows_0 rfl (lv_at hl 1 rfl) ?_
  refine tr_if_lt (tgt := 16) hx hb hf dX5_knows_1 (by decide) (fun hc hf => ?_) (fun hc hf => ?_)
  · refine lv_iconst (v := tl_I (0 : Int)) hx hb dX5_knows_16 rfl ?_
    injection hf with hf
    subst hf
    exact W.zret (v := tl_I (0 : Int)) hx hb hr rfl (fun t ht hW => tl_fin hAe ⟨rfl, rfl⟩ (hP.sub (ws' := [tl_ob a_this 6 [.ref a_from, .ref a_to, .ref a_forms, .ref a_rules, .int (tl_I v_this_length)]]) [0] rfl) hK (hD.sub (ws' := [tl_ob a_this 6 [.ref a_from, .ref a_to, .ref a_forms, .ref a_rules, .int (tl_I v_this_length)]]) [0] (by decide) rfl) hS ht hW) hS.2.2 dX5_knows_17
  · refine lv_iload_n hx hb dX5_knows_4 rfl (lv_at hl 1 rfl) ?_
    refine lv_aload_n hx hb dX5_knows_5 rfl (lv_at hl 0 rfl) ?_
    refine va_get (ci := 6) (v := .int (tl_I v_this_length)) (C := RX5) (T := TX5) (N := 5) hx hb hts in_X5 hown hK hP 0 rfl rfl 4 (by decide) (hts _ tw_99) (fun _ h9 => h9) rfl dX5_knows_6 ?_
    refine tr_icmp_ge (tgt := 16) hx hb hf dX5_knows_9 (by decide) (fun hc hf => ?_) (fun hc hf => ?_)
    · refine lv_iconst (v := tl_I (1 : Int)) hx hb dX5_knows_12 rfl ?_
      refine lv_goto (tgt := 17) hx hb dX5_knows_13 (by decide) ?_
      injection hf with hf
      subst hf
      exact W.zret (v := tl_I (1 : Int)) hx hb hr rfl (fun t ht hW => tl_fin hAe ⟨rfl, rfl⟩ (hP.sub (ws' := [tl_ob a_this 6 [.ref a_from, .ref a_to, .ref a_forms, .ref a_rules, .int (tl_I v_this_length)]]) [0] rfl) hK (hD.sub (ws' := [tl_ob a_this 6 [.ref a_from, .ref a_to, .ref a_forms, .ref a_rules, .int (tl_I v_this_length)]]) [0] (by decide) rfl) hS ht hW) hS.2.2 dX5_knows_17
    · refine lv_iconst (v := tl_I (0 : Int)) hx hb dX5_knows_16 rfl ?_
      injection hf with hf
      subst hf
      exact W.zret (v := tl_I (0 : Int)) hx hb hr rfl (fun t ht hW => tl_fin hAe ⟨rfl, rfl⟩ (hP.sub (ws' := [tl_ob a_this 6 [.ref a_from, .ref a_to, .ref a_forms, .ref a_rules, .int (tl_I v_this_length)]]) [0] rfl) hK (hD.sub (ws' := [tl_ob a_this 6 [.ref a_from, .ref a_to, .ref a_forms, .ref a_rules, .int (tl_I v_this_length)]]) [0] (by decide) rfl) hS ht hW) hS.2.2 dX5_knows_17
set_option maxHeartbeats 4000000 in
set_option maxRecDepth 100000 in
theorem kt_X5_tell (l : Launch) (D : va_G) (cy : Nat → ClassId) (a_this a_forms a_from a_rules a_to : Nat) (v_this_length : Int) (v_forms : Nat → Int) (v_from : Nat → Int) (v_rules : Nat → Int) (v_to : Nat → Int) (p1 : Int) (p2 : Int) (p3 : Int) (p4 : Int)  (z : Int × (Nat → Int) × (Nat → Int) × (Nat → Int) × (Nat → Int) × Int) (hf : fX5_tell v_this_length v_forms v_from v_rules v_to p1 p2 p3 p4 = some z) :
    tl_MC l D (tl_tys cy) yX5_tell (tl_w yX5_tell cX5_tell 5 (some .int)) { frames := 0, cells := 0, slots := 0, locals := 0 } [.ref a_this, .int (tl_I p1), .int (tl_I p2), .int (tl_I p3), .int (tl_I p4)] [tl_ob a_this 6 [.ref a_from, .ref a_to, .ref a_forms, .ref a_rules, .int (tl_I v_this_length)], tl_ia (cy 1) a_forms 10 v_forms, tl_ia (cy 1) a_from 10 v_from, tl_ia (cy 1) a_rules 10 v_rules, tl_ia (cy 1) a_to 10 v_to] 0 0 (fun v w1 => v = some (.int (tl_I z.1)) ∧ w1 = [tl_ob a_this 6 [.ref a_from, .ref a_to, .ref a_forms, .ref a_rules, .int (tl_I z.2.2.2.2.2)], tl_ia (cy 1) a_forms 10 z.2.1, tl_ia (cy 1) a_from 10 z.2.2.1, tl_ia (cy 1) a_rules 10 z.2.2.2.1, tl_ia (cy 1) a_to 10 z.2.2.2.2.1]) := by
  refine tl_ofW (cc := cX5_tell) (maxL := 5) (ret := (some .int)) (by decide +kernel) (Nat.le_of_ble_eq_true rfl) ?_
  intro p e s m below meth c hx hb hr hml hts hown hlocks hnm A hAe hA hP hK hD hS ls hl
  have hl : lv_has ls 5 [(0, .ref a_this), (1, .int (tl_I p1)), (2, .int (tl_I p2)), (3, .int (tl_I p3)), (4, .int (tl_I p4))] := hl
  unfold fX5_tell at hf
  refine lv_aload_n hx hb dX5_tell_0 rfl (lv_at hl 0 rfl) ?_
  refine va_get (ci := 6) (v := .int (tl_I v_this_length)) (C := RX5) (T := TX5) (N := 5) hx hb hts in_X5 hown hK hP 0 rfl rfl 4 (by decide) (hts _ tw_99) (fun _ h9 => h9) rfl dX5_tell_1 ?_
  refine lv_bipush (v := tl_I (10 : Int)) hx hb dX5_tell_4 rfl ?_
  refine tr_icmp_lt (tgt := 11) hx hb hf dX5_tell_6 (by decide) (fun hc hf => ?_) (fun hc hf => ?_)
  · refine lv_aload_n hx hb dX5_tell_11 rfl (lv_at hl 0 rfl) ?_
    refine va_get (ci := 6) (v := .ref a_from) (C := RX5) (T := TX5) (N := 5) hx hb hts in_X5 hown hK hP 0 rfl rfl 0 (by decide) (hts _ tw_95) (fun _ h9 => h9) rfl dX5_tell_12 ?_
    refine lv_aload_n hx hb dX5_tell_15 rfl (lv_at hl 0 rfl) ?_
    refine va_get (ci := 6) (v := .int (tl_I v_this_length)) (C := RX5) (T := TX5) (N := 5) hx hb hts in_X5 hown hK hP 0 rfl rfl 4 (by decide) (hts _ tw_99) (fun _ h9 => h9) rfl dX5_tell_16 ?_
    refine lv_iload_n hx hb dX5_tell_19 rfl (lv_at hl 1 rfl) ?_
    refine tr_iast hx hb hf hK hP hD hS 2 1 rfl rfl (by decide) dX5_tell_20 (fun hf H locs hP hD hS => ?_)
    have hP : va_P D vwCl [tl_ob a_this 6 [.ref a_from, .ref a_to, .ref a_forms, .ref a_rules, .int (tl_I v_this_length)], tl_ia (cy 1) a_forms 10 v_forms, tl_ia (cy 1) a_from 10 (va_up v_from v_this_length.toNat p1), tl_ia (cy 1) a_rules 10 v_rules, tl_ia (cy 1) a_to 10 v_to] H := hP
    have hD : va_D A [tl_ob a_this 6 [.ref a_from, .ref a_to, .ref a_forms, .ref a_rules, .int (tl_I v_this_length)], tl_ia (cy 1) a_forms 10 v_forms, tl_ia (cy 1) a_from 10 (va_up v_from v_this_length.toNat p1), tl_ia (cy 1) a_rules 10 v_rules, tl_ia (cy 1) a_to 10 v_to] := hD
    refine lv_aload_n hx hb dX5_tell_21 rfl (lv_at hl 0 rfl) ?_
    refine va_get (ci := 6) (v := .ref a_to) (C := RX5) (T := TX5) (N := 5) hx hb hts in_X5 hown hK hP 0 rfl rfl 1 (by decide) (hts _ tw_96) (fun _ h9 => h9) rfl dX5_tell_22 ?_
    refine lv_aload_n hx hb dX5_tell_25 rfl (lv_at hl 0 rfl) ?_
    refine va_get (ci := 6) (v := .int (tl_I v_this_length)) (C := RX5) (T := TX5) (N := 5) hx hb hts in_X5 hown hK hP 0 rfl rfl 4 (by decide) (hts _ tw_99) (fun _ h9 => h9) rfl dX5_tell_26 ?_
    refine lv_iload_n hx hb dX5_tell_29 rfl (lv_at hl 2 rfl) ?_
    refine tr_iast hx hb hf hK hP hD hS 4 1 rfl rfl (by decide) dX5_tell_30 (fun hf H locs hP hD hS => ?_)
    have hP : va_P D vwCl [tl_ob a_this 6 [.ref a_from, .ref a_to, .ref a_forms, .ref a_rules, .int (tl_I v_this_length)], tl_ia (cy 1) a_forms 10 v_forms, tl_ia (cy 1) a_from 10 (va_up v_from v_this_length.toNat p1), tl_ia (cy 1) a_rules 10 v_rules, tl_ia (cy 1) a_to 10 (va_up v_to v_this_length.toNat p2)] H := hP
    have hD : va_D A [tl_ob a_this 6 [.ref a_from, .ref a_to, .ref a_forms, .ref a_rules, .int (tl_I v_this_length)], tl_ia (cy 1) a_forms 10 v_forms, tl_ia (cy 1) a_from 10 (va_up v_from v_this_length.toNat p1), tl_ia (cy 1) a_rules 10 v_rules, tl_ia (cy 1) a_to 10 (va_up v_to v_this_length.toNat p2)] := hD
    refine lv_aload_n hx hb dX5_tell_31 rfl (lv_at hl 0 rfl) ?_
    refine va_get (ci := 6) (v := .ref a_forms) (C := RX5) (T := TX5) (N := 5) hx hb hts in_X5 hown hK hP 0 rfl rfl 2 (by decide) (hts _ tw_97) (fun _ h9 => h9) rfl dX5_tell_32 ?_
    refine lv_aload_n hx hb dX5_tell_35 rfl (lv_at hl 0 rfl) ?_
    refine va_get (ci := 6) (v := .int (tl_I v_this_length)) (C := RX5) (T := TX5) (N := 5) hx hb hts in_X5 hown hK hP 0 rfl rfl 4 (by decide) (hts _ tw_99) (fun _ h9 => h9) rfl dX5_tell_36 ?_
    refine lv_iload_n hx hb dX5_tell_39 rfl (lv_at hl 3 rfl) ?_
    refine tr_iast hx hb hf hK hP hD hS 1 1 rfl rfl (by decide) dX5_tell_40 (fun hf H locs hP hD hS => ?_)
    have hP : va_P D vwCl [tl_ob a_this 6 [.ref a_from, .ref a_to, .ref a_forms, .ref a_rules, .int (tl_I v_this_length)], tl_ia (cy 1) a_forms 10 (va_up v_forms v_this_length.toNat p3), tl_ia (cy 1) a_from 10 (va_up v_from v_this_length.toNat p1), tl_ia (cy 1) a_rules 10 v_rules, tl_ia (cy 1) a_to 10 (va_up v_to v_this_length.toNat p2)] H := hP
    have hD : va_D A [tl_ob a_this 6 [.ref a_from, .ref a_to, .ref a_forms, .ref a_rules, .int (tl_I v_this_length)], tl_ia (cy 1) a_forms 10 (va_up v_forms v_this_length.toNat p3), tl_ia (cy 1) a_from 10 (va_up v_from v_this_length.toNat p1), tl_ia (cy 1) a_rules 10 v_rules, tl_ia (cy 1) a_to 10 (va_up v_to v_this_length.toNat p2)] := hD
    refine lv_aload_n hx hb dX5_tell_41 rfl (lv_at hl 0 rfl) ?_
    refine va_get (ci := 6) (v := .ref a_rules) (C := RX5) (T := TX5) (N := 5) hx hb hts in_X5 hown hK hP 0 rfl rfl 3 (by decide) (hts _ tw_98) (fun _ h9 => h9) rfl dX5_tell_42 ?_
    refine lv_aload_n hx hb dX5_tell_45 rfl (lv_at hl 0 rfl) ?_
    refine va_get (ci := 6) (v := .int (tl_I v_this_length)) (C := RX5) (T := TX5) (N := 5) hx hb hts in_X5 hown hK hP 0 rfl rfl 4 (by decide) (hts _ tw_99) (fun _ h9 => h9) rfl dX5_tell_46 ?_
    refine lv_iload hx hb dX5_tell_49 (lv_at hl 4 rfl) ?_
    refine tr_iast hx hb hf hK hP hD hS 3 1 rfl rfl (by decide) dX5_tell_51 (fun hf H locs hP hD hS => ?_)
    have hP : va_P D vwCl [tl_ob a_this 6 [.ref a_from, .ref a_to, .ref a_forms, .ref a_rules, .int (tl_I v_this_length)], tl_ia (cy 1) a_forms 10 (va_up v_forms v_this_length.toNat p3), tl_ia (cy 1) a_from 10 (va_up v_from v_this_length.toNat p1), tl_ia (cy 1) a_rules 10 (va_up v_rules v_this_length.toNat p4), tl_ia (cy 1) a_to 10 (va_up v_to v_this_length.toNat p2)] H := hP
    have hD : va_D A [tl_ob a_this 6 [.ref a_from, .ref a_to, .ref a_forms, .ref a_rules, .int (tl_I v_this_length)], tl_ia (cy 1) a_forms 10 (va_up v_forms v_this_length.toNat p3), tl_ia (cy 1) a_from 10 (va_up v_from v_this_length.toNat p1), tl_ia (cy 1) a_rules 10 (va_up v_rules v_this_length.toNat p4), tl_ia (cy 1) a_to 10 (va_up v_to v_this_length.toNat p2)] := hD
    refine lv_aload_n hx hb dX5_tell_52 rfl (lv_at hl 0 rfl) ?_
    refine lv_dup hx hb dX5_tell_53 rfl ?_
    refine va_get (ci := 6) (v := .int (tl_I v_this_length)) (C := RX5) (T := TX5) (N := 5) hx hb hts in_X5 hown hK hP 0 rfl rfl 4 (by decide) (hts _ tw_99) (fun _ h9 => h9) rfl dX5_tell_54 ?_
    refine lv_iconst (v := tl_I (1 : Int)) hx hb dX5_tell_57 rfl ?_
    refine tr_iadd hx hb dX5_tell_58 ?_
    refine va_put (ci := 6) (v := .int (tl_I (v_this_length + (1 : Int)))) (ty := .int) (C := RX5) (T := TX5) (N := 5) hx hb hts in_X5 tyX5 tyX5_ok nmX5 hown hK hP hD hS 0 rfl rfl 4 (by decide) (hts _ tw_99) (fun _ h9 => h9) rfl (by decide +kernel) rfl rfl (Nat.le_of_ble_eq_true rfl) dX5_tell_59 (fun H locs hP hD hS => ?_)
    have hP : va_P D vwCl [tl_ob a_this 6 [.ref a_from, .ref a_to, .ref a_forms, .ref a_rules, .int (tl_I (v_this_length + (1 : Int)))], tl_ia (cy 1) a_forms 10 (va_up v_forms v_this_length.toNat p3), tl_ia (cy 1) a_from 10 (va_up v_from v_this_length.toNat p1), tl_ia (cy 1) a_rules 10 (va_up v_rules v_this_length.toNat p4), tl_ia (cy 1) a_to 10 (va_up v_to v_this_length.toNat p2)] H := hP
    have hD : va_D A [tl_ob a_this 6 [.ref a_from, .ref a_to, .ref a_forms, .ref a_rules, .int (tl_I (v_this_length + (1 : Int)))], tl_ia (cy 1) a_forms 10 (va_up v_forms v_this_length.toNat p3), tl_ia (cy 1) a_from 10 (va_up v_from v_this_length.toNat p1), tl_ia (cy 1) a_rules 10 (va_up v_rules v_this_length.toNat p4), tl_ia (cy 1) a_to 10 (va_up v_to v_this_length.toNat p2)] := hD
    refine lv_aload_n hx hb dX5_tell_62 rfl (lv_at hl 0 rfl) ?_
    refine va_get (ci := 6) (v := .int (tl_I (v_this_length + (1 : Int)))) (C := RX5) (T := TX5) (N := 5) hx hb hts in_X5 hown hK hP 0 rfl rfl 4 (by decide) (hts _ tw_99) (fun _ h9 => h9) rfl dX5_tell_63 ?_
    refine lv_iconst (v := tl_I (1 : Int)) hx hb dX5_tell_66 rfl ?_
    refine tr_isub hx hb dX5_tell_67 ?_
    injection hf with hf
    subst hf
    exact W.iret (v := tl_I ((v_this_length + (1 : Int)) - (1 : Int))) hx hb hr (fun t ht hW => tl_fin hAe ⟨rfl, rfl⟩ (hP.sub (ws' := [tl_ob a_this 6 [.ref a_from, .ref a_to, .ref a_forms, .ref a_rules, .int (tl_I (v_this_length + (1 : Int)))], tl_ia (cy 1) a_forms 10 (va_up v_forms v_this_length.toNat p3), tl_ia (cy 1) a_from 10 (va_up v_from v_this_length.toNat p1), tl_ia (cy 1) a_rules 10 (va_up v_rules v_this_length.toNat p4), tl_ia (cy 1) a_to 10 (va_up v_to v_this_length.toNat p2)]) [0, 1, 2, 3, 4] rfl) hK (hD.sub (ws' := [tl_ob a_this 6 [.ref a_from, .ref a_to, .ref a_forms, .ref a_rules, .int (tl_I (v_this_length + (1 : Int)))], tl_ia (cy 1) a_forms 10 (va_up v_forms v_this_length.toNat p3), tl_ia (cy 1) a_from 10 (va_up v_from v_this_length.toNat p1), tl_ia (cy 1) a_rules 10 (va_up v_rules v_this_length.toNat p4), tl_ia (cy 1) a_to 10 (va_up v_to v_this_length.toNat p2)]) [0, 1, 2, 3, 4] (by decide) rfl) hS ht hW) hS.2.2 dX5_tell_68
  · refine lv_iconst (v := tl_I (-1 : Int)) hx hb dX5_tell_9 rfl ?_
    injection hf with hf
    subst hf
    exact W.iret (v := tl_I (-1 : Int)) hx hb hr (fun t ht hW => tl_fin hAe ⟨rfl, rfl⟩ (hP.sub (ws' := [tl_ob a_this 6 [.ref a_from, .ref a_to, .ref a_forms, .ref a_rules, .int (tl_I v_this_length)], tl_ia (cy 1) a_forms 10 v_forms, tl_ia (cy 1) a_from 10 v_from, tl_ia (cy 1) a_rules 10 v_rules, tl_ia (cy 1) a_to 10 v_to]) [0, 1, 2, 3, 4] rfl) hK (hD.sub (ws' := [tl_ob a_this 6 [.ref a_from, .ref a_to, .ref a_forms, .ref a_rules, .int (tl_I v_this_length)], tl_ia (cy 1) a_forms 10 v_forms, tl_ia (cy 1) a_from 10 v_from, tl_ia (cy 1) a_rules 10 v_rules, tl_ia (cy 1) a_to 10 v_to]) [0, 1, 2, 3, 4] (by decide) rfl) hS ht hW) hS.2.2 dX5_tell_10
set_option maxHeartbeats 4000000 in
set_option maxRecDepth 100000 in
theorem kt_X5_fromKind (l : Launch) (D : va_G) (cy : Nat → ClassId) (a_this a_from a_to a_forms a_rules : Nat) (v_this_length : Int) (v_from : Nat → Int) (p1 : Int)  (z : Int) (hf : fX5_fromKind v_this_length v_from p1 = some z) :
    tl_MC l D (tl_tys cy) yX5_fromKind (tl_w yX5_fromKind cX5_fromKind 2 (some .int)) { frames := 1, cells := 0, slots := 0, locals := 21 } [.ref a_this, .int (tl_I p1)] [tl_ob a_this 6 [.ref a_from, .ref a_to, .ref a_forms, .ref a_rules, .int (tl_I v_this_length)], tl_ia (cy 1) a_from 10 v_from] 0 0 (fun v w1 => v = some (.int (tl_I z)) ∧ w1 = [tl_ob a_this 6 [.ref a_from, .ref a_to, .ref a_forms, .ref a_rules, .int (tl_I v_this_length)], tl_ia (cy 1) a_from 10 v_from]) := by
  refine tl_ofW (cc := cX5_fromKind) (maxL := 2) (ret := (some .int)) (by decide +kernel) (Nat.le_of_ble_eq_true rfl) ?_
  intro p e s m below meth c hx hb hr hml hts hown hlocks hnm A hAe hA hP hK hD hS ls hl
  have hl : lv_has ls 2 [(0, .ref a_this), (1, .int (tl_I p1))] := hl
  unfold fX5_fromKind at hf
  refine lv_aload_n hx hb dX5_fromKind_0 rfl (lv_at hl 0 rfl) ?_
  refine lv_iload_n hx hb dX5_fromKind_1 rfl (lv_at hl 1 rfl) ?_
  obtain ⟨z1, hz, hf⟩ := tl_bs hf
  refine tl_callV0 (As := [.int (tl_I p1)]) (rest := []) (wr := [tl_ia (cy 1) a_from 10 v_from]) ⟨hx, hb, hml, hown, hts⟩ (kt_X5_knows l D cy a_this a_from a_to a_forms a_rules v_this_length p1 z1 hz) (cwV 1 hts tg_X5_28 rfl rfl rfl td_X5_knows ⟨by decide, by decide⟩) hK hP hD hS hA [0] [1] rfl rfl rfl rfl (by decide) 0 6 rfl rfl rfl rfl hl.1 rfl (Nat.le_of_ble_eq_true rfl) dX5_fromKind_2 ⟨by decide, by decide⟩ (fun v w1 H locs hp hP hD hS => ?_)
  obtain ⟨rfl, rfl⟩ := hp
  have hP : va_P D vwCl [tl_ia (cy 1) a_from 10 v_from, tl_ob a_this 6 [.ref a_from, .ref a_to, .ref a_forms, .ref a_rules, .int (tl_I v_this_length)]] H := hP
  have hD : va_D A [tl_ia (cy 1) a_from 10 v_from, tl_ob a_this 6 [.ref a_from, .ref a_to, .ref a_forms, .ref a_rules, .int (tl_I v_this_length)]] := hD
  refine W.eq (g2 := F0 m 5 ls [.int (tl_I z1)]) rfl ?_
  refine tr_if_eq (tgt := 17) hx hb hf dX5_fromKind_5 (by decide) (fun hc hf => ?_) (fun hc hf => ?_)
  · refine lv_iconst (v := tl_I (-1 : Int)) hx hb dX5_fromKind_17 rfl ?_
    injection hf with hf
    subst hf
    exact W.iret (v := tl_I (-1 : Int)) hx hb hr (fun t ht hW => tl_fin hAe ⟨rfl, rfl⟩ (hP.sub (ws' := [tl_ob a_this 6 [.ref a_from, .ref a_to, .ref a_forms, .ref a_rules, .int (tl_I v_this_length)], tl_ia (cy 1) a_from 10 v_from]) [1, 0] rfl) hK (hD.sub (ws' := [tl_ob a_this 6 [.ref a_from, .ref a_to, .ref a_forms, .ref a_rules, .int (tl_I v_this_length)], tl_ia (cy 1) a_from 10 v_from]) [1, 0] (by decide) rfl) hS ht hW) hS.2.2 dX5_fromKind_18
  · refine lv_aload_n hx hb dX5_fromKind_8 rfl (lv_at hl 0 rfl) ?_
    refine va_get (ci := 6) (v := .ref a_from) (C := RX5) (T := TX5) (N := 5) hx hb hts in_X5 hown hK hP 1 rfl rfl 0 (by decide) (hts _ tw_95) (fun _ h9 => h9) rfl dX5_fromKind_9 ?_
    refine lv_iload_n hx hb dX5_fromKind_12 rfl (lv_at hl 1 rfl) ?_
    refine tr_iald hx hb hf hK hP 0 1 rfl rfl (by decide) dX5_fromKind_13 (fun hf => ?_)
    refine lv_goto (tgt := 18) hx hb dX5_fromKind_14 (by decide) ?_
    injection hf with hf
    subst hf
    exact W.iret (v := tl_I (v_from p1.toNat)) hx hb hr (fun t ht hW => tl_fin hAe ⟨rfl, rfl⟩ (hP.sub (ws' := [tl_ob a_this 6 [.ref a_from, .ref a_to, .ref a_forms, .ref a_rules, .int (tl_I v_this_length)], tl_ia (cy 1) a_from 10 v_from]) [1, 0] rfl) hK (hD.sub (ws' := [tl_ob a_this 6 [.ref a_from, .ref a_to, .ref a_forms, .ref a_rules, .int (tl_I v_this_length)], tl_ia (cy 1) a_from 10 v_from]) [1, 0] (by decide) rfl) hS ht hW) hS.2.2 dX5_fromKind_18
set_option maxHeartbeats 4000000 in
set_option maxRecDepth 100000 in
theorem kt_X5_toKind (l : Launch) (D : va_G) (cy : Nat → ClassId) (a_this a_to a_from a_forms a_rules : Nat) (v_this_length : Int) (v_to : Nat → Int) (p1 : Int)  (z : Int) (hf : fX5_toKind v_this_length v_to p1 = some z) :
    tl_MC l D (tl_tys cy) yX5_toKind (tl_w yX5_toKind cX5_toKind 2 (some .int)) { frames := 1, cells := 0, slots := 0, locals := 21 } [.ref a_this, .int (tl_I p1)] [tl_ob a_this 6 [.ref a_from, .ref a_to, .ref a_forms, .ref a_rules, .int (tl_I v_this_length)], tl_ia (cy 1) a_to 10 v_to] 0 0 (fun v w1 => v = some (.int (tl_I z)) ∧ w1 = [tl_ob a_this 6 [.ref a_from, .ref a_to, .ref a_forms, .ref a_rules, .int (tl_I v_this_length)], tl_ia (cy 1) a_to 10 v_to]) := by
  refine tl_ofW (cc := cX5_toKind) (maxL := 2) (ret := (some .int)) (by decide +kernel) (Nat.le_of_ble_eq_true rfl) ?_
  intro p e s m below meth c hx hb hr hml hts hown hlocks hnm A hAe hA hP hK hD hS ls hl
  have hl : lv_has ls 2 [(0, .ref a_this), (1, .int (tl_I p1))] := hl
  unfold fX5_toKind at hf
  refine lv_aload_n hx hb dX5_toKind_0 rfl (lv_at hl 0 rfl) ?_
  refine lv_iload_n hx hb dX5_toKind_1 rfl (lv_at hl 1 rfl) ?_
  obtain ⟨z1, hz, hf⟩ := tl_bs hf
  refine tl_callV0 (As := [.int (tl_I p1)]) (rest := []) (wr := [tl_ia (cy 1) a_to 10 v_to]) ⟨hx, hb, hml, hown, hts⟩ (kt_X5_knows l D cy a_this a_from a_to a_forms a_rules v_this_length p1 z1 hz) (cwV 1 hts tg_X5_28 rfl rfl rfl td_X5_knows ⟨by decide, by decide⟩) hK hP hD hS hA [0] [1] rfl rfl rfl rfl (by decide) 0 6 rfl rfl rfl rfl hl.1 rfl (Nat.le_of_ble_eq_true rfl) dX5_toKind_2 ⟨by decide, by decide⟩ (fun v w1 H locs hp hP hD hS => ?_)
  obtain ⟨rfl, rfl⟩ := hp
  have hP : va_P D vwCl [tl_ia (cy 1) a_to 10 v_to, tl_ob a_this 6 [.ref a_from, .ref a_to, .ref a_forms, .ref a_rules, .int (tl_I v_this_length)]] H := hP
  have hD : va_D A [tl_ia (cy 1) a_to 10 v_to, tl_ob a_this 6 [.ref a_from, .ref a_to, .ref a_forms, .ref a_rules, .int (tl_I v_this_length)]] := hD
  refine W.eq (g2 := F0 m 5 ls [.int (tl_I z1)]) rfl ?_
  refine tr_if_eq (tgt := 17) hx hb hf dX5_toKind_5 (by decide) (fun hc hf => ?_) (fun hc hf => ?_)
  · refine lv_iconst (v := tl_I (-1 : Int)) hx hb dX5_toKind_17 rfl ?_
    injection hf with hf
    subst hf
    exact W.iret (v := tl_I (-1 : Int)) hx hb hr (fun t ht hW => tl_fin hAe ⟨rfl, rfl⟩ (hP.sub (ws' := [tl_ob a_this 6 [.ref a_from, .ref a_to, .ref a_forms, .ref a_rules, .int (tl_I v_this_length)], tl_ia (cy 1) a_to 10 v_to]) [1, 0] rfl) hK (hD.sub (ws' := [tl_ob a_this 6 [.ref a_from, .ref a_to, .ref a_forms, .ref a_rules, .int (tl_I v_this_length)], tl_ia (cy 1) a_to 10 v_to]) [1, 0] (by decide) rfl) hS ht hW) hS.2.2 dX5_toKind_18
  · refine lv_aload_n hx hb dX5_toKind_8 rfl (lv_at hl 0 rfl) ?_
    refine va_get (ci := 6) (v := .ref a_to) (C := RX5) (T := TX5) (N := 5) hx hb hts in_X5 hown hK hP 1 rfl rfl 1 (by decide) (hts _ tw_96) (fun _ h9 => h9) rfl dX5_toKind_9 ?_
    refine lv_iload_n hx hb dX5_toKind_12 rfl (lv_at hl 1 rfl) ?_
    refine tr_iald hx hb hf hK hP 0 1 rfl rfl (by decide) dX5_toKind_13 (fun hf => ?_)
    refine lv_goto (tgt := 18) hx hb dX5_toKind_14 (by decide) ?_
    injection hf with hf
    subst hf
    exact W.iret (v := tl_I (v_to p1.toNat)) hx hb hr (fun t ht hW => tl_fin hAe ⟨rfl, rfl⟩ (hP.sub (ws' := [tl_ob a_this 6 [.ref a_from, .ref a_to, .ref a_forms, .ref a_rules, .int (tl_I v_this_length)], tl_ia (cy 1) a_to 10 v_to]) [1, 0] rfl) hK (hD.sub (ws' := [tl_ob a_this 6 [.ref a_from, .ref a_to, .ref a_forms, .ref a_rules, .int (tl_I v_this_length)], tl_ia (cy 1) a_to 10 v_to]) [1, 0] (by decide) rfl) hS ht hW) hS.2.2 dX5_toKind_18
set_option maxHeartbeats 4000000 in
set_option maxRecDepth 100000 in
theorem kt_X5_hasForm (l : Launch) (D : va_G) (cy : Nat → ClassId) (a_this a_forms a_from a_to a_rules : Nat) (v_this_length : Int) (v_forms : Nat → Int) (p1 : Int) (p2 : Int)  (z : Int) (hf : fX5_hasForm v_this_length v_forms p1 p2 = some z) :
    tl_MC l D (tl_tys cy) yX5_hasForm (tl_w yX5_hasForm cX5_hasForm 3 (some .boolean)) { frames := 1, cells := 0, slots := 0, locals := 21 } [.ref a_this, .int (tl_I p1), .int (tl_I p2)] [tl_ob a_this 6 [.ref a_from, .ref a_to, .ref a_forms, .ref a_rules, .int (tl_I v_this_length)], tl_ia (cy 1) a_forms 10 v_forms] 0 0 (fun v w1 => v = some (.int (tl_I z)) ∧ w1 = [tl_ob a_this 6 [.ref a_from, .ref a_to, .ref a_forms, .ref a_rules, .int (tl_I v_this_length)], tl_ia (cy 1) a_forms 10 v_forms]) := by
  refine tl_ofW (cc := cX5_hasForm) (maxL := 3) (ret := (some .boolean)) (by decide +kernel) (Nat.le_of_ble_eq_true rfl) ?_
  intro p e s m below meth c hx hb hr hml hts hown hlocks hnm A hAe hA hP hK hD hS ls hl
  have hl : lv_has ls 3 [(0, .ref a_this), (1, .int (tl_I p1)), (2, .int (tl_I p2))] := hl
  unfold fX5_hasForm at hf
  refine lv_aload_n hx hb dX5_hasForm_0 rfl (lv_at hl 0 rfl) ?_
  refine lv_iload_n hx hb dX5_hasForm_1 rfl (lv_at hl 1 rfl) ?_
  obtain ⟨z1, hz, hf⟩ := tl_bs hf
  refine tl_callV0 (As := [.int (tl_I p1)]) (rest := []) (wr := [tl_ia (cy 1) a_forms 10 v_forms]) ⟨hx, hb, hml, hown, hts⟩ (kt_X5_knows l D cy a_this a_from a_to a_forms a_rules v_this_length p1 z1 hz) (cwV 1 hts tg_X5_28 rfl rfl rfl td_X5_knows ⟨by decide, by decide⟩) hK hP hD hS hA [0] [1] rfl rfl rfl rfl (by decide) 0 6 rfl rfl rfl rfl hl.1 rfl (Nat.le_of_ble_eq_true rfl) dX5_hasForm_2 ⟨by decide, by decide⟩ (fun v w1 H locs hp hP hD hS => ?_)
  obtain ⟨rfl, rfl⟩ := hp
  have hP : va_P D vwCl [tl_ia (cy 1) a_forms 10 v_forms, tl_ob a_this 6 [.ref a_from, .ref a_to, .ref a_forms, .ref a_rules, .int (tl_I v_this_length)]] H := hP
  have hD : va_D A [tl_ia (cy 1) a_forms 10 v_forms, tl_ob a_this 6 [.ref a_from, .ref a_to, .ref a_forms, .ref a_rules, .int (tl_I v_this_length)]] := hD
  refine W.eq (g2 := F0 m 5 ls [.int (tl_I z1)]) rfl ?_
  refine tr_if_eq (tgt := 22) hx hb hf dX5_hasForm_5 (by decide) (fun hc hf => ?_) (fun hc hf => ?_)
  · refine lv_iconst (v := tl_I (0 : Int)) hx hb dX5_hasForm_22 rfl ?_
    injection hf with hf
    subst hf
    exact W.zret (v := tl_I (0 : Int)) hx hb hr rfl (fun t ht hW => tl_fin hAe ⟨rfl, rfl⟩ (hP.sub (ws' := [tl_ob a_this 6 [.ref a_from, .ref a_to, .ref a_forms, .ref a_rules, .int (tl_I v_this_length)], tl_ia (cy 1) a_forms 10 v_forms]) [1, 0] rfl) hK (hD.sub (ws' := [tl_ob a_this 6 [.ref a_from, .ref a_to, .ref a_forms, .ref a_rules, .int (tl_I v_this_length)], tl_ia (cy 1) a_forms 10 v_forms]) [1, 0] (by decide) rfl) hS ht hW) hS.2.2 dX5_hasForm_23
  · refine lv_aload_n hx hb dX5_hasForm_8 rfl (lv_at hl 0 rfl) ?_
    refine va_get (ci := 6) (v := .ref a_forms) (C := RX5) (T := TX5) (N := 5) hx hb hts in_X5 hown hK hP 1 rfl rfl 2 (by decide) (hts _ tw_97) (fun _ h9 => h9) rfl dX5_hasForm_9 ?_
    refine lv_iload_n hx hb dX5_hasForm_12 rfl (lv_at hl 1 rfl) ?_
    refine tr_iald hx hb hf hK hP 0 1 rfl rfl (by decide) dX5_hasForm_13 (fun hf => ?_)
    refine lv_iload_n hx hb dX5_hasForm_14 rfl (lv_at hl 2 rfl) ?_
    refine tr_icmp_ne (tgt := 22) hx hb hf dX5_hasForm_15 (by decide) (fun hc hf => ?_) (fun hc hf => ?_)
    · refine lv_iconst (v := tl_I (1 : Int)) hx hb dX5_hasForm_18 rfl ?_
      refine lv_goto (tgt := 23) hx hb dX5_hasForm_19 (by decide) ?_
      injection hf with hf
      subst hf
      exact W.zret (v := tl_I (1 : Int)) hx hb hr rfl (fun t ht hW => tl_fin hAe ⟨rfl, rfl⟩ (hP.sub (ws' := [tl_ob a_this 6 [.ref a_from, .ref a_to, .ref a_forms, .ref a_rules, .int (tl_I v_this_length)], tl_ia (cy 1) a_forms 10 v_forms]) [1, 0] rfl) hK (hD.sub (ws' := [tl_ob a_this 6 [.ref a_from, .ref a_to, .ref a_forms, .ref a_rules, .int (tl_I v_this_length)], tl_ia (cy 1) a_forms 10 v_forms]) [1, 0] (by decide) rfl) hS ht hW) hS.2.2 dX5_hasForm_23
    · refine lv_iconst (v := tl_I (0 : Int)) hx hb dX5_hasForm_22 rfl ?_
      injection hf with hf
      subst hf
      exact W.zret (v := tl_I (0 : Int)) hx hb hr rfl (fun t ht hW => tl_fin hAe ⟨rfl, rfl⟩ (hP.sub (ws' := [tl_ob a_this 6 [.ref a_from, .ref a_to, .ref a_forms, .ref a_rules, .int (tl_I v_this_length)], tl_ia (cy 1) a_forms 10 v_forms]) [1, 0] rfl) hK (hD.sub (ws' := [tl_ob a_this 6 [.ref a_from, .ref a_to, .ref a_forms, .ref a_rules, .int (tl_I v_this_length)], tl_ia (cy 1) a_forms 10 v_forms]) [1, 0] (by decide) rfl) hS ht hW) hS.2.2 dX5_hasForm_23
set_option maxHeartbeats 4000000 in
set_option maxRecDepth 100000 in
theorem kt_X5_hasRule (l : Launch) (D : va_G) (cy : Nat → ClassId) (a_this a_rules a_from a_to a_forms : Nat) (v_this_length : Int) (v_rules : Nat → Int) (p1 : Int) (p2 : Int)  (z : Int) (hf : fX5_hasRule v_this_length v_rules p1 p2 = some z) :
    tl_MC l D (tl_tys cy) yX5_hasRule (tl_w yX5_hasRule cX5_hasRule 3 (some .boolean)) { frames := 1, cells := 0, slots := 0, locals := 21 } [.ref a_this, .int (tl_I p1), .int (tl_I p2)] [tl_ob a_this 6 [.ref a_from, .ref a_to, .ref a_forms, .ref a_rules, .int (tl_I v_this_length)], tl_ia (cy 1) a_rules 10 v_rules] 0 0 (fun v w1 => v = some (.int (tl_I z)) ∧ w1 = [tl_ob a_this 6 [.ref a_from, .ref a_to, .ref a_forms, .ref a_rules, .int (tl_I v_this_length)], tl_ia (cy 1) a_rules 10 v_rules]) := by
  refine tl_ofW (cc := cX5_hasRule) (maxL := 3) (ret := (some .boolean)) (by decide +kernel) (Nat.le_of_ble_eq_true rfl) ?_
  intro p e s m below meth c hx hb hr hml hts hown hlocks hnm A hAe hA hP hK hD hS ls hl
  have hl : lv_has ls 3 [(0, .ref a_this), (1, .int (tl_I p1)), (2, .int (tl_I p2))] := hl
  unfold fX5_hasRule at hf
  refine lv_aload_n hx hb dX5_hasRule_0 rfl (lv_at hl 0 rfl) ?_
  refine lv_iload_n hx hb dX5_hasRule_1 rfl (lv_at hl 1 rfl) ?_
  obtain ⟨z1, hz, hf⟩ := tl_bs hf
  refine tl_callV0 (As := [.int (tl_I p1)]) (rest := []) (wr := [tl_ia (cy 1) a_rules 10 v_rules]) ⟨hx, hb, hml, hown, hts⟩ (kt_X5_knows l D cy a_this a_from a_to a_forms a_rules v_this_length p1 z1 hz) (cwV 1 hts tg_X5_28 rfl rfl rfl td_X5_knows ⟨by decide, by decide⟩) hK hP hD hS hA [0] [1] rfl rfl rfl rfl (by decide) 0 6 rfl rfl rfl rfl hl.1 rfl (Nat.le_of_ble_eq_true rfl) dX5_hasRule_2 ⟨by decide, by decide⟩ (fun v w1 H locs hp hP hD hS => ?_)
  obtain ⟨rfl, rfl⟩ := hp
  have hP : va_P D vwCl [tl_ia (cy 1) a_rules 10 v_rules, tl_ob a_this 6 [.ref a_from, .ref a_to, .ref a_forms, .ref a_rules, .int (tl_I v_this_length)]] H := hP
  have hD : va_D A [tl_ia (cy 1) a_rules 10 v_rules, tl_ob a_this 6 [.ref a_from, .ref a_to, .ref a_forms, .ref a_rules, .int (tl_I v_this_length)]] := hD
  refine W.eq (g2 := F0 m 5 ls [.int (tl_I z1)]) rfl ?_
  refine tr_if_eq (tgt := 22) hx hb hf dX5_hasRule_5 (by decide) (fun hc hf => ?_) (fun hc hf => ?_)
  · refine lv_iconst (v := tl_I (0 : Int)) hx hb dX5_hasRule_22 rfl ?_
    injection hf with hf
    subst hf
    exact W.zret (v := tl_I (0 : Int)) hx hb hr rfl (fun t ht hW => tl_fin hAe ⟨rfl, rfl⟩ (hP.sub (ws' := [tl_ob a_this 6 [.ref a_from, .ref a_to, .ref a_forms, .ref a_rules, .int (tl_I v_this_length)], tl_ia (cy 1) a_rules 10 v_rules]) [1, 0] rfl) hK (hD.sub (ws' := [tl_ob a_this 6 [.ref a_from, .ref a_to, .ref a_forms, .ref a_rules, .int (tl_I v_this_length)], tl_ia (cy 1) a_rules 10 v_rules]) [1, 0] (by decide) rfl) hS ht hW) hS.2.2 dX5_hasRule_23
  · refine lv_aload_n hx hb dX5_hasRule_8 rfl (lv_at hl 0 rfl) ?_
    refine va_get (ci := 6) (v := .ref a_rules) (C := RX5) (T := TX5) (N := 5) hx hb hts in_X5 hown hK hP 1 rfl rfl 3 (by decide) (hts _ tw_98) (fun _ h9 => h9) rfl dX5_hasRule_9 ?_
    refine lv_iload_n hx hb dX5_hasRule_12 rfl (lv_at hl 1 rfl) ?_
    refine tr_iald hx hb hf hK hP 0 1 rfl rfl (by decide) dX5_hasRule_13 (fun hf => ?_)
    refine lv_iload_n hx hb dX5_hasRule_14 rfl (lv_at hl 2 rfl) ?_
    refine tr_icmp_ne (tgt := 22) hx hb hf dX5_hasRule_15 (by decide) (fun hc hf => ?_) (fun hc hf => ?_)
    · refine lv_iconst (v := tl_I (1 : Int)) hx hb dX5_hasRule_18 rfl ?_
      refine lv_goto (tgt := 23) hx hb dX5_hasRule_19 (by decide) ?_
      injection hf with hf
      subst hf
      exact W.zret (v := tl_I (1 : Int)) hx hb hr rfl (fun t ht hW => tl_fin hAe ⟨rfl, rfl⟩ (hP.sub (ws' := [tl_ob a_this 6 [.ref a_from, .ref a_to, .ref a_forms, .ref a_rules, .int (tl_I v_this_length)], tl_ia (cy 1) a_rules 10 v_rules]) [1, 0] rfl) hK (hD.sub (ws' := [tl_ob a_this 6 [.ref a_from, .ref a_to, .ref a_forms, .ref a_rules, .int (tl_I v_this_length)], tl_ia (cy 1) a_rules 10 v_rules]) [1, 0] (by decide) rfl) hS ht hW) hS.2.2 dX5_hasRule_23
    · refine lv_iconst (v := tl_I (0 : Int)) hx hb dX5_hasRule_22 rfl ?_
      injection hf with hf
      subst hf
      exact W.zret (v := tl_I (0 : Int)) hx hb hr rfl (fun t ht hW => tl_fin hAe ⟨rfl, rfl⟩ (hP.sub (ws' := [tl_ob a_this 6 [.ref a_from, .ref a_to, .ref a_forms, .ref a_rules, .int (tl_I v_this_length)], tl_ia (cy 1) a_rules 10 v_rules]) [1, 0] rfl) hK (hD.sub (ws' := [tl_ob a_this 6 [.ref a_from, .ref a_to, .ref a_forms, .ref a_rules, .int (tl_I v_this_length)], tl_ia (cy 1) a_rules 10 v_rules]) [1, 0] (by decide) rfl) hS ht hW) hS.2.2 dX5_hasRule_23
