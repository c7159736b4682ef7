set_option maxHeartbeats 4000000 in
set_option maxRecDepth 100000 in
theorem kt_X4_init (l : Launch) (D : va_G) (cy : Nat → ClassId) (a_this a_inside a_list : Nat)   (z : Unit) (hf : fX4_init  = some z) :
    tl_MC l D (tl_tys cy) yX4_init (tl_w yX4_init cX4_init 1 none) { frames := 1, cells := 2, slots := 200, locals := 12 } [.ref a_this] [tl_ob a_this 5 [.null, .null, .int (tl_I (0 : Int))]] 2 200 (fun v w1 => ∃ a_inside : Nat, ∃ a_list : Nat, v = none ∧ w1 = [tl_ob a_this 5 [.ref a_inside, .ref a_list, .int (tl_I (0 : Int))], tl_ia (cy 3) a_inside 100 (fun _ => 0), tl_ia (cy 1) a_list 100 (fun _ => 0)]) := by
  refine tl_ofW (cc := cX4_init) (maxL := 1) (ret := none) (by decide +kernel) (Nat.le_of_ble_eq_true rfl) ?_
  intro p e s m below meth c hx hb hr hml hts hown hlocks hnm A hAe hA hP hK hD hS ls hl
  have hl : lv_has ls 1 [(0, .ref a_this)] := hl
  unfold fX4_init at hf
  refine lv_aload_n hx hb dX4_init_0 rfl (lv_at hl 0 rfl) ?_
  refine W.objInit hx hb hown (hts _ tw_136) (hts _ tw_87) (hts _ tw_88) rfl (by rw [hml]; exact hl.1) rfl dX4_init_1 (Nat.le_of_ble_eq_true rfl) (Nat.le_of_ble_eq_true rfl) ?_
  refine W.eq (g2 := F0 m 4 ls []) rfl ?_
  refine lv_aload_n hx hb dX4_init_4 rfl (lv_at hl 0 rfl) ?_
  refine lv_bipush (v := tl_I (100 : Int)) hx hb dX4_init_5 rfl ?_
  refine tr_newa (N' := 100) hx hb rfl (hts _ tw_147) (fun C h => by cases h) rfl hK 3 rfl hP hD hS hA rfl (by decide) (by decide) (Nat.le_of_ble_eq_true rfl) (Nat.le_of_ble_eq_true rfl) dX4_init_7 (fun a_inside H hP hD hS => ?_)
  have hP : va_P D vwCl [tl_ob a_this 5 [.null, .null, .int (tl_I (0 : Int))], tl_ia (cy 3) a_inside 100 (fun _ => 0)] H := hP
  have hD : va_D A [tl_ob a_this 5 [.null, .null, .int (tl_I (0 : Int))], tl_ia (cy 3) a_inside 100 (fun _ => 0)] := hD
  refine va_putF (ci := 5) (v := .ref a_inside) (ty := .array .boolean) (C := RX4) (T := TX4) (N := 3) hx hb hts in_X4 tyX4 tyX4_ok nmX4 hown hK hP hD hS 0 rfl rfl 0 (by decide) (hts _ tw_137) (fun _ h9 => h9) rfl hnm rfl (by decide +kernel) rfl rfl (Nat.le_of_ble_eq_true rfl) dX4_init_9 (fun H locs hP hD hS => ?_)
  have hP : va_P D vwCl [tl_ob a_this 5 [.ref a_inside, .null, .int (tl_I (0 : Int))], tl_ia (cy 3) a_inside 100 (fun _ => 0)] H := hP
  have hD : va_D A [tl_ob a_this 5 [.ref a_inside, .null, .int (tl_I (0 : Int))], tl_ia (cy 3) a_inside 100 (fun _ => 0)] := hD
  refine lv_aload_n hx hb dX4_init_12 rfl (lv_at hl 0 rfl) ?_
  refine lv_bipush (v := tl_I (100 : Int)) hx hb dX4_init_13 rfl ?_
  refine tr_newa (N' := 100) hx hb rfl (hts _ tw_111) (fun C h => by cases h) rfl hK 1 rfl hP hD hS hA rfl (by decide) (by decide) (Nat.le_of_ble_eq_true rfl) (Nat.le_of_ble_eq_true rfl) dX4_init_15 (fun a_list H hP hD hS => ?_)
  have hP : va_P D vwCl [tl_ob a_this 5 [.ref a_inside, .null, .int (tl_I (0 : Int))], tl_ia (cy 3) a_inside 100 (fun _ => 0), tl_ia (cy 1) a_list 100 (fun _ => 0)] H := hP
  have hD : va_D A [tl_ob a_this 5 [.ref a_inside, .null, .int (tl_I (0 : Int))], tl_ia (cy 3) a_inside 100 (fun _ => 0), tl_ia (cy 1) a_list 100 (fun _ => 0)] := hD
  refine va_putF (ci := 5) (v := .ref a_list) (ty := .array .int) (C := RX4) (T := TX4) (N := 3) hx hb hts in_X4 tyX4 tyX4_ok nmX4 hown hK hP hD hS 0 rfl rfl 1 (by decide) (hts _ tw_138) (fun _ h9 => h9) rfl hnm rfl (by decide +kernel) rfl rfl (Nat.le_of_ble_eq_true rfl) dX4_init_17 (fun H locs hP hD hS => ?_)
  have hP : va_P D vwCl [tl_ob a_this 5 [.ref a_inside, .ref a_list, .int (tl_I (0 : Int))], tl_ia (cy 3) a_inside 100 (fun _ => 0), tl_ia (cy 1) a_list 100 (fun _ => 0)] H := hP
  have hD : va_D A [tl_ob a_this 5 [.ref a_inside, .ref a_list, .int (tl_I (0 : Int))], tl_ia (cy 3) a_inside 100 (fun _ => 0), tl_ia (cy 1) a_list 100 (fun _ => 0)] := hD
  injection hf with hf
  subst hf
  exact W.vret hx hb hr (fun t ht hW => tl_fin hAe ⟨a_inside, a_list, rfl, rfl⟩ (hP.sub (ws' := [tl_ob a_this 5 [.ref a_inside, .ref a_list, .int (tl_I (0 : Int))], tl_ia (cy 3) a_inside 100 (fun _ => 0), tl_ia (cy 1) a_list 100 (fun _ => 0)]) [0, 1, 2] rfl) hK (hD.sub (ws' := [tl_ob a_this 5 [.ref a_inside, .ref a_list, .int (tl_I (0 : Int))], tl_ia (cy 3) a_inside 100 (fun _ => 0), tl_ia (cy 1) a_list 100 (fun _ => 0)]) [0, 1, 2] (by decide) rfl) hS ht hW) hS.2.2 dX4_init_20
set_option maxHeartbeats 4000000 in
set_option maxRecDepth 100000 in
theorem kt_X5_init (l : Launch) (D : va_G) (cy : Nat → ClassId) (a_this a_from a_to a_forms a_rules : Nat)   (z : Unit) (hf : fX5_init  = some z) :
    tl_MC l D (tl_tys cy) yX5_init (tl_w yX5_init cX5_init 1 none) { frames := 1, cells := 4, slots := 40, locals := 12 } [.ref a_this] [tl_ob a_this 6 [.null, .null, .null, .null, .int (tl_I (0 : Int))]] 4 40 (fun v w1 => ∃ a_forms : Nat, ∃ a_from : Nat, ∃ a_rules : Nat, ∃ a_to : Nat, v = none ∧ w1 = [tl_ob a_this 6 [.ref a_from, .ref a_to, .ref a_forms, .ref a_rules, .int (tl_I (0 : Int))], tl_ia (cy 1) a_forms 10 (fun _ => 0), tl_ia (cy 1) a_from 10 (fun _ => 0), tl_ia (cy 1) a_rules 10 (fun _ => 0), tl_ia (cy 1) a_to 10 (fun _ => 0)]) := by
  refine tl_ofW (cc := cX5_init) (maxL := 1) (ret := none) (by decide +kernel) (Nat.le_of_ble_eq_true rfl) ?_
  intro p e s m below meth c hx hb hr hml hts hown hlocks hnm A hAe hA hP hK hD hS ls hl
  have hl : lv_has ls 1 [(0, .ref a_this)] := hl
  unfold fX5_init at hf
  refine lv_aload_n hx hb dX5_init_0 rfl (lv_at hl 0 rfl) ?_
  refine W.objInit hx hb hown (hts _ tw_94) (hts _ tw_87) (hts _ tw_88) rfl (by rw [hml]; exact hl.1) rfl dX5_init_1 (Nat.le_of_ble_eq_true rfl) (Nat.le_of_ble_eq_true rfl) ?_
  refine W.eq (g2 := F0 m 4 ls []) rfl ?_
  refine lv_aload_n hx hb dX5_init_4 rfl (lv_at hl 0 rfl) ?_
  refine lv_bipush (v := tl_I (10 : Int)) hx hb dX5_init_5 rfl ?_
  refine tr_newa (N' := 10) hx hb rfl (hts _ tw_111) (fun C h => by cases h) rfl hK 1 rfl hP hD hS hA rfl (by decide) (by decide) (Nat.le_of_ble_eq_true rfl) (Nat.le_of_ble_eq_true rfl) dX5_init_7 (fun a_from H hP hD hS => ?_)
  have hP : va_P D vwCl [tl_ob a_this 6 [.null, .null, .null, .null, .int (tl_I (0 : Int))], tl_ia (cy 1) a_from 10 (fun _ => 0)] H := hP
  have hD : va_D A [tl_ob a_this 6 [.null, .null, .null, .null, .int (tl_I (0 : Int))], tl_ia (cy 1) a_from 10 (fun _ => 0)] := hD
  refine va_putF (ci := 6) (v := .ref a_from) (ty := .array .int) (C := RX5) (T := TX5) (N := 5) hx hb hts in_X5 tyX5 tyX5_ok nmX5 hown hK hP hD hS 0 rfl rfl 0 (by decide) (hts _ tw_95) (fun _ h9 => h9) rfl hnm rfl (by decide +kernel) rfl rfl (Nat.le_of_ble_eq_true rfl) dX5_init_9 (fun H locs hP hD hS => ?_)
  have hP : va_P D vwCl [tl_ob a_this 6 [.ref a_from, .null, .null, .null, .int (tl_I (0 : Int))], tl_ia (cy 1) a_from 10 (fun _ => 0)] H := hP
  have hD : va_D A [tl_ob a_this 6 [.ref a_from, .null, .null, .null, .int (tl_I (0 : Int))], tl_ia (cy 1) a_from 10 (fun _ => 0)] := hD
  refine lv_aload_n hx hb dX5_init_12 rfl (lv_at hl 0 rfl) ?_
  refine lv_bipush (v := tl_I (10 : Int)) hx hb dX5_init_13 rfl ?_
  refine tr_newa (N' := 10) hx hb rfl (hts _ tw_111) (fun C h => by cases h) rfl hK 1 rfl hP hD hS hA rfl (by decide) (by decide) (Nat.le_of_ble_eq_true rfl) (Nat.le_of_ble_eq_true rfl) dX5_init_15 (fun a_to H hP hD hS => ?_)
  have hP : va_P D vwCl [tl_ob a_this 6 [.ref a_from, .null, .null, .null, .int (tl_I (0 : Int))], tl_ia (cy 1) a_from 10 (fun _ => 0), tl_ia (cy 1) a_to 10 (fun _ => 0)] H := hP
  have hD : va_D A [tl_ob a_this 6 [.ref a_from, .null, .null, .null, .int (tl_I (0 : Int))], tl_ia (cy 1) a_from 10 (fun _ => 0), tl_ia (cy 1) a_to 10 (fun _ => 0)] := hD
  refine va_putF (ci := 6) (v := .ref a_to) (ty := .array .int) (C := RX5) (T := TX5) (N := 5) hx hb hts in_X5 tyX5 tyX5_ok nmX5 hown hK hP hD hS 0 rfl rfl 1 (by decide) (hts _ tw_96) (fun _ h9 => h9) rfl hnm rfl (by decide +kernel) rfl rfl (Nat.le_of_ble_eq_true rfl) dX5_init_17 (fun H locs hP hD hS => ?_)
  have hP : va_P D vwCl [tl_ob a_this 6 [.ref a_from, .ref a_to, .null, .null, .int (tl_I (0 : Int))], tl_ia (cy 1) a_from 10 (fun _ => 0), tl_ia (cy 1) a_to 10 (fun _ => 0)] H := hP
  have hD : va_D A [tl_ob a_this 6 [.ref a_from, .ref a_to, .null, .null, .int (tl_I (0 : Int))], tl_ia (cy 1) a_from 10 (fun _ => 0), tl_ia (cy 1) a_to 10 (fun _ => 0)] := hD
  refine lv_aload_n hx hb dX5_init_20 rfl (lv_at hl 0 rfl) ?_
  refine lv_bipush (v := tl_I (10 : Int)) hx hb dX5_init_21 rfl ?_
  refine tr_newa (N' := 10) hx hb rfl (hts _ tw_111) (fun C h => by cases h) rfl hK 1 rfl hP hD hS hA rfl (by decide) (by decide) (Nat.le_of_ble_eq_true rfl) (Nat.le_of_ble_eq_true rfl) dX5_init_23 (fun a_forms H hP hD hS => ?_)
  have hP : va_P D vwCl [tl_ob a_this 6 [.ref a_from, .ref a_to, .null, .null, .int (tl_I (0 : Int))], tl_ia (cy 1) a_from 10 (fun _ => 0), tl_ia (cy 1) a_to 10 (fun _ => 0), tl_ia (cy 1) a_forms 10 (fun _ => 0)] H := hP
  have hD : va_D A [tl_ob a_this 6 [.ref a_from, .ref a_to, .null, .null, .int (tl_I (0 : Int))], tl_ia (cy 1) a_from 10 (fun _ => 0), tl_ia (cy 1) a_to 10 (fun _ => 0), tl_ia (cy 1) a_forms 10 (fun _ => 0)] := hD
  refine va_putF (ci := 6) (v := .ref a_forms) (ty := .array .int) (C := RX5) (T := TX5) (N := 5) hx hb hts in_X5 tyX5 tyX5_ok nmX5 hown hK hP hD hS 0 rfl rfl 2 (by decide) (hts _ tw_97) (fun _ h9 => h9) rfl hnm rfl (by decide +kernel) rfl rfl (Nat.le_of_ble_eq_true rfl) dX5_init_25 (fun H locs hP hD hS => ?_)
  have hP : va_P D vwCl [tl_ob a_this 6 [.ref a_from, .ref a_to, .ref a_forms, .null, .int (tl_I (0 : Int))], tl_ia (cy 1) a_from 10 (fun _ => 0), tl_ia (cy 1) a_to 10 (fun _ => 0), tl_ia (cy 1) a_forms 10 (fun _ => 0)] H := hP
  have hD : va_D A [tl_ob a_this 6 [.ref a_from, .ref a_to, .ref a_forms, .null, .int (tl_I (0 : Int))], tl_ia (cy 1) a_from 10 (fun _ => 0), tl_ia (cy 1) a_to 10 (fun _ => 0), tl_ia (cy 1) a_forms 10 (fun _ => 0)] := hD
  refine lv_aload_n hx hb dX5_init_28 rfl (lv_at hl 0 rfl) ?_
  refine lv_bipush (v := tl_I (10 : Int)) hx hb dX5_init_29 rfl ?_
  refine tr_newa (N' := 10) hx hb rfl (hts _ tw_111) (fun C h => by cases h) rfl hK 1 rfl hP hD hS hA rfl (by decide) (by decide) (Nat.le_of_ble_eq_true rfl) (Nat.le_of_ble_eq_true rfl) dX5_init_31 (fun a_rules H hP hD hS => ?_)
  have hP : va_P D vwCl [tl_ob a_this 6 [.ref a_from, .ref a_to, .ref a_forms, .null, .int (tl_I (0 : Int))], tl_ia (cy 1) a_from 10 (fun _ => 0), tl_ia (cy 1) a_to 10 (fun _ => 0), tl_ia (cy 1) a_forms 10 (fun _ => 0), tl_ia (cy 1) a_rules 10 (fun _ => 0)] H := hP
  have hD : va_D A [tl_ob a_this 6 [.ref a_from, .ref a_to, .ref a_forms, .null, .int (tl_I (0 : Int))], tl_ia (cy 1) a_from 10 (fun _ => 0), tl_ia (cy 1) a_to 10 (fun _ => 0), tl_ia (cy 1) a_forms 10 (fun _ => 0), tl_ia (cy 1) a_rules 10 (fun _ => 0)] := hD
  refine va_putF (ci := 6) (v := .ref a_rules) (ty := .array .int) (C := RX5) (T := TX5) (N := 5) hx hb hts in_X5 tyX5 tyX5_ok nmX5 hown hK hP hD hS 0 rfl rfl 3 (by decide) (hts _ tw_98) (fun _ h9 => h9) rfl hnm rfl (by decide +kernel) rfl rfl (Nat.le_of_ble_eq_true rfl) dX5_init_33 (fun H locs hP hD hS => ?_)
  have hP : va_P D vwCl [tl_ob a_this 6 [.ref a_from, .ref a_to, .ref a_forms, .ref a_rules, .int (tl_I (0 : Int))], tl_ia (cy 1) a_from 10 (fun _ => 0), tl_ia (cy 1) a_to 10 (fun _ => 0), tl_ia (cy 1) a_forms 10 (fun _ => 0), tl_ia (cy 1) a_rules 10 (fun _ => 0)] H := hP
  have hD : va_D A [tl_ob a_this 6 [.ref a_from, .ref a_to, .ref a_forms, .ref a_rules, .int (tl_I (0 : Int))], tl_ia (cy 1) a_from 10 (fun _ => 0), tl_ia (cy 1) a_to 10 (fun _ => 0), tl_ia (cy 1) a_forms 10 (fun _ => 0), tl_ia (cy 1) a_rules 10 (fun _ => 0)] := hD
  injection hf with hf
  subst hf
  exact W.vret hx hb hr (fun t ht hW => tl_fin hAe ⟨a_forms, a_from, a_rules, a_to, rfl, rfl⟩ (hP.sub (ws' := [tl_ob a_this 6 [.ref a_from, .ref a_to, .ref a_forms, .ref a_rules, .int (tl_I (0 : Int))], tl_ia (cy 1) a_forms 10 (fun _ => 0), tl_ia (cy 1) a_from 10 (fun _ => 0), tl_ia (cy 1) a_rules 10 (fun _ => 0), tl_ia (cy 1) a_to 10 (fun _ => 0)]) [0, 3, 1, 4, 2] rfl) hK (hD.sub (ws' := [tl_ob a_this 6 [.ref a_from, .ref a_to, .ref a_forms, .ref a_rules, .int (tl_I (0 : Int))], tl_ia (cy 1) a_forms 10 (fun _ => 0), tl_ia (cy 1) a_from 10 (fun _ => 0), tl_ia (cy 1) a_rules 10 (fun _ => 0), tl_ia (cy 1) a_to 10 (fun _ => 0)]) [0, 3, 1, 4, 2] (by decide) rfl) hS ht hW) hS.2.2 dX5_init_36
set_option maxHeartbeats 4000000 in
set_option maxRecDepth 100000 in
theorem kt_X6_init (l : Launch) (D : va_G) (cy : Nat → ClassId) (a_this a_numbers : Nat)   (z : Unit) (hf : fX6_init  = some z) :
    tl_MC l D (tl_tys cy) yX6_init (tl_w yX6_init cX6_init 1 none) { frames := 1, cells := 1, slots := 100, locals := 12 } [.ref a_this] [tl_ob a_this 7 [.null, .int (tl_I (0 : Int))]] 1 100 (fun v w1 => ∃ a_numbers : Nat, v = none ∧ w1 = [tl_ob a_this 7 [.ref a_numbers, .int (tl_I (0 : Int))], tl_ia (cy 1) a_numbers 100 (fun _ => 0)]) := by
  refine tl_ofW (cc := cX6_init) (maxL := 1) (ret := none) (by decide +kernel) (Nat.le_of_ble_eq_true rfl) ?_
  intro p e s m below meth c hx hb hr hml hts hown hlocks hnm A hAe hA hP hK hD hS ls hl
  have hl : lv_has ls 1 [(0, .ref a_this)] := hl
  unfold fX6_init at hf
  refine lv_aload_n hx hb dX6_init_0 rfl (lv_at hl 0 rfl) ?_
  refine W.objInit hx hb hown (hts _ tw_117) (hts _ tw_87) (hts _ tw_88) rfl (by rw [hml]; exact hl.1) rfl dX6_init_1 (Nat.le_of_ble_eq_true rfl) (Nat.le_of_ble_eq_true rfl) ?_
  refine W.eq (g2 := F0 m 4 ls []) rfl ?_
  refine lv_aload_n hx hb dX6_init_4 rfl (lv_at hl 0 rfl) ?_
  refine lv_bipush (v := tl_I (100 : Int)) hx hb dX6_init_5 rfl ?_
  refine tr_newa (N' := 100) hx hb rfl (hts _ tw_111) (fun C h => by cases h) rfl hK 1 rfl hP hD hS hA rfl (by decide) (by decide) (Nat.le_of_ble_eq_true rfl) (Nat.le_of_ble_eq_true rfl) dX6_init_7 (fun a_numbers H hP hD hS => ?_)
  have hP : va_P D vwCl [tl_ob a_this 7 [.null, .int (tl_I (0 : Int))], tl_ia (cy 1) a_numbers 100 (fun _ => 0)] H := hP
  have hD : va_D A [tl_ob a_this 7 [.null, .int (tl_I (0 : Int))], tl_ia (cy 1) a_numbers 100 (fun _ => 0)] := hD
  refine va_putF (ci := 7) (v := .ref a_numbers) (ty := .array .int) (C := RX6) (T := TX6) (N := 2) hx hb hts in_X6 tyX6 tyX6_ok nmX6 hown hK hP hD hS 0 rfl rfl 0 (by decide) (hts _ tw_118) (fun _ h9 => h9) rfl hnm rfl (by decide +kernel) rfl rfl (Nat.le_of_ble_eq_true rfl) dX6_init_9 (fun H locs hP hD hS => ?_)
  have hP : va_P D vwCl [tl_ob a_this 7 [.ref a_numbers, .int (tl_I (0 : Int))], tl_ia (cy 1) a_numbers 100 (fun _ => 0)] H := hP
  have hD : va_D A [tl_ob a_this 7 [.ref a_numbers, .int (tl_I (0 : Int))], tl_ia (cy 1) a_numbers 100 (fun _ => 0)] := hD
  injection hf with hf
  subst hf
  exact W.vret hx hb hr (fun t ht hW => tl_fin hAe ⟨a_numbers, rfl, rfl⟩ (hP.sub (ws' := [tl_ob a_this 7 [.ref a_numbers, .int (tl_I (0 : Int))], tl_ia (cy 1) a_numbers 100 (fun _ => 0)]) [0, 1] rfl) hK (hD.sub (ws' := [tl_ob a_this 7 [.ref a_numbers, .int (tl_I (0 : Int))], tl_ia (cy 1) a_numbers 100 (fun _ => 0)]) [0, 1] (by decide) rfl) hS ht hW) hS.2.2 dX6_init_12
set_option maxHeartbeats 4000000 in
set_option maxRecDepth 100000 in
theorem kt_X3_init (l : Launch) (D : va_G) (cy : Nat → ClassId) (a_this a_words a_lengths : Nat)   (z : Unit) (hf : fX3_init  = some z) :
    tl_MC l D (tl_tys cy) yX3_init (tl_w yX3_init cX3_init 1 none) { frames := 1, cells := 2, slots := 3000, locals := 12 } [.ref a_this] [tl_ob a_this 4 [.null, .null]] 2 3000 (fun v w1 => ∃ a_lengths : Nat, ∃ a_words : Nat, v = none ∧ w1 = [tl_ob a_this 4 [.ref a_words, .ref a_lengths], tl_ia (cy 1) a_lengths 1000 (fun _ => 0), tl_ja (cy 2) a_words 2000 (fun _ => 0)]) := by
  refine tl_ofW (cc := cX3_init) (maxL := 1) (ret := none) (by decide +kernel) (Nat.le_of_ble_eq_true rfl) ?_
  intro p e s m below meth c hx hb hr hml hts hown hlocks hnm A hAe hA hP hK hD hS ls hl
  have hl : lv_has ls 1 [(0, .ref a_this)] := hl
  unfold fX3_init at hf
  refine lv_aload_n hx hb dX3_init_0 rfl (lv_at hl 0 rfl) ?_
  refine W.objInit hx hb hown (hts _ tw_240) (hts _ tw_87) (hts _ tw_88) rfl (by rw [hml]; exact hl.1) rfl dX3_init_1 (Nat.le_of_ble_eq_true rfl) (Nat.le_of_ble_eq_true rfl) ?_
  refine W.eq (g2 := F0 m 4 ls []) rfl ?_
  refine lv_aload_n hx hb dX3_init_4 rfl (lv_at hl 0 rfl) ?_
  refine lv_sipush (v := tl_I (2000 : Int)) hx hb dX3_init_5 rfl ?_
  refine tr_newl (N' := 2000) hx hb rfl (hts _ tw_248) hK 2 rfl hP hD hS hA rfl (by decide) (by decide) (Nat.le_of_ble_eq_true rfl) (Nat.le_of_ble_eq_true rfl) dX3_init_8 (fun a_words H hP hD hS => ?_)
  have hP : va_P D vwCl [tl_ob a_this 4 [.null, .null], tl_ja (cy 2) a_words 2000 (fun _ => 0)] H := hP
  have hD : va_D A [tl_ob a_this 4 [.null, .null], tl_ja (cy 2) a_words 2000 (fun _ => 0)] := hD
  refine va_putF (ci := 4) (v := .ref a_words) (ty := .array .long) (C := RX3) (T := TX3) (N := 2) hx hb hts in_X3 tyX3 tyX3_ok nmX3 hown hK hP hD hS 0 rfl rfl 0 (by decide) (hts _ tw_241) (fun _ h9 => h9) rfl hnm rfl (by decide +kernel) rfl rfl (Nat.le_of_ble_eq_true rfl) dX3_init_10 (fun H locs hP hD hS => ?_)
  have hP : va_P D vwCl [tl_ob a_this 4 [.ref a_words, .null], tl_ja (cy 2) a_words 2000 (fun _ => 0)] H := hP
  have hD : va_D A [tl_ob a_this 4 [.ref a_words, .null], tl_ja (cy 2) a_words 2000 (fun _ => 0)] := hD
  refine lv_aload_n hx hb dX3_init_13 rfl (lv_at hl 0 rfl) ?_
  refine lv_sipush (v := tl_I (1000 : Int)) hx hb dX3_init_14 rfl ?_
  refine tr_newa (N' := 1000) hx hb rfl (hts _ tw_111) (fun C h => by cases h) rfl hK 1 rfl hP hD hS hA rfl (by decide) (by decide) (Nat.le_of_ble_eq_true rfl) (Nat.le_of_ble_eq_true rfl) dX3_init_17 (fun a_lengths H hP hD hS => ?_)
  have hP : va_P D vwCl [tl_ob a_this 4 [.ref a_words, .null], tl_ja (cy 2) a_words 2000 (fun _ => 0), tl_ia (cy 1) a_lengths 1000 (fun _ => 0)] H := hP
  have hD : va_D A [tl_ob a_this 4 [.ref a_words, .null], tl_ja (cy 2) a_words 2000 (fun _ => 0), tl_ia (cy 1) a_lengths 1000 (fun _ => 0)] := hD
  refine va_putF (ci := 4) (v := .ref a_lengths) (ty := .array .int) (C := RX3) (T := TX3) (N := 2) hx hb hts in_X3 tyX3 tyX3_ok nmX3 hown hK hP hD hS 0 rfl rfl 1 (by decide) (hts _ tw_242) (fun _ h9 => h9) rfl hnm rfl (by decide +kernel) rfl rfl (Nat.le_of_ble_eq_true rfl) dX3_init_19 (fun H locs hP hD hS => ?_)
  have hP : va_P D vwCl [tl_ob a_this 4 [.ref a_words, .ref a_lengths], tl_ja (cy 2) a_words 2000 (fun _ => 0), tl_ia (cy 1) a_lengths 1000 (fun _ => 0)] H := hP
  have hD : va_D A [tl_ob a_this 4 [.ref a_words, .ref a_lengths], tl_ja (cy 2) a_words 2000 (fun _ => 0), tl_ia (cy 1) a_lengths 1000 (fun _ => 0)] := hD
  injection hf with hf
  subst hf
  exact W.vret hx hb hr (fun t ht hW => tl_fin hAe ⟨a_lengths, a_words, rfl, rfl⟩ (hP.sub (ws' := [tl_ob a_this 4 [.ref a_words, .ref a_lengths], tl_ia (cy 1) a_lengths 1000 (fun _ => 0), tl_ja (cy 2) a_words 2000 (fun _ => 0)]) [0, 2, 1] rfl) hK (hD.sub (ws' := [tl_ob a_this 4 [.ref a_words, .ref a_lengths], tl_ia (cy 1) a_lengths 1000 (fun _ => 0), tl_ja (cy 2) a_words 2000 (fun _ => 0)]) [0, 2, 1] (by decide) rfl) hS ht hW) hS.2.2 dX3_init_22
set_option maxHeartbeats 4000000 in
set_option maxRecDepth 100000 in
theorem kt_X1_init (l : Launch) (D : va_G) (cy : Nat → ClassId) (a_this a_numbers a_kinds a_has a_had : Nat) (v_numbers : Nat → Int)  (z : Unit) (hf : fX1_init v_numbers = some z) :
    tl_MC l D (tl_tys cy) yX1_init (tl_w yX1_init cX1_init 2 none) { frames := 2, cells := 8, slots := 6204, locals := 32 } [.ref a_this] [tl_ob a_this 2 [.null, .null, .null, .null, .int (tl_I (0 : Int)), .int (tl_I (0 : Int))], tl_ia (cy 1) a_numbers 100 v_numbers] 8 6204 (fun v w1 => v = none ∧ w1 = [tl_ob a_this 2 [.ref a_numbers, .ref a_kinds, .ref a_has, .ref a_had, .int (tl_I (0 : Int)), .int (tl_I (0 : Int))], tl_ia (cy 1) a_numbers 100 x4]) := by
  refine tl_ofW (cc := cX1_init) (maxL := 2) (ret := none) (by decide +kernel) (Nat.le_of_ble_eq_true rfl) ?_
  intro p e s m below meth c hx hb hr hml hts hown hlocks hnm A hAe hA hP hK hD hS ls hl
  have hl : lv_has ls 2 [(0, .ref a_this)] := hl
  unfold fX1_init at hf
  refine lv_aload_n hx hb dX1_init_0 rfl (lv_at hl 0 rfl) ?_
  refine W.objInit hx hb hown (hts _ tw_234) (hts _ tw_87) (hts _ tw_88) rfl (by rw [hml]; exact hl.1) rfl dX1_init_1 (Nat.le_of_ble_eq_true rfl) (Nat.le_of_ble_eq_true rfl) ?_
  refine W.eq (g2 := F0 m 4 ls []) rfl ?_
  refine lv_aload_n hx hb dX1_init_4 rfl (lv_at hl 0 rfl) ?_
  refine lv_bipush (v := tl_I (100 : Int)) hx hb dX1_init_5 rfl ?_
  refine tr_newa (N' := 100) hx hb rfl (hts _ tw_111) (fun C h => by cases h) rfl hK 1 rfl hP hD hS hA rfl (by decide) (by decide) (Nat.le_of_ble_eq_true rfl) (Nat.le_of_ble_eq_true rfl) dX1_init_7 (fun a_numbers H hP hD hS => ?_)
  have hP : va_P D vwCl [tl_ob a_this 2 [.null, .null, .null, .null, .int (tl_I (0 : Int)), .int (tl_I (0 : Int))], tl_ia (cy 1) a_numbers 100 (fun _ => 0), tl_ia (cy 1) a_numbers 100 (fun _ => 0)] H := hP
  have hD : va_D A [tl_ob a_this 2 [.null, .null, .null, .null, .int (tl_I (0 : Int)), .int (tl_I (0 : Int))], tl_ia (cy 1) a_numbers 100 (fun _ => 0), tl_ia (cy 1) a_numbers 100 (fun _ => 0)] := hD
  refine va_putF (ci := 2) (v := .ref a_numbers) (ty := .array .int) (C := RX1) (T := TX1) (N := 6) hx hb hts in_X1 tyX1 tyX1_ok nmX1 hown hK hP hD hS 0 rfl rfl 0 (by decide) (hts _ tw_249) (fun _ h9 => h9) rfl hnm rfl (by decide +kernel) rfl rfl (Nat.le_of_ble_eq_true rfl) dX1_init_9 (fun H locs hP hD hS => ?_)
  have hP : va_P D vwCl [tl_ob a_this 2 [.ref a_numbers, .null, .null, .null, .int (tl_I (0 : Int)), .int (tl_I (0 : Int))], tl_ia (cy 1) a_numbers 100 (fun _ => 0), tl_ia (cy 1) a_numbers 100 (fun _ => 0)] H := hP
  have hD : va_D A [tl_ob a_this 2 [.ref a_numbers, .null, .null, .null, .int (tl_I (0 : Int)), .int (tl_I (0 : Int))], tl_ia (cy 1) a_numbers 100 (fun _ => 0), tl_ia (cy 1) a_numbers 100 (fun _ => 0)] := hD
  refine lv_aload_n hx hb dX1_init_12 rfl (lv_at hl 0 rfl) ?_
  refine lv_bipush (v := tl_I (100 : Int)) hx hb dX1_init_13 rfl ?_
  refine tr_newa (N' := 100) hx hb rfl (hts _ tw_111) (fun C h => by cases h) rfl hK 1 rfl hP hD hS hA rfl (by decide) (by decide) (Nat.le_of_ble_eq_true rfl) (Nat.le_of_ble_eq_true rfl) dX1_init_15 (fun a_kinds H hP hD hS => ?_)
  have hP : va_P D vwCl [tl_ob a_this 2 [.ref a_numbers, .null, .null, .null, .int (tl_I (0 : Int)), .int (tl_I (0 : Int))], tl_ia (cy 1) a_numbers 100 (fun _ => 0), tl_ia (cy 1) a_numbers 100 (fun _ => 0), tl_ia (cy 1) a_kinds 100 (fun _ => 0)] H := hP
  have hD : va_D A [tl_ob a_this 2 [.ref a_numbers, .null, .null, .null, .int (tl_I (0 : Int)), .int (tl_I (0 : Int))], tl_ia (cy 1) a_numbers 100 (fun _ => 0), tl_ia (cy 1) a_numbers 100 (fun _ => 0), tl_ia (cy 1) a_kinds 100 (fun _ => 0)] := hD
  refine va_putF (ci := 2) (v := .ref a_kinds) (ty := .array .int) (C := RX1) (T := TX1) (N := 6) hx hb hts in_X1 tyX1 tyX1_ok nmX1 hown hK hP hD hS 0 rfl rfl 1 (by decide) (hts _ tw_250) (fun _ h9 => h9) rfl hnm rfl (by decide +kernel) rfl rfl (Nat.le_of_ble_eq_true rfl) dX1_init_17 (fun H locs hP hD hS => ?_)
  have hP : va_P D vwCl [tl_ob a_this 2 [.ref a_numbers, .ref a_kinds, .null, .null, .int (tl_I (0 : Int)), .int (tl_I (0 : Int))], tl_ia (cy 1) a_numbers 100 (fun _ => 0), tl_ia (cy 1) a_numbers 100 (fun _ => 0), tl_ia (cy 1) a_kinds 100 (fun _ => 0)] H := hP
  have hD : va_D A [tl_ob a_this 2 [.ref a_numbers, .ref a_kinds, .null, .null, .int (tl_I (0 : Int)), .int (tl_I (0 : Int))], tl_ia (cy 1) a_numbers 100 (fun _ => 0), tl_ia (cy 1) a_numbers 100 (fun _ => 0), tl_ia (cy 1) a_kinds 100 (fun _ => 0)] := hD
  refine lv_aload_n hx hb dX1_init_20 rfl (lv_at hl 0 rfl) ?_
  refine va_new (ci := 4) (fs := [.null, .null]) (C := RX3) (T := TX3) (N := 2) hx hb hts in_X3 tyX3 tyX3_ok hown (hts _ tw_235) (hts _ tw_236) (hts _ tw_69) hK hP hD hS hA rfl (fun j hj => by rcases (show j = 0 ∨ j = 1 by omega) with rfl | rfl <;> rfl) (Nat.le_of_ble_eq_true rfl) (Nat.le_of_ble_eq_true rfl) dX1_init_21 (fun a_has H hP hD hS => ?_)
  have hP : va_P D vwCl [tl_ob a_this 2 [.ref a_numbers, .ref a_kinds, .null, .null, .int (tl_I (0 : Int)), .int (tl_I (0 : Int))], tl_ia (cy 1) a_numbers 100 (fun _ => 0), tl_ia (cy 1) a_numbers 100 (fun _ => 0), tl_ia (cy 1) a_kinds 100 (fun _ => 0), tl_ob a_has 4 [.null, .null]] H := hP
  have hD : va_D A [tl_ob a_this 2 [.ref a_numbers, .ref a_kinds, .null, .null, .int (tl_I (0 : Int)), .int (tl_I (0 : Int))], tl_ia (cy 1) a_numbers 100 (fun _ => 0), tl_ia (cy 1) a_numbers 100 (fun _ => 0), tl_ia (cy 1) a_kinds 100 (fun _ => 0), tl_ob a_has 4 [.null, .null]] := hD
  refine lv_dup hx hb dX1_init_24 rfl ?_
  obtain ⟨z1, hz, hf⟩ := tl_bs hf
  refine tl_callI (As := []) (rest := [.ref a_has, .ref a_this]) (wr := [tl_ob a_this 2 [.ref a_numbers, .ref a_kinds, .null, .null, .int (tl_I (0 : Int)), .int (tl_I (0 : Int))], tl_ia (cy 1) a_numbers 100 (fun _ => 0), tl_ia (cy 1) a_numbers 100 (fun _ => 0), tl_ia (cy 1) a_kinds 100 (fun _ => 0)]) ⟨hx, hb, hml, hown, hts⟩ (kt_X3_init l D cy a_has a_has_words a_has_lengths z1 hz) (cwI 0 hts (tl_wgood tw_239) rfl rfl rfl (hts _ tw_69) (hts _ tw_237) (hts _ tw_238) rfl (by decide +kernel) ⟨by decide, by decide⟩) hK hP hD hS hA [4] [0, 1, 2, 3] rfl rfl rfl rfl (by decide) rfl hl.1 rfl (Nat.le_of_ble_eq_true rfl) dX1_init_25 ⟨Nat.le_of_ble_eq_true rfl, Nat.le_of_ble_eq_true rfl⟩ (fun v w1 H locs hp hP hD hS => ?_)
  obtain ⟨a_has_lengths, a_has_words, rfl, rfl⟩ := hp
  have hP : va_P D vwCl [tl_ob a_this 2 [.ref a_numbers, .ref a_kinds, .null, .null, .int (tl_I (0 : Int)), .int (tl_I (0 : Int))], tl_ia (cy 1) a_numbers 100 (fun _ => 0), tl_ia (cy 1) a_numbers 100 (fun _ => 0), tl_ia (cy 1) a_kinds 100 (fun _ => 0), tl_ob a_has 4 [.ref a_has_words, .ref a_has_lengths], tl_ia (cy 1) a_has_lengths 1000 (fun _ => 0), tl_ja (cy 2) a_has_words 2000 (fun _ => 0)] H := hP
  have hD : va_D A [tl_ob a_this 2 [.ref a_numbers, .ref a_kinds, .null, .null, .int (tl_I (0 : Int)), .int (tl_I (0 : Int))], tl_ia (cy 1) a_numbers 100 (fun _ => 0), tl_ia (cy 1) a_numbers 100 (fun _ => 0), tl_ia (cy 1) a_kinds 100 (fun _ => 0), tl_ob a_has 4 [.ref a_has_words, .ref a_has_lengths], tl_ia (cy 1) a_has_lengths 1000 (fun _ => 0), tl_ja (cy 2) a_has_words 2000 (fun _ => 0)] := hD
  refine W.eq (g2 := F0 m 28 ls [.ref a_has, .ref a_this]) rfl ?_
  refine va_putF (ci := 2) (v := .ref a_has) (ty := .object "TwinLinks$Rows") (C := RX1) (T := TX1) (N := 6) hx hb hts in_X1 tyX1 tyX1_ok nmX1 hown hK hP hD hS 0 rfl rfl 2 (by decide) (hts _ tw_251) (fun _ h9 => h9) rfl hnm rfl (by decide +kernel) rfl rfl (Nat.le_of_ble_eq_true rfl) dX1_init_28 (fun H locs hP hD hS => ?_)
  have hP : va_P D vwCl [tl_ob a_this 2 [.ref a_numbers, .ref a_kinds, .ref a_has, .null, .int (tl_I (0 : Int)), .int (tl_I (0 : Int))], tl_ia (cy 1) a_numbers 100 (fun _ => 0), tl_ia (cy 1) a_numbers 100 (fun _ => 0), tl_ia (cy 1) a_kinds 100 (fun _ => 0), tl_ob a_has 4 [.ref a_has_words, .ref a_has_lengths], tl_ia (cy 1) a_has_lengths 1000 (fun _ => 0), tl_ja (cy 2) a_has_words 2000 (fun _ => 0)] H := hP
  have hD : va_D A [tl_ob a_this 2 [.ref a_numbers, .ref a_kinds, .ref a_has, .null, .int (tl_I (0 : Int)), .int (tl_I (0 : Int))], tl_ia (cy 1) a_numbers 100 (fun _ => 0), tl_ia (cy 1) a_numbers 100 (fun _ => 0), tl_ia (cy 1) a_kinds 100 (fun _ => 0), tl_ob a_has 4 [.ref a_has_words, .ref a_has_lengths], tl_ia (cy 1) a_has_lengths 1000 (fun _ => 0), tl_ja (cy 2) a_has_words 2000 (fun _ => 0)] := hD
  refine lv_aload_n hx hb dX1_init_31 rfl (lv_at hl 0 rfl) ?_
  refine va_new (ci := 4) (fs := [.null, .null]) (C := RX3) (T := TX3) (N := 2) hx hb hts in_X3 tyX3 tyX3_ok hown (hts _ tw_235) (hts _ tw_236) (hts _ tw_69) hK hP hD hS hA rfl (fun j hj => by rcases (show j = 0 ∨ j = 1 by omega) with rfl | rfl <;> rfl) (Nat.le_of_ble_eq_true rfl) (Nat.le_of_ble_eq_true rfl) dX1_init_32 (fun a_had H hP hD hS => ?_)
  have hP : va_P D vwCl [tl_ob a_this 2 [.ref a_numbers, .ref a_kinds, .ref a_has, .null, .int (tl_I (0 : Int)), .int (tl_I (0 : Int))], tl_ia (cy 1) a_numbers 100 (fun _ => 0), tl_ia (cy 1) a_numbers 100 (fun _ => 0), tl_ia (cy 1) a_kinds 100 (fun _ => 0), tl_ob a_has 4 [.ref a_has_words, .ref a_has_lengths], tl_ia (cy 1) a_has_lengths 1000 (fun _ => 0), tl_ja (cy 2) a_has_words 2000 (fun _ => 0), tl_ob a_had 4 [.null, .null]] H := hP
  have hD : va_D A [tl_ob a_this 2 [.ref a_numbers, .ref a_kinds, .ref a_has, .null, .int (tl_I (0 : Int)), .int (tl_I (0 : Int))], tl_ia (cy 1) a_numbers 100 (fun _ => 0), tl_ia (cy 1) a_numbers 100 (fun _ => 0), tl_ia (cy 1) a_kinds 100 (fun _ => 0), tl_ob a_has 4 [.ref a_has_words, .ref a_has_lengths], tl_ia (cy 1) a_has_lengths 1000 (fun _ => 0), tl_ja (cy 2) a_has_words 2000 (fun _ => 0), tl_ob a_had 4 [.null, .null]] := hD
  refine lv_dup hx hb dX1_init_35 rfl ?_
  obtain ⟨z2, hz, hf⟩ := tl_bs hf
  refine tl_callI (As := []) (rest := [.ref a_had, .ref a_this]) (wr := [tl_ob a_this 2 [.ref a_numbers, .ref a_kinds, .ref a_has, .null, .int (tl_I (0 : Int)), .int (tl_I (0 : Int))], tl_ia (cy 1) a_numbers 100 (fun _ => 0), tl_ia (cy 1) a_numbers 100 (fun _ => 0), tl_ia (cy 1) a_kinds 100 (fun _ => 0), tl_ob a_has 4 [.ref a_has_words, .ref a_has_lengths], tl_ia (cy 1) a_has_lengths 1000 (fun _ => 0), tl_ja (cy 2) a_has_words 2000 (fun _ => 0)]) ⟨hx, hb, hml, hown, hts⟩ (kt_X3_init l D cy a_had a_had_words a_had_lengths z2 hz) (cwI 0 hts (tl_wgood tw_239) rfl rfl rfl (hts _ tw_69) (hts _ tw_237) (hts _ tw_238) rfl (by decide +kernel) ⟨by decide, by decide⟩) hK hP hD hS hA [7] [0, 1, 2, 3, 4, 5, 6] rfl rfl rfl rfl (by decide) rfl hl.1 rfl (Nat.le_of_ble_eq_true rfl) dX1_init_36 ⟨Nat.le_of_ble_eq_true rfl, Nat.le_of_ble_eq_true rfl⟩ (fun v w1 H locs hp hP hD hS => ?_)
  obtain ⟨a_had_lengths, a_had_words, rfl, rfl⟩ := hp
  have hP : va_P D vwCl [tl_ob a_this 2 [.ref a_numbers, .ref a_kinds, .ref a_has, .null, .int (tl_I (0 : Int)), .int (tl_I (0 : Int))], tl_ia (cy 1) a_numbers 100 (fun _ => 0), tl_ia (cy 1) a_numbers 100 (fun _ => 0), tl_ia (cy 1) a_kinds 100 (fun _ => 0), tl_ob a_has 4 [.ref a_has_words, .ref a_has_lengths], tl_ia (cy 1) a_has_lengths 1000 (fun _ => 0), tl_ja (cy 2) a_has_words 2000 (fun _ => 0), tl_ob a_had 4 [.ref a_had_words, .ref a_had_lengths], tl_ia (cy 1) a_had_lengths 1000 (fun _ => 0), tl_ja (cy 2) a_had_words 2000 (fun _ => 0)] H := hP
  have hD : va_D A [tl_ob a_this 2 [.ref a_numbers, .ref a_kinds, .ref a_has, .null, .int (tl_I (0 : Int)), .int (tl_I (0 : Int))], tl_ia (cy 1) a_numbers 100 (fun _ => 0), tl_ia (cy 1) a_numbers 100 (fun _ => 0), tl_ia (cy 1) a_kinds 100 (fun _ => 0), tl_ob a_has 4 [.ref a_has_words, .ref a_has_lengths], tl_ia (cy 1) a_has_lengths 1000 (fun _ => 0), tl_ja (cy 2) a_has_words 2000 (fun _ => 0), tl_ob a_had 4 [.ref a_had_words, .ref a_had_lengths], tl_ia (cy 1) a_had_lengths 1000 (fun _ => 0), tl_ja (cy 2) a_had_words 2000 (fun _ => 0)] := hD
  refine W.eq (g2 := F0 m 39 ls [.ref a_had, .ref a_this]) rfl ?_
  refine va_putF (ci := 2) (v := .ref a_had) (ty := .object "TwinLinks$Rows") (C := RX1) (T := TX1) (N := 6) hx hb hts in_X1 tyX1 tyX1_ok nmX1 hown hK hP hD hS 0 rfl rfl 3 (by decide) (hts _ tw_252) (fun _ h9 => h9) rfl hnm rfl (by decide +kernel) rfl rfl (Nat.le_of_ble_eq_true rfl) dX1_init_39 (fun H locs hP hD hS => ?_)
  have hP : va_P D vwCl [tl_ob a_this 2 [.ref a_numbers, .ref a_kinds, .ref a_has, .ref a_had, .int (tl_I (0 : Int)), .int (tl_I (0 : Int))], tl_ia (cy 1) a_numbers 100 (fun _ => 0), tl_ia (cy 1) a_numbers 100 (fun _ => 0), tl_ia (cy 1) a_kinds 100 (fun _ => 0), tl_ob a_has 4 [.ref a_has_words, .ref a_has_lengths], tl_ia (cy 1) a_has_lengths 1000 (fun _ => 0), tl_ja (cy 2) a_has_words 2000 (fun _ => 0), tl_ob a_had 4 [.ref a_had_words, .ref a_had_lengths], tl_ia (cy 1) a_had_lengths 1000 (fun _ => 0), tl_ja (cy 2) a_had_words 2000 (fun _ => 0)] H := hP
  have hD : va_D A [tl_ob a_this 2 [.ref a_numbers, .ref a_kinds, .ref a_has, .ref a_had, .int (tl_I (0 : Int)), .int (tl_I (0 : Int))], tl_ia (cy 1) a_numbers 100 (fun _ => 0), tl_ia (cy 1) a_numbers 100 (fun _ => 0), tl_ia (cy 1) a_kinds 100 (fun _ => 0), tl_ob a_has 4 [.ref a_has_words, .ref a_has_lengths], tl_ia (cy 1) a_has_lengths 1000 (fun _ => 0), tl_ja (cy 2) a_has_words 2000 (fun _ => 0), tl_ob a_had 4 [.ref a_had_words, .ref a_had_lengths], tl_ia (cy 1) a_had_lengths 1000 (fun _ => 0), tl_ja (cy 2) a_had_words 2000 (fun _ => 0)] := hD
  refine lv_iconst (v := tl_I (0 : Int)) hx hb dX1_init_42 rfl ?_
  refine lv_istore_n (lv' := [(1, .int (tl_I (0 : Int))), (0, .ref a_this)]) hx hb dX1_init_43 rfl hl (by decide) rfl (fun ls hl => ?_)
  have lp1 : ∀ (n : Nat) (x3 : Int) (x4 : Nat → Int) (outL1 : Nat → Int), fX1_init_L1 n x3 x4 = some outL1 → ∀ (H : Heap) (locs : List Loc) (ls : Array Slot), va_P D vwCl [tl_ob a_this 2 [.ref a_numbers, .ref a_kinds, .ref a_has, .ref a_had, .int (tl_I (0 : Int)), .int (tl_I (0 : Int))], tl_ia (cy 1) a_numbers 100 x4] H → va_D A [tl_ob a_this 2 [.ref a_numbers, .ref a_kinds, .ref a_has, .ref a_had, .int (tl_I (0 : Int)), .int (tl_I (0 : Int))], tl_ia (cy 1) a_numbers 100 x4] → va_S A s.heap H locs → lv_has ls 2 [(1, .int (tl_I x3)), (0, .ref a_this)] → (∀ (x4 : Nat → Int), outL1 = x4 → ∀ (H : Heap) (locs : List Loc) (ls : Array Slot), va_P D vwCl [tl_ob a_this 2 [.ref a_numbers, .ref a_kinds, .ref a_has, .ref a_had, .int (tl_I (0 : Int)), .int (tl_I (0 : Int))], tl_ia (cy 1) a_numbers 100 x4] H → va_D A [tl_ob a_this 2 [.ref a_numbers, .ref a_kinds, .ref a_has, .ref a_had, .int (tl_I (0 : Int)), .int (tl_I (0 : Int))], tl_ia (cy 1) a_numbers 100 x4] → va_S A s.heap H locs → lv_has ls 2 [] → W p l e { frames := 2, cells := 8, slots := 6204, locals := 32 } s m ([.ref a_this] : List Value).toArray below meth c H locs 8 6204 (MQ below (tl_Q D (tl_tys cy) [tl_ob a_this 2 [.null, .null, .null, .null, .int (tl_I (0 : Int)), .int (tl_I (0 : Int))], tl_ia (cy 1) a_numbers 100 v_numbers] s.heap.size (fun v w1 => v = none ∧ w1 = [tl_ob a_this 2 [.ref a_numbers, .ref a_kinds, .ref a_has, .ref a_had, .int (tl_I (0 : Int)), .int (tl_I (0 : Int))], tl_ia (cy 1) a_numbers 100 x4])) ([.ref a_this] : List Value).toArray s 8 6204 A) (F0 m 63 ls [])) → W p l e { frames := 2, cells := 8, slots := 6204, locals := 32 } s m ([.ref a_this] : List Value).toArray below meth c H locs 8 6204 (MQ below (tl_Q D (tl_tys cy) [tl_ob a_this 2 [.null, .null, .null, .null, .int (tl_I (0 : Int)), .int (tl_I (0 : Int))], tl_ia (cy 1) a_numbers 100 v_numbers] s.heap.size (fun v w1 => v = none ∧ w1 = [tl_ob a_this 2 [.ref a_numbers, .ref a_kinds, .ref a_has, .ref a_had, .int (tl_I (0 : Int)), .int (tl_I (0 : Int))], tl_ia (cy 1) a_numbers 100 x4])) ([.ref a_this] : List Value).toArray s 8 6204 A) (F0 m 44 ls []) := by
    intro n
    induction n with
    | zero =>
      intro x3 x4 outL1 hf
      cases hf
    | succ n ih =>
      intro x3 x4 outL1 hf H locs ls hP hD hS hl hE
      rw [fX1_init_L1] at hf
      refine lv_iload_n hx hb dX1_init_44 rfl (lv_at hl 0 rfl) ?_
      refine lv_bipush (v := tl_I (100 : Int)) hx hb dX1_init_45 rfl ?_
      refine tr_icmp_ge (tgt := 63) hx hb hf dX1_init_47 (by decide) (fun hc hf => ?_) (fun hc hf => ?_)
      · refine lv_aload_n hx hb dX1_init_50 rfl (lv_at hl 1 rfl) ?_
        refine va_get (ci := 2) (v := .ref a_numbers) (C := RX1) (T := TX1) (N := 6) hx hb hts in_X1 hown hK hP 0 rfl rfl 0 (by decide) (hts _ tw_249) (fun _ h9 => h9) rfl dX1_init_51 ?_
        refine lv_iload_n hx hb dX1_init_54 rfl (lv_at hl 0 rfl) ?_
        refine lv_iconst (v := tl_I (-1 : Int)) hx hb dX1_init_55 rfl ?_
        refine tr_iast hx hb hf hK hP hD hS 1 1 rfl rfl (by decide) dX1_init_56 (fun hf H locs hP hD hS => ?_)
        have hP : va_P D vwCl [tl_ob a_this 2 [.ref a_numbers, .ref a_kinds, .ref a_has, .ref a_had, .int (tl_I (0 : Int)), .int (tl_I (0 : Int))], tl_ia (cy 1) a_numbers 100 (va_up x4 x3.toNat (-1 : Int))] H := hP
        have hD : va_D A [tl_ob a_this 2 [.ref a_numbers, .ref a_kinds, .ref a_has, .ref a_had, .int (tl_I (0 : Int)), .int (tl_I (0 : Int))], tl_ia (cy 1) a_numbers 100 (va_up x4 x3.toNat (-1 : Int))] := hD
        refine lv_iinc (v := tl_I (x3 + 1)) (lv' := [(1, .int (tl_I (x3 + 1))), (0, .ref a_this)]) hx hb dX1_init_57 hl (k := 0) rfl (tl_add _ _) (by decide) rfl (fun ls hl => ?_)
        refine lv_goto (tgt := 44) hx hb dX1_init_60 (by decide) ?_
        exact ih (x3 + 1) (va_up x4 x3.toNat (-1 : Int)) outL1 hf _ _ _ (hP.sub (ws' := [tl_ob a_this 2 [.ref a_numbers, .ref a_kinds, .ref a_has, .ref a_had, .int (tl_I (0 : Int)), .int (tl_I (0 : Int))], tl_ia (cy 1) a_numbers 100 (va_up x4 x3.toNat (-1 : Int))]) [0, 1] rfl) (hD.sub (ws' := [tl_ob a_this 2 [.ref a_numbers, .ref a_kinds, .ref a_has, .ref a_had, .int (tl_I (0 : Int)), .int (tl_I (0 : Int))], tl_ia (cy 1) a_numbers 100 (va_up x4 x3.toNat (-1 : Int))]) [0, 1] (by decide) rfl) hS (lv_sub hl [0, 1] rfl) hE
      · injection hf with hf
        subst hf
        exact hE x4 rfl _ _ _ (hP.sub (ws' := [tl_ob a_this 2 [.ref a_numbers, .ref a_kinds, .ref a_has, .ref a_had, .int (tl_I (0 : Int)), .int (tl_I (0 : Int))], tl_ia (cy 1) a_numbers 100 x4]) [0, 1] rfl) (hD.sub (ws' := [tl_ob a_this 2 [.ref a_numbers, .ref a_kinds, .ref a_has, .ref a_had, .int (tl_I (0 : Int)), .int (tl_I (0 : Int))], tl_ia (cy 1) a_numbers 100 x4]) [0, 1] (by decide) rfl) hS (lv_sub hl [] rfl)
  obtain ⟨o, hz, hf⟩ := tl_bs hf
  refine lp1 tl_N (0 : Int) (fun _ => 0) o hz _ _ _ (hP.sub (ws' := [tl_ob a_this 2 [.ref a_numbers, .ref a_kinds, .ref a_has, .ref a_had, .int (tl_I (0 : Int)), .int (tl_I (0 : Int))], tl_ia (cy 1) a_numbers 100 (fun _ => 0)]) [0, 1] rfl) (hD.sub (ws' := [tl_ob a_this 2 [.ref a_numbers, .ref a_kinds, .ref a_has, .ref a_had, .int (tl_I (0 : Int)), .int (tl_I (0 : Int))], tl_ia (cy 1) a_numbers 100 (fun _ => 0)]) [0, 1] (by decide) rfl) hS (lv_sub hl [0, 1] rfl) ?_
  intro x4 ho H locs ls hP hD hS hl
  rw [ho] at hf
  try dsimp only at hf
  injection hf with hf
  subst hf
  exact W.vret hx hb hr (fun t ht hW => tl_fin hAe ⟨rfl, rfl⟩ (hP.sub (ws' := [tl_ob a_this 2 [.ref a_numbers, .ref a_kinds, .ref a_has, .ref a_had, .int (tl_I (0 : Int)), .int (tl_I (0 : Int))], tl_ia (cy 1) a_numbers 100 x4]) [0, 1] rfl) hK (hD.sub (ws' := [tl_ob a_this 2 [.ref a_numbers, .ref a_kinds, .ref a_has, .ref a_had, .int (tl_I (0 : Int)), .int (tl_I (0 : Int))], tl_ia (cy 1) a_numbers 100 x4]) [0, 1] (by decide) rfl) hS ht hW) hS.2.2 dX1_init_63
set_option maxHeartbeats 4000000 in
set_option maxRecDepth 100000 in
theorem kt_X8_init (l : Launch) (D : va_G) (cy : Nat → ClassId) (a_this a_told a_steps a_reached a_spare a_p1 : Nat)   (z : Unit) (hf : fX8_init  = some z) :
    tl_MC l D (tl_tys cy) yX8_init (tl_w yX8_init cX8_init 2 none) { frames := 2, cells := 7, slots := 506, locals := 32 } [.ref a_this, .ref a_p1] [tl_ob a_this 9 [.null, .null, .null, .null]] 7 506 (fun v w1 => ∃ a_reached : Nat, ∃ a_reached_inside : Nat, ∃ a_reached_list : Nat, ∃ a_spare : Nat, ∃ a_spare_inside : Nat, ∃ a_spare_list : Nat, ∃ a_steps : Nat, v = none ∧ w1 = [tl_ob a_this 9 [.ref a_p1, .ref a_steps, .ref a_reached, .ref a_spare], tl_ob a_reached 5 [.ref a_reached_inside, .ref a_reached_list, .int (tl_I (0 : Int))], tl_ia (cy 3) a_reached_inside 100 (fun _ => 0), tl_ia (cy 1) a_reached_list 100 (fun _ => 0), tl_ob a_spare 5 [.ref a_spare_inside, .ref a_spare_list, .int (tl_I (0 : Int))], tl_ia (cy 3) a_spare_inside 100 (fun _ => 0), tl_ia (cy 1) a_spare_list 100 (fun _ => 0), tl_ia (cy 1) a_steps 100 (fun _ => 0)]) := by
  refine tl_ofW (cc := cX8_init) (maxL := 2) (ret := none) (by decide +kernel) (Nat.le_of_ble_eq_true rfl) ?_
  intro p e s m below meth c hx hb hr hml hts hown hlocks hnm A hAe hA hP hK hD hS ls hl
  have hl : lv_has ls 2 [(0, .ref a_this), (1, .ref a_p1)] := hl
  unfold fX8_init at hf
  refine lv_aload_n hx hb dX8_init_0 rfl (lv_at hl 0 rfl) ?_
  refine W.objInit hx hb hown (hts _ tw_130) (hts _ tw_87) (hts _ tw_88) rfl (by rw [hml]; exact hl.1) rfl dX8_init_1 (Nat.le_of_ble_eq_true rfl) (Nat.le_of_ble_eq_true rfl) ?_
  refine W.eq (g2 := F0 m 4 ls []) rfl ?_
  refine lv_aload_n hx hb dX8_init_4 rfl (lv_at hl 0 rfl) ?_
  refine lv_aload_n hx hb dX8_init_5 rfl (lv_at hl 1 rfl) ?_
  refine va_putF (ci := 9) (v := .ref a_p1) (ty := .object "TwinLinks$Told") (C := RX8) (T := TX8) (N := 4) hx hb hts in_X8 tyX8 tyX8_ok nmX8 hown hK hP hD hS 0 rfl rfl 0 (by decide) (hts _ tw_148) (fun _ h9 => h9) rfl hnm rfl (by decide +kernel) rfl rfl (Nat.le_of_ble_eq_true rfl) dX8_init_6 (fun H locs hP hD hS => ?_)
  have hP : va_P D vwCl [tl_ob a_this 9 [.ref a_p1, .null, .null, .null]] H := hP
  have hD : va_D A [tl_ob a_this 9 [.ref a_p1, .null, .null, .null]] := hD
  refine lv_aload_n hx hb dX8_init_9 rfl (lv_at hl 0 rfl) ?_
  refine lv_bipush (v := tl_I (100 : Int)) hx hb dX8_init_10 rfl ?_
  refine tr_newa (N' := 100) hx hb rfl (hts _ tw_111) (fun C h => by cases h) rfl hK 1 rfl hP hD hS hA rfl (by decide) (by decide) (Nat.le_of_ble_eq_true rfl) (Nat.le_of_ble_eq_true rfl) dX8_init_12 (fun a_steps H hP hD hS => ?_)
  have hP : va_P D vwCl [tl_ob a_this 9 [.ref a_p1, .null, .null, .null], tl_ia (cy 1) a_steps 100 (fun _ => 0)] H := hP
  have hD : va_D A [tl_ob a_this 9 [.ref a_p1, .null, .null, .null], tl_ia (cy 1) a_steps 100 (fun _ => 0)] := hD
  refine va_putF (ci := 9) (v := .ref a_steps) (ty := .array .int) (C := RX8) (T := TX8) (N := 4) hx hb hts in_X8 tyX8 tyX8_ok nmX8 hown hK hP hD hS 0 rfl rfl 1 (by decide) (hts _ tw_149) (fun _ h9 => h9) rfl hnm rfl (by decide +kernel) rfl rfl (Nat.le_of_ble_eq_true rfl) dX8_init_14 (fun H locs hP hD hS => ?_)
  have hP : va_P D vwCl [tl_ob a_this 9 [.ref a_p1, .ref a_steps, .null, .null], tl_ia (cy 1) a_steps 100 (fun _ => 0)] H := hP
  have hD : va_D A [tl_ob a_this 9 [.ref a_p1, .ref a_steps, .null, .null], tl_ia (cy 1) a_steps 100 (fun _ => 0)] := hD
  refine lv_aload_n hx hb dX8_init_17 rfl (lv_at hl 0 rfl) ?_
  refine va_new (ci := 5) (fs := [.null, .null, .int (tl_I (0 : Int))]) (C := RX4) (T := TX4) (N := 3) hx hb hts in_X4 tyX4 tyX4_ok hown (hts _ tw_131) (hts _ tw_132) (hts _ tw_64) hK hP hD hS hA rfl (fun j hj => by rcases (show j = 0 ∨ j = 1 ∨ j = 2 by omega) with rfl | rfl | rfl <;> rfl) (Nat.le_of_ble_eq_true rfl) (Nat.le_of_ble_eq_true rfl) dX8_init_18 (fun a_reached H hP hD hS => ?_)
  have hP : va_P D vwCl [tl_ob a_this 9 [.ref a_p1, .ref a_steps, .null, .null], tl_ia (cy 1) a_steps 100 (fun _ => 0), tl_ob a_reached 5 [.null, .null, .int (tl_I (0 : Int))]] H := hP
  have hD : va_D A [tl_ob a_this 9 [.ref a_p1, .ref a_steps, .null, .null], tl_ia (cy 1) a_steps 100 (fun _ => 0), tl_ob a_reached 5 [.null, .null, .int (tl_I (0 : Int))]] := hD
  refine lv_dup hx hb dX8_init_21 rfl ?_
  obtain ⟨z1, hz, hf⟩ := tl_bs hf
  refine tl_callI (As := []) (rest := [.ref a_reached, .ref a_this]) (wr := [tl_ob a_this 9 [.ref a_p1, .ref a_steps, .null, .null], tl_ia (cy 1) a_steps 100 (fun _ => 0)]) ⟨hx, hb, hml, hown, hts⟩ (kt_X4_init l D cy a_reached a_reached_inside a_reached_list z1 hz) (cwI 0 hts (tl_wgood tw_135) rfl rfl rfl (hts _ tw_64) (hts _ tw_133) (hts _ tw_134) rfl (by decide +kernel) ⟨by decide, by decide⟩) hK hP hD hS hA [2] [0, 1] rfl rfl rfl rfl (by decide) rfl hl.1 rfl (Nat.le_of_ble_eq_true rfl) dX8_init_22 ⟨Nat.le_of_ble_eq_true rfl, Nat.le_of_ble_eq_true rfl⟩ (fun v w1 H locs hp hP hD hS => ?_)
  obtain ⟨a_reached_inside, a_reached_list, rfl, rfl⟩ := hp
  have hP : va_P D vwCl [tl_ob a_this 9 [.ref a_p1, .ref a_steps, .null, .null], tl_ia (cy 1) a_steps 100 (fun _ => 0), tl_ob a_reached 5 [.ref a_reached_inside, .ref a_reached_list, .int (tl_I (0 : Int))], tl_ia (cy 3) a_reached_inside 100 (fun _ => 0), tl_ia (cy 1) a_reached_list 100 (fun _ => 0)] H := hP
  have hD : va_D A [tl_ob a_this 9 [.ref a_p1, .ref a_steps, .null, .null], tl_ia (cy 1) a_steps 100 (fun _ => 0), tl_ob a_reached 5 [.ref a_reached_inside, .ref a_reached_list, .int (tl_I (0 : Int))], tl_ia (cy 3) a_reached_inside 100 (fun _ => 0), tl_ia (cy 1) a_reached_list 100 (fun _ => 0)] := hD
  refine W.eq (g2 := F0 m 25 ls [.ref a_reached, .ref a_this]) rfl ?_
  refine va_put (ci := 9) (v := .ref a_reached) (ty := .object "TwinLinks$Slots") (C := RX8) (T := TX8) (N := 4) hx hb hts in_X8 tyX8 tyX8_ok nmX8 hown hK hP hD hS 0 rfl rfl 2 (by decide) (hts _ tw_150) (fun _ h9 => h9) rfl (by decide +kernel) rfl rfl (Nat.le_of_ble_eq_true rfl) dX8_init_25 (fun H locs hP hD hS => ?_)
  have hP : va_P D vwCl [tl_ob a_this 9 [.ref a_p1, .ref a_steps, .ref a_reached, .null], tl_ia (cy 1) a_steps 100 (fun _ => 0), tl_ob a_reached 5 [.ref a_reached_inside, .ref a_reached_list, .int (tl_I (0 : Int))], tl_ia (cy 3) a_reached_inside 100 (fun _ => 0), tl_ia (cy 1) a_reached_list 100 (fun _ => 0)] H := hP
  have hD : va_D A [tl_ob a_this 9 [.ref a_p1, .ref a_steps, .ref a_reached, .null], tl_ia (cy 1) a_steps 100 (fun _ => 0), tl_ob a_reached 5 [.ref a_reached_inside, .ref a_reached_list, .int (tl_I (0 : Int))], tl_ia (cy 3) a_reached_inside 100 (fun _ => 0), tl_ia (cy 1) a_reached_list 100 (fun _ => 0)] := hD
  refine lv_aload_n hx hb dX8_init_28 rfl (lv_at hl 0 rfl) ?_
  refine va_new (ci := 5) (fs := [.null, .null, .int (tl_I (0 : Int))]) (C := RX4) (T := TX4) (N := 3) hx hb hts in_X4 tyX4 tyX4_ok hown (hts _ tw_131) (hts _ tw_132) (hts _ tw_64) hK hP hD hS hA rfl (fun j hj => by rcases (show j = 0 ∨ j = 1 ∨ j = 2 by omega) with rfl | rfl | rfl <;> rfl) (Nat.le_of_ble_eq_true rfl) (Nat.le_of_ble_eq_true rfl) dX8_init_29 (fun a_spare H hP hD hS => ?_)
  have hP : va_P D vwCl [tl_ob a_this 9 [.ref a_p1, .ref a_steps, .ref a_reached, .null], tl_ia (cy 1) a_steps 100 (fun _ => 0), tl_ob a_reached 5 [.ref a_reached_inside, .ref a_reached_list, .int (tl_I (0 : Int))], tl_ia (cy 3) a_reached_inside 100 (fun _ => 0), tl_ia (cy 1) a_reached_list 100 (fun _ => 0), tl_ob a_spare 5 [.null, .null, .int (tl_I (0 : Int))]] H := hP
  have hD : va_D A [tl_ob a_this 9 [.ref a_p1, .ref a_steps, .ref a_reached, .null], tl_ia (cy 1) a_steps 100 (fun _ => 0), tl_ob a_reached 5 [.ref a_reached_inside, .ref a_reached_list, .int (tl_I (0 : Int))], tl_ia (cy 3) a_reached_inside 100 (fun _ => 0), tl_ia (cy 1) a_reached_list 100 (fun _ => 0), tl_ob a_spare 5 [.null, .null, .int (tl_I (0 : Int))]] := hD
  refine lv_dup hx hb dX8_init_32 rfl ?_
  obtain ⟨z2, hz, hf⟩ := tl_bs hf
  refine tl_callI (As := []) (rest := [.ref a_spare, .ref a_this]) (wr := [tl_ob a_this 9 [.ref a_p1, .ref a_steps, .ref a_reached, .null], tl_ia (cy 1) a_steps 100 (fun _ => 0), tl_ob a_reached 5 [.ref a_reached_inside, .ref a_reached_list, .int (tl_I (0 : Int))], tl_ia (cy 3) a_reached_inside 100 (fun _ => 0), tl_ia (cy 1) a_reached_list 100 (fun _ => 0)]) ⟨hx, hb, hml, hown, hts⟩ (kt_X4_init l D cy a_spare a_spare_inside a_spare_list z2 hz) (cwI 0 hts (tl_wgood tw_135) rfl rfl rfl (hts _ tw_64) (hts _ tw_133) (hts _ tw_134) rfl (by decide +kernel) ⟨by decide, by decide⟩) hK hP hD hS hA [5] [0, 1, 2, 3, 4] rfl rfl rfl rfl (by decide) rfl hl.1 rfl (Nat.le_of_ble_eq_true rfl) dX8_init_33 ⟨Nat.le_of_ble_eq_true rfl, Nat.le_of_ble_eq_true rfl⟩ (fun v w1 H locs hp hP hD hS => ?_)
  obtain ⟨a_spare_inside, a_spare_list, rfl, rfl⟩ := hp
  have hP : va_P D vwCl [tl_ob a_this 9 [.ref a_p1, .ref a_steps, .ref a_reached, .null], tl_ia (cy 1) a_steps 100 (fun _ => 0), tl_ob a_reached 5 [.ref a_reached_inside, .ref a_reached_list, .int (tl_I (0 : Int))], tl_ia (cy 3) a_reached_inside 100 (fun _ => 0), tl_ia (cy 1) a_reached_list 100 (fun _ => 0), tl_ob a_spare 5 [.ref a_spare_inside, .ref a_spare_list, .int (tl_I (0 : Int))], tl_ia (cy 3) a_spare_inside 100 (fun _ => 0), tl_ia (cy 1) a_spare_list 100 (fun _ => 0)] H := hP
  have hD : va_D A [tl_ob a_this 9 [.ref a_p1, .ref a_steps, .ref a_reached, .null], tl_ia (cy 1) a_steps 100 (fun _ => 0), tl_ob a_reached 5 [.ref a_reached_inside, .ref a_reached_list, .int (tl_I (0 : Int))], tl_ia (cy 3) a_reached_inside 100 (fun _ => 0), tl_ia (cy 1) a_reached_list 100 (fun _ => 0), tl_ob a_spare 5 [.ref a_spare_inside, .ref a_spare_list, .int (tl_I (0 : Int))], tl_ia (cy 3) a_spare_inside 100 (fun _ => 0), tl_ia (cy 1) a_spare_list 100 (fun _ => 0)] := hD
  refine W.eq (g2 := F0 m 36 ls [.ref a_spare, .ref a_this]) rfl ?_
  refine va_put (ci := 9) (v := .ref a_spare) (ty := .object "TwinLinks$Slots") (C := RX8) (T := TX8) (N := 4) hx hb hts in_X8 tyX8 tyX8_ok nmX8 hown hK hP hD hS 0 rfl rfl 3 (by decide) (hts _ tw_151) (fun _ h9 => h9) rfl (by decide +kernel) rfl rfl (Nat.le_of_ble_eq_true rfl) dX8_init_36 (fun H locs hP hD hS => ?_)
  have hP : va_P D vwCl [tl_ob a_this 9 [.ref a_p1, .ref a_steps, .ref a_reached, .ref a_spare], tl_ia (cy 1) a_steps 100 (fun _ => 0), tl_ob a_reached 5 [.ref a_reached_inside, .ref a_reached_list, .int (tl_I (0 : Int))], tl_ia (cy 3) a_reached_inside 100 (fun _ => 0), tl_ia (cy 1) a_reached_list 100 (fun _ => 0), tl_ob a_spare 5 [.ref a_spare_inside, .ref a_spare_list, .int (tl_I (0 : Int))], tl_ia (cy 3) a_spare_inside 100 (fun _ => 0), tl_ia (cy 1) a_spare_list 100 (fun _ => 0)] H := hP
  have hD : va_D A [tl_ob a_this 9 [.ref a_p1, .ref a_steps, .ref a_reached, .ref a_spare], tl_ia (cy 1) a_steps 100 (fun _ => 0), tl_ob a_reached 5 [.ref a_reached_inside, .ref a_reached_list, .int (tl_I (0 : Int))], tl_ia (cy 3) a_reached_inside 100 (fun _ => 0), tl_ia (cy 1) a_reached_list 100 (fun _ => 0), tl_ob a_spare 5 [.ref a_spare_inside, .ref a_spare_list, .int (tl_I (0 : Int))], tl_ia (cy 3) a_spare_inside 100 (fun _ => 0), tl_ia (cy 1) a_spare_list 100 (fun _ => 0)] := hD
  injection hf with hf
  subst hf
  exact W.vret hx hb hr (fun t ht hW => tl_fin hAe ⟨a_reached, a_reached_inside, a_reached_list, a_spare, a_spare_inside, a_spare_list, a_steps, rfl, rfl⟩ (hP.sub (ws' := [tl_ob a_this 9 [.ref a_p1, .ref a_steps, .ref a_reached, .ref a_spare], tl_ob a_reached 5 [.ref a_reached_inside, .ref a_reached_list, .int (tl_I (0 : Int))], tl_ia (cy 3) a_reached_inside 100 (fun _ => 0), tl_ia (cy 1) a_reached_list 100 (fun _ => 0), tl_ob a_spare 5 [.ref a_spare_inside, .ref a_spare_list, .int (tl_I (0 : Int))], tl_ia (cy 3) a_spare_inside 100 (fun _ => 0), tl_ia (cy 1) a_spare_list 100 (fun _ => 0), tl_ia (cy 1) a_steps 100 (fun _ => 0)]) [0, 2, 3, 4, 5, 6, 7, 1] rfl) hK (hD.sub (ws' := [tl_ob a_this 9 [.ref a_p1, .ref a_steps, .ref a_reached, .ref a_spare], tl_ob a_reached 5 [.ref a_reached_inside, .ref a_reached_list, .int (tl_I (0 : Int))], tl_ia (cy 3) a_reached_inside 100 (fun _ => 0), tl_ia (cy 1) a_reached_list 100 (fun _ => 0), tl_ob a_spare 5 [.ref a_spare_inside, .ref a_spare_list, .int (tl_I (0 : Int))], tl_ia (cy 3) a_spare_inside 100 (fun _ => 0), tl_ia (cy 1) a_spare_list 100 (fun _ => 0), tl_ia (cy 1) a_steps 100 (fun _ => 0)]) [0, 2, 3, 4, 5, 6, 7, 1] (by decide) rfl) hS ht hW) hS.2.2 dX8_init_39
set_option maxHeartbeats 4000000 in
set_option maxRecDepth 100000 in
theorem kt_X2_init (l : Launch) (D : va_G) (cy : Nat → ClassId) (a_this a_told a_walk a_gone a_parts a_owners a_p1 a_p2 : Nat)   (z : Unit) (hf : fX2_init  = some z) :
    tl_MC l D (tl_tys cy) yX2_init (tl_w yX2_init cX2_init 3 none) { frames := 2, cells := 9, slots := 609, locals := 32 } [.ref a_this, .ref a_p1, .ref a_p2] [tl_ob a_this 3 [.null, .null, .null, .null, .null]] 9 609 (fun v w1 => ∃ a_gone : Nat, ∃ a_gone_inside : Nat, ∃ a_gone_list : Nat, ∃ a_owners : Nat, ∃ a_owners_inside : Nat, ∃ a_owners_list : Nat, ∃ a_parts : Nat, ∃ a_parts_inside : Nat, ∃ a_parts_list : Nat, v = none ∧ w1 = [tl_ob a_this 3 [.ref a_p1, .ref a_p2, .ref a_gone, .ref a_parts, .ref a_owners], tl_ob a_gone 5 [.ref a_gone_inside, .ref a_gone_list, .int (tl_I (0 : Int))], tl_ia (cy 3) a_gone_inside 100 (fun _ => 0), tl_ia (cy 1) a_gone_list 100 (fun _ => 0), tl_ob a_owners 5 [.ref a_owners_inside, .ref a_owners_list, .int (tl_I (0 : Int))], tl_ia (cy 3) a_owners_inside 100 (fun _ => 0), tl_ia (cy 1) a_owners_list 100 (fun _ => 0), tl_ob a_parts 5 [.ref a_parts_inside, .ref a_parts_list, .int (tl_I (0 : Int))], tl_ia (cy 3) a_parts_inside 100 (fun _ => 0), tl_ia (cy 1) a_parts_list 100 (fun _ => 0)]) := by
  refine tl_ofW (cc := cX2_init) (maxL := 3) (ret := none) (by decide +kernel) (Nat.le_of_ble_eq_true rfl) ?_
  intro p e s m below meth c hx hb hr hml hts hown hlocks hnm A hAe hA hP hK hD hS ls hl
  have hl : lv_has ls 3 [(0, .ref a_this), (1, .ref a_p1), (2, .ref a_p2)] := hl
  unfold fX2_init at hf
  refine lv_aload_n hx hb dX2_init_0 rfl (lv_at hl 0 rfl) ?_
  refine W.objInit hx hb hown (hts _ tw_166) (hts _ tw_87) (hts _ tw_88) rfl (by rw [hml]; exact hl.1) rfl dX2_init_1 (Nat.le_of_ble_eq_true rfl) (Nat.le_of_ble_eq_true rfl) ?_
  refine W.eq (g2 := F0 m 4 ls []) rfl ?_
  refine lv_aload_n hx hb dX2_init_4 rfl (lv_at hl 0 rfl) ?_
  refine lv_aload_n hx hb dX2_init_5 rfl (lv_at hl 1 rfl) ?_
  refine va_putF (ci := 3) (v := .ref a_p1) (ty := .object "TwinLinks$Told") (C := RX2) (T := TX2) (N := 5) hx hb hts in_X2 tyX2 tyX2_ok nmX2 hown hK hP hD hS 0 rfl rfl 0 (by decide) (hts _ tw_169) (fun _ h9 => h9) rfl hnm rfl (by decide +kernel) rfl rfl (Nat.le_of_ble_eq_true rfl) dX2_init_6 (fun H locs hP hD hS => ?_)
  have hP : va_P D vwCl [tl_ob a_this 3 [.ref a_p1, .null, .null, .null, .null]] H := hP
  have hD : va_D A [tl_ob a_this 3 [.ref a_p1, .null, .null, .null, .null]] := hD
  refine lv_aload_n hx hb dX2_init_9 rfl (lv_at hl 0 rfl) ?_
  refine lv_aload_n hx hb dX2_init_10 rfl (lv_at hl 2 rfl) ?_
  refine va_putF (ci := 3) (v := .ref a_p2) (ty := .object "TwinLinks$Walk") (C := RX2) (T := TX2) (N := 5) hx hb hts in_X2 tyX2 tyX2_ok nmX2 hown hK hP hD hS 0 rfl rfl 1 (by decide) (hts _ tw_170) (fun _ h9 => h9) rfl hnm rfl (by decide +kernel) rfl rfl (Nat.le_of_ble_eq_true rfl) dX2_init_11 (fun H locs hP hD hS => ?_)
  have hP : va_P D vwCl [tl_ob a_this 3 [.ref a_p1, .ref a_p2, .null, .null, .null]] H := hP
  have hD : va_D A [tl_ob a_this 3 [.ref a_p1, .ref a_p2, .null, .null, .null]] := hD
  refine lv_aload_n hx hb dX2_init_14 rfl (lv_at hl 0 rfl) ?_
  refine va_new (ci := 5) (fs := [.null, .null, .int (tl_I (0 : Int))]) (C := RX4) (T := TX4) (N := 3) hx hb hts in_X4 tyX4 tyX4_ok hown (hts _ tw_167) (hts _ tw_132) (hts _ tw_64) hK hP hD hS hA rfl (fun j hj => by rcases (show j = 0 ∨ j = 1 ∨ j = 2 by omega) with rfl | rfl | rfl <;> rfl) (Nat.le_of_ble_eq_true rfl) (Nat.le_of_ble_eq_true rfl) dX2_init_15 (fun a_gone H hP hD hS => ?_)
  have hP : va_P D vwCl [tl_ob a_this 3 [.ref a_p1, .ref a_p2, .null, .null, .null], tl_ob a_gone 5 [.null, .null, .int (tl_I (0 : Int))]] H := hP
  have hD : va_D A [tl_ob a_this 3 [.ref a_p1, .ref a_p2, .null, .null, .null], tl_ob a_gone 5 [.null, .null, .int (tl_I (0 : Int))]] := hD
  refine lv_dup hx hb dX2_init_18 rfl ?_
  obtain ⟨z1, hz, hf⟩ := tl_bs hf
  refine tl_callI (As := []) (rest := [.ref a_gone, .ref a_this]) (wr := [tl_ob a_this 3 [.ref a_p1, .ref a_p2, .null, .null, .null]]) ⟨hx, hb, hml, hown, hts⟩ (kt_X4_init l D cy a_gone a_gone_inside a_gone_list z1 hz) (cwI 0 hts (tl_wgood tw_135) rfl rfl rfl (hts _ tw_64) (hts _ tw_168) (hts _ tw_134) rfl (by decide +kernel) ⟨by decide, by decide⟩) hK hP hD hS hA [1] [0] rfl rfl rfl rfl (by decide) rfl hl.1 rfl (Nat.le_of_ble_eq_true rfl) dX2_init_19 ⟨Nat.le_of_ble_eq_true rfl, Nat.le_of_ble_eq_true rfl⟩ (fun v w1 H locs hp hP hD hS => ?_)
  obtain ⟨a_gone_inside, a_gone_list, rfl, rfl⟩ := hp
  have hP : va_P D vwCl [tl_ob a_this 3 [.ref a_p1, .ref a_p2, .null, .null, .null], tl_ob a_gone 5 [.ref a_gone_inside, .ref a_gone_list, .int (tl_I (0 : Int))], tl_ia (cy 3) a_gone_inside 100 (fun _ => 0), tl_ia (cy 1) a_gone_list 100 (fun _ => 0)] H := hP
  have hD : va_D A [tl_ob a_this 3 [.ref a_p1, .ref a_p2, .null, .null, .null], tl_ob a_gone 5 [.ref a_gone_inside, .ref a_gone_list, .int (tl_I (0 : Int))], tl_ia (cy 3) a_gone_inside 100 (fun _ => 0), tl_ia (cy 1) a_gone_list 100 (fun _ => 0)] := hD
  refine W.eq (g2 := F0 m 22 ls [.ref a_gone, .ref a_this]) rfl ?_
  refine va_putF (ci := 3) (v := .ref a_gone) (ty := .object "TwinLinks$Slots") (C := RX2) (T := TX2) (N := 5) hx hb hts in_X2 tyX2 tyX2_ok nmX2 hown hK hP hD hS 0 rfl rfl 2 (by decide) (hts _ tw_171) (fun _ h9 => h9) rfl hnm rfl (by decide +kernel) rfl rfl (Nat.le_of_ble_eq_true rfl) dX2_init_22 (fun H locs hP hD hS => ?_)
  have hP : va_P D vwCl [tl_ob a_this 3 [.ref a_p1, .ref a_p2, .ref a_gone, .null, .null], tl_ob a_gone 5 [.ref a_gone_inside, .ref a_gone_list, .int (tl_I (0 : Int))], tl_ia (cy 3) a_gone_inside 100 (fun _ => 0), tl_ia (cy 1) a_gone_list 100 (fun _ => 0)] H := hP
  have hD : va_D A [tl_ob a_this 3 [.ref a_p1, .ref a_p2, .ref a_gone, .null, .null], tl_ob a_gone 5 [.ref a_gone_inside, .ref a_gone_list, .int (tl_I (0 : Int))], tl_ia (cy 3) a_gone_inside 100 (fun _ => 0), tl_ia (cy 1) a_gone_list 100 (fun _ => 0)] := hD
  refine lv_aload_n hx hb dX2_init_25 rfl (lv_at hl 0 rfl) ?_
  refine va_new (ci := 5) (fs := [.null, .null, .int (tl_I (0 : Int))]) (C := RX4) (T := TX4) (N := 3) hx hb hts in_X4 tyX4 tyX4_ok hown (hts _ tw_167) (hts _ tw_132) (hts _ tw_64) hK hP hD hS hA rfl (fun j hj => by rcases (show j = 0 ∨ j = 1 ∨ j = 2 by omega) with rfl | rfl | rfl <;> rfl) (Nat.le_of_ble_eq_true rfl) (Nat.le_of_ble_eq_true rfl) dX2_init_26 (fun a_parts H hP hD hS => ?_)
  have hP : va_P D vwCl [tl_ob a_this 3 [.ref a_p1, .ref a_p2, .ref a_gone, .null, .null], tl_ob a_gone 5 [.ref a_gone_inside, .ref a_gone_list, .int (tl_I (0 : Int))], tl_ia (cy 3) a_gone_inside 100 (fun _ => 0), tl_ia (cy 1) a_gone_list 100 (fun _ => 0), tl_ob a_parts 5 [.null, .null, .int (tl_I (0 : Int))]] H := hP
  have hD : va_D A [tl_ob a_this 3 [.ref a_p1, .ref a_p2, .ref a_gone, .null, .null], tl_ob a_gone 5 [.ref a_gone_inside, .ref a_gone_list, .int (tl_I (0 : Int))], tl_ia (cy 3) a_gone_inside 100 (fun _ => 0), tl_ia (cy 1) a_gone_list 100 (fun _ => 0), tl_ob a_parts 5 [.null, .null, .int (tl_I (0 : Int))]] := hD
  refine lv_dup hx hb dX2_init_29 rfl ?_
  obtain ⟨z2, hz, hf⟩ := tl_bs hf
  refine tl_callI (As := []) (rest := [.ref a_parts, .ref a_this]) (wr := [tl_ob a_this 3 [.ref a_p1, .ref a_p2, .ref a_gone, .null, .null], tl_ob a_gone 5 [.ref a_gone_inside, .ref a_gone_list, .int (tl_I (0 : Int))], tl_ia (cy 3) a_gone_inside 100 (fun _ => 0), tl_ia (cy 1) a_gone_list 100 (fun _ => 0)]) ⟨hx, hb, hml, hown, hts⟩ (kt_X4_init l D cy a_parts a_parts_inside a_parts_list z2 hz) (cwI 0 hts (tl_wgood tw_135) rfl rfl rfl (hts _ tw_64) (hts _ tw_168) (hts _ tw_134) rfl (by decide +kernel) ⟨by decide, by decide⟩) hK hP hD hS hA [4] [0, 1, 2, 3] rfl rfl rfl rfl (by decide) rfl hl.1 rfl (Nat.le_of_ble_eq_true rfl) dX2_init_30 ⟨Nat.le_of_ble_eq_true rfl, Nat.le_of_ble_eq_true rfl⟩ (fun v w1 H locs hp hP hD hS => ?_)
  obtain ⟨a_parts_inside, a_parts_list, rfl, rfl⟩ := hp
  have hP : va_P D vwCl [tl_ob a_this 3 [.ref a_p1, .ref a_p2, .ref a_gone, .null, .null], tl_ob a_gone 5 [.ref a_gone_inside, .ref a_gone_list, .int (tl_I (0 : Int))], tl_ia (cy 3) a_gone_inside 100 (fun _ => 0), tl_ia (cy 1) a_gone_list 100 (fun _ => 0), tl_ob a_parts 5 [.ref a_parts_inside, .ref a_parts_list, .int (tl_I (0 : Int))], tl_ia (cy 3) a_parts_inside 100 (fun _ => 0), tl_ia (cy 1) a_parts_list 100 (fun _ => 0)] H := hP
  have hD : va_D A [tl_ob a_this 3 [.ref a_p1, .ref a_p2, .ref a_gone, .null, .null], tl_ob a_gone 5 [.ref a_gone_inside, .ref a_gone_list, .int (tl_I (0 : Int))], tl_ia (cy 3) a_gone_inside 100 (fun _ => 0), tl_ia (cy 1) a_gone_list 100 (fun _ => 0), tl_ob a_parts 5 [.ref a_parts_inside, .ref a_parts_list, .int (tl_I (0 : Int))], tl_ia (cy 3) a_parts_inside 100 (fun _ => 0), tl_ia (cy 1) a_parts_list 100 (fun _ => 0)] := hD
  refine W.eq (g2 := F0 m 33 ls [.ref a_parts, .ref a_this]) rfl ?_
  refine va_putF (ci := 3) (v := .ref a_parts) (ty := .object "TwinLinks$Slots") (C := RX2) (T := TX2) (N := 5) hx hb hts in_X2 tyX2 tyX2_ok nmX2 hown hK hP hD hS 0 rfl rfl 3 (by decide) (hts _ tw_172) (fun _ h9 => h9) rfl hnm rfl (by decide +kernel) rfl rfl (Nat.le_of_ble_eq_true rfl) dX2_init_33 (fun H locs hP hD hS => ?_)
  have hP : va_P D vwCl [tl_ob a_this 3 [.ref a_p1, .ref a_p2, .ref a_gone, .ref a_parts, .null], tl_ob a_gone 5 [.ref a_gone_inside, .ref a_gone_list, .int (tl_I (0 : Int))], tl_ia (cy 3) a_gone_inside 100 (fun _ => 0), tl_ia (cy 1) a_gone_list 100 (fun _ => 0), tl_ob a_parts 5 [.ref a_parts_inside, .ref a_parts_list, .int (tl_I (0 : Int))], tl_ia (cy 3) a_parts_inside 100 (fun _ => 0), tl_ia (cy 1) a_parts_list 100 (fun _ => 0)] H := hP
  have hD : va_D A [tl_ob a_this 3 [.ref a_p1, .ref a_p2, .ref a_gone, .ref a_parts, .null], tl_ob a_gone 5 [.ref a_gone_inside, .ref a_gone_list, .int (tl_I (0 : Int))], tl_ia (cy 3) a_gone_inside 100 (fun _ => 0), tl_ia (cy 1) a_gone_list 100 (fun _ => 0), tl_ob a_parts 5 [.ref a_parts_inside, .ref a_parts_list, .int (tl_I (0 : Int))], tl_ia (cy 3) a_parts_inside 100 (fun _ => 0), tl_ia (cy 1) a_parts_list 100 (fun _ => 0)] := hD
  refine lv_aload_n hx hb dX2_init_36 rfl (lv_at hl 0 rfl) ?_
  refine va_new (ci := 5) (fs := [.null, .null, .int (tl_I (0 : Int))]) (C := RX4) (T := TX4) (N := 3) hx hb hts in_X4 tyX4 tyX4_ok hown (hts _ tw_167) (hts _ tw_132) (hts _ tw_64) hK hP hD hS hA rfl (fun j hj => by rcases (show j = 0 ∨ j = 1 ∨ j = 2 by omega) with rfl | rfl | rfl <;> rfl) (Nat.le_of_ble_eq_true rfl) (Nat.le_of_ble_eq_true rfl) dX2_init_37 (fun a_owners H hP hD hS => ?_)
  have hP : va_P D vwCl [tl_ob a_this 3 [.ref a_p1, .ref a_p2, .ref a_gone, .ref a_parts, .null], tl_ob a_gone 5 [.ref a_gone_inside, .ref a_gone_list, .int (tl_I (0 : Int))], tl_ia (cy 3) a_gone_inside 100 (fun _ => 0), tl_ia (cy 1) a_gone_list 100 (fun _ => 0), tl_ob a_parts 5 [.ref a_parts_inside, .ref a_parts_list, .int (tl_I (0 : Int))], tl_ia (cy 3) a_parts_inside 100 (fun _ => 0), tl_ia (cy 1) a_parts_list 100 (fun _ => 0), tl_ob a_owners 5 [.null, .null, .int (tl_I (0 : Int))]] H := hP
  have hD : va_D A [tl_ob a_this 3 [.ref a_p1, .ref a_p2, .ref a_gone, .ref a_parts, .null], tl_ob a_gone 5 [.ref a_gone_inside, .ref a_gone_list, .int (tl_I (0 : Int))], tl_ia (cy 3) a_gone_inside 100 (fun _ => 0), tl_ia (cy 1) a_gone_list 100 (fun _ => 0), tl_ob a_parts 5 [.ref a_parts_inside, .ref a_parts_list, .int (tl_I (0 : Int))], tl_ia (cy 3) a_parts_inside 100 (fun _ => 0), tl_ia (cy 1) a_parts_list 100 (fun _ => 0), tl_ob a_owners 5 [.null, .null, .int (tl_I (0 : Int))]] := hD
  refine lv_dup hx hb dX2_init_40 rfl ?_
  obtain ⟨z3, hz, hf⟩ := tl_bs hf
  refine tl_callI (As := []) (rest := [.ref a_owners, .ref a_this]) (wr := [tl_ob a_this 3 [.ref a_p1, .ref a_p2, .ref a_gone, .ref a_parts, .null], tl_ob a_gone 5 [.ref a_gone_inside, .ref a_gone_list, .int (tl_I (0 : Int))], tl_ia (cy 3) a_gone_inside 100 (fun _ => 0), tl_ia (cy 1) a_gone_list 100 (fun _ => 0), tl_ob a_parts 5 [.ref a_parts_inside, .ref a_parts_list, .int (tl_I (0 : Int))], tl_ia (cy 3) a_parts_inside 100 (fun _ => 0), tl_ia (cy 1) a_parts_list 100 (fun _ => 0)]) ⟨hx, hb, hml, hown, hts⟩ (kt_X4_init l D cy a_owners a_owners_inside a_owners_list z3 hz) (cwI 0 hts (tl_wgood tw_135) rfl rfl rfl (hts _ tw_64) (hts _ tw_168) (hts _ tw_134) rfl (by decide +kernel) ⟨by decide, by decide⟩) hK hP hD hS hA [7] [0, 1, 2, 3, 4, 5, 6] rfl rfl rfl rfl (by decide) rfl hl.1 rfl (Nat.le_of_ble_eq_true rfl) dX2_init_41 ⟨Nat.le_of_ble_eq_true rfl, Nat.le_of_ble_eq_true rfl⟩ (fun v w1 H locs hp hP hD hS => ?_)
  obtain ⟨a_owners_inside, a_owners_list, rfl, rfl⟩ := hp
  have hP : va_P D vwCl [tl_ob a_this 3 [.ref a_p1, .ref a_p2, .ref a_gone, .ref a_parts, .null], tl_ob a_gone 5 [.ref a_gone_inside, .ref a_gone_list, .int (tl_I (0 : Int))], tl_ia (cy 3) a_gone_inside 100 (fun _ => 0), tl_ia (cy 1) a_gone_list 100 (fun _ => 0), tl_ob a_parts 5 [.ref a_parts_inside, .ref a_parts_list, .int (tl_I (0 : Int))], tl_ia (cy 3) a_parts_inside 100 (fun _ => 0), tl_ia (cy 1) a_parts_list 100 (fun _ => 0), tl_ob a_owners 5 [.ref a_owners_inside, .ref a_owners_list, .int (tl_I (0 : Int))], tl_ia (cy 3) a_owners_inside 100 (fun _ => 0), tl_ia (cy 1) a_owners_list 100 (fun _ => 0)] H := hP
  have hD : va_D A [tl_ob a_this 3 [.ref a_p1, .ref a_p2, .ref a_gone, .ref a_parts, .null], tl_ob a_gone 5 [.ref a_gone_inside, .ref a_gone_list, .int (tl_I (0 : Int))], tl_ia (cy 3) a_gone_inside 100 (fun _ => 0), tl_ia (cy 1) a_gone_list 100 (fun _ => 0), tl_ob a_parts 5 [.ref a_parts_inside, .ref a_parts_list, .int (tl_I (0 : Int))], tl_ia (cy 3) a_parts_inside 100 (fun _ => 0), tl_ia (cy 1) a_parts_list 100 (fun _ => 0), tl_ob a_owners 5 [.ref a_owners_inside, .ref a_owners_list, .int (tl_I (0 : Int))], tl_ia (cy 3) a_owners_inside 100 (fun _ => 0), tl_ia (cy 1) a_owners_list 100 (fun _ => 0)] := hD
  refine W.eq (g2 := F0 m 44 ls [.ref a_owners, .ref a_this]) rfl ?_
  refine va_putF (ci := 3) (v := .ref a_owners) (ty := .object "TwinLinks$Slots") (C := RX2) (T := TX2) (N := 5) hx hb hts in_X2 tyX2 tyX2_ok nmX2 hown hK hP hD hS 0 rfl rfl 4 (by decide) (hts _ tw_173) (fun _ h9 => h9) rfl hnm rfl (by decide +kernel) rfl rfl (Nat.le_of_ble_eq_true rfl) dX2_init_44 (fun H locs hP hD hS => ?_)
  have hP : va_P D vwCl [tl_ob a_this 3 [.ref a_p1, .ref a_p2, .ref a_gone, .ref a_parts, .ref a_owners], tl_ob a_gone 5 [.ref a_gone_inside, .ref a_gone_list, .int (tl_I (0 : Int))], tl_ia (cy 3) a_gone_inside 100 (fun _ => 0), tl_ia (cy 1) a_gone_list 100 (fun _ => 0), tl_ob a_parts 5 [.ref a_parts_inside, .ref a_parts_list, .int (tl_I (0 : Int))], tl_ia (cy 3) a_parts_inside 100 (fun _ => 0), tl_ia (cy 1) a_parts_list 100 (fun _ => 0), tl_ob a_owners 5 [.ref a_owners_inside, .ref a_owners_list, .int (tl_I (0 : Int))], tl_ia (cy 3) a_owners_inside 100 (fun _ => 0), tl_ia (cy 1) a_owners_list 100 (fun _ => 0)] H := hP
  have hD : va_D A [tl_ob a_this 3 [.ref a_p1, .ref a_p2, .ref a_gone, .ref a_parts, .ref a_owners], tl_ob a_gone 5 [.ref a_gone_inside, .ref a_gone_list, .int (tl_I (0 : Int))], tl_ia (cy 3) a_gone_inside 100 (fun _ => 0), tl_ia (cy 1) a_gone_list 100 (fun _ => 0), tl_ob a_parts 5 [.ref a_parts_inside, .ref a_parts_list, .int (tl_I (0 : Int))], tl_ia (cy 3) a_parts_inside 100 (fun _ => 0), tl_ia (cy 1) a_parts_list 100 (fun _ => 0), tl_ob a_owners 5 [.ref a_owners_inside, .ref a_owners_list, .int (tl_I (0 : Int))], tl_ia (cy 3) a_owners_inside 100 (fun _ => 0), tl_ia (cy 1) a_owners_list 100 (fun _ => 0)] := hD
  injection hf with hf
  subst hf
  exact W.vret hx hb hr (fun t ht hW => tl_fin hAe ⟨a_gone, a_gone_inside, a_gone_list, a_owners, a_owners_inside, a_owners_list, a_parts, a_parts_inside, a_parts_list, rfl, rfl⟩ (hP.sub (ws' := [tl_ob a_this 3 [.ref a_p1, .ref a_p2, .ref a_gone, .ref a_parts, .ref a_owners], tl_ob a_gone 5 [.ref a_gone_inside, .ref a_gone_list, .int (tl_I (0 : Int))], tl_ia (cy 3) a_gone_inside 100 (fun _ => 0), tl_ia (cy 1) a_gone_list 100 (fun _ => 0), tl_ob a_owners 5 [.ref a_owners_inside, .ref a_owners_list, .int (tl_I (0 : Int))], tl_ia (cy 3) a_owners_inside 100 (fun _ => 0), tl_ia (cy 1) a_owners_list 100 (fun _ => 0), tl_ob a_parts 5 [.ref a_parts_inside, .ref a_parts_list, .int (tl_I (0 : Int))], tl_ia (cy 3) a_parts_inside 100 (fun _ => 0), tl_ia (cy 1) a_parts_list 100 (fun _ => 0)]) [0, 1, 2, 3, 7, 8, 9, 4, 5, 6] rfl) hK (hD.sub (ws' := [tl_ob a_this 3 [.ref a_p1, .ref a_p2, .ref a_gone, .ref a_parts, .ref a_owners], tl_ob a_gone 5 [.ref a_gone_inside, .ref a_gone_list, .int (tl_I (0 : Int))], tl_ia (cy 3) a_gone_inside 100 (fun _ => 0), tl_ia (cy 1) a_gone_list 100 (fun _ => 0), tl_ob a_owners 5 [.ref a_owners_inside, .ref a_owners_list, .int (tl_I (0 : Int))], tl_ia (cy 3) a_owners_inside 100 (fun _ => 0), tl_ia (cy 1) a_owners_list 100 (fun _ => 0), tl_ob a_parts 5 [.ref a_parts_inside, .ref a_parts_list, .int (tl_I (0 : Int))], tl_ia (cy 3) a_parts_inside 100 (fun _ => 0), tl_ia (cy 1) a_parts_list 100 (fun _ => 0)]) [0, 1, 2, 3, 7, 8, 9, 4, 5, 6] (by decide) rfl) hS ht hW) hS.2.2 dX2_init_47
set_option maxHeartbeats 4000000 in
set_option maxRecDepth 100000 in
theorem kt_X7_init (l : Launch) (D : va_G) (cy : Nat → ClassId) (a_this a_told a_walk a_old a_twins a_p1 a_p2 : Nat)   (z : Unit) (hf : fX7_init  = some z) :
    tl_MC l D (tl_tys cy) yX7_init (tl_w yX7_init cX7_init 3 none) { frames := 2, cells := 4, slots := 303, locals := 32 } [.ref a_this, .ref a_p1, .ref a_p2] [tl_ob a_this 8 [.null, .null, .null, .null]] 4 303 (fun v w1 => ∃ a_old : Nat, ∃ a_old_inside : Nat, ∃ a_old_list : Nat, ∃ a_twins : Nat, v = none ∧ w1 = [tl_ob a_this 8 [.ref a_p1, .ref a_p2, .ref a_old, .ref a_twins], tl_ob a_old 5 [.ref a_old_inside, .ref a_old_list, .int (tl_I (0 : Int))], tl_ia (cy 3) a_old_inside 100 (fun _ => 0), tl_ia (cy 1) a_old_list 100 (fun _ => 0), tl_ia (cy 1) a_twins 100 (fun _ => 0)]) := by
  refine tl_ofW (cc := cX7_init) (maxL := 3) (ret := none) (by decide +kernel) (Nat.le_of_ble_eq_true rfl) ?_
  intro p e s m below meth c hx hb hr hml hts hown hlocks hnm A hAe hA hP hK hD hS ls hl
  have hl : lv_has ls 3 [(0, .ref a_this), (1, .ref a_p1), (2, .ref a_p2)] := hl
  unfold fX7_init at hf
  refine lv_aload_n hx hb dX7_init_0 rfl (lv_at hl 0 rfl) ?_
  refine W.objInit hx hb hown (hts _ tw_190) (hts _ tw_87) (hts _ tw_88) rfl (by rw [hml]; exact hl.1) rfl dX7_init_1 (Nat.le_of_ble_eq_true rfl) (Nat.le_of_ble_eq_true rfl) ?_
  refine W.eq (g2 := F0 m 4 ls []) rfl ?_
  refine lv_aload_n hx hb dX7_init_4 rfl (lv_at hl 0 rfl) ?_
  refine lv_aload_n hx hb dX7_init_5 rfl (lv_at hl 1 rfl) ?_
  refine va_putF (ci := 8) (v := .ref a_p1) (ty := .object "TwinLinks$Told") (C := RX7) (T := TX7) (N := 4) hx hb hts in_X7 tyX7 tyX7_ok nmX7 hown hK hP hD hS 0 rfl rfl 0 (by decide) (hts _ tw_193) (fun _ h9 => h9) rfl hnm rfl (by decide +kernel) rfl rfl (Nat.le_of_ble_eq_true rfl) dX7_init_6 (fun H locs hP hD hS => ?_)
  have hP : va_P D vwCl [tl_ob a_this 8 [.ref a_p1, .null, .null, .null]] H := hP
  have hD : va_D A [tl_ob a_this 8 [.ref a_p1, .null, .null, .null]] := hD
  refine lv_aload_n hx hb dX7_init_9 rfl (lv_at hl 0 rfl) ?_
  refine lv_aload_n hx hb dX7_init_10 rfl (lv_at hl 2 rfl) ?_
  refine va_putF (ci := 8) (v := .ref a_p2) (ty := .object "TwinLinks$Walk") (C := RX7) (T := TX7) (N := 4) hx hb hts in_X7 tyX7 tyX7_ok nmX7 hown hK hP hD hS 0 rfl rfl 1 (by decide) (hts _ tw_194) (fun _ h9 => h9) rfl hnm rfl (by decide +kernel) rfl rfl (Nat.le_of_ble_eq_true rfl) dX7_init_11 (fun H locs hP hD hS => ?_)
  have hP : va_P D vwCl [tl_ob a_this 8 [.ref a_p1, .ref a_p2, .null, .null]] H := hP
  have hD : va_D A [tl_ob a_this 8 [.ref a_p1, .ref a_p2, .null, .null]] := hD
  refine lv_aload_n hx hb dX7_init_14 rfl (lv_at hl 0 rfl) ?_
  refine va_new (ci := 5) (fs := [.null, .null, .int (tl_I (0 : Int))]) (C := RX4) (T := TX4) (N := 3) hx hb hts in_X4 tyX4 tyX4_ok hown (hts _ tw_191) (hts _ tw_132) (hts _ tw_64) hK hP hD hS hA rfl (fun j hj => by rcases (show j = 0 ∨ j = 1 ∨ j = 2 by omega) with rfl | rfl | rfl <;> rfl) (Nat.le_of_ble_eq_true rfl) (Nat.le_of_ble_eq_true rfl) dX7_init_15 (fun a_old H hP hD hS => ?_)
  have hP : va_P D vwCl [tl_ob a_this 8 [.ref a_p1, .ref a_p2, .null, .null], tl_ob a_old 5 [.null, .null, .int (tl_I (0 : Int))]] H := hP
  have hD : va_D A [tl_ob a_this 8 [.ref a_p1, .ref a_p2, .null, .null], tl_ob a_old 5 [.null, .null, .int (tl_I (0 : Int))]] := hD
  refine lv_dup hx hb dX7_init_18 rfl ?_
  obtain ⟨z1, hz, hf⟩ := tl_bs hf
  refine tl_callI (As := []) (rest := [.ref a_old, .ref a_this]) (wr := [tl_ob a_this 8 [.ref a_p1, .ref a_p2, .null, .null]]) ⟨hx, hb, hml, hown, hts⟩ (kt_X4_init l D cy a_old a_old_inside a_old_list z1 hz) (cwI 0 hts (tl_wgood tw_135) rfl rfl rfl (hts _ tw_64) (hts _ tw_192) (hts _ tw_134) rfl (by decide +kernel) ⟨by decide, by decide⟩) hK hP hD hS hA [1] [0] rfl rfl rfl rfl (by decide) rfl hl.1 rfl (Nat.le_of_ble_eq_true rfl) dX7_init_19 ⟨Nat.le_of_ble_eq_true rfl, Nat.le_of_ble_eq_true rfl⟩ (fun v w1 H locs hp hP hD hS => ?_)
  obtain ⟨a_old_inside, a_old_list, rfl, rfl⟩ := hp
  have hP : va_P D vwCl [tl_ob a_this 8 [.ref a_p1, .ref a_p2, .null, .null], tl_ob a_old 5 [.ref a_old_inside, .ref a_old_list, .int (tl_I (0 : Int))], tl_ia (cy 3) a_old_inside 100 (fun _ => 0), tl_ia (cy 1) a_old_list 100 (fun _ => 0)] H := hP
  have hD : va_D A [tl_ob a_this 8 [.ref a_p1, .ref a_p2, .null, .null], tl_ob a_old 5 [.ref a_old_inside, .ref a_old_list, .int (tl_I (0 : Int))], tl_ia (cy 3) a_old_inside 100 (fun _ => 0), tl_ia (cy 1) a_old_list 100 (fun _ => 0)] := hD
  refine W.eq (g2 := F0 m 22 ls [.ref a_old, .ref a_this]) rfl ?_
  refine va_putF (ci := 8) (v := .ref a_old) (ty := .object "TwinLinks$Slots") (C := RX7) (T := TX7) (N := 4) hx hb hts in_X7 tyX7 tyX7_ok nmX7 hown hK hP hD hS 0 rfl rfl 2 (by decide) (hts _ tw_195) (fun _ h9 => h9) rfl hnm rfl (by decide +kernel) rfl rfl (Nat.le_of_ble_eq_true rfl) dX7_init_22 (fun H locs hP hD hS => ?_)
  have hP : va_P D vwCl [tl_ob a_this 8 [.ref a_p1, .ref a_p2, .ref a_old, .null], tl_ob a_old 5 [.ref a_old_inside, .ref a_old_list, .int (tl_I (0 : Int))], tl_ia (cy 3) a_old_inside 100 (fun _ => 0), tl_ia (cy 1) a_old_list 100 (fun _ => 0)] H := hP
  have hD : va_D A [tl_ob a_this 8 [.ref a_p1, .ref a_p2, .ref a_old, .null], tl_ob a_old 5 [.ref a_old_inside, .ref a_old_list, .int (tl_I (0 : Int))], tl_ia (cy 3) a_old_inside 100 (fun _ => 0), tl_ia (cy 1) a_old_list 100 (fun _ => 0)] := hD
  refine lv_aload_n hx hb dX7_init_25 rfl (lv_at hl 0 rfl) ?_
  refine lv_bipush (v := tl_I (100 : Int)) hx hb dX7_init_26 rfl ?_
  refine tr_newa (N' := 100) hx hb rfl (hts _ tw_111) (fun C h => by cases h) rfl hK 1 rfl hP hD hS hA rfl (by decide) (by decide) (Nat.le_of_ble_eq_true rfl) (Nat.le_of_ble_eq_true rfl) dX7_init_28 (fun a_twins H hP hD hS => ?_)
  have hP : va_P D vwCl [tl_ob a_this 8 [.ref a_p1, .ref a_p2, .ref a_old, .null], tl_ob a_old 5 [.ref a_old_inside, .ref a_old_list, .int (tl_I (0 : Int))], tl_ia (cy 3) a_old_inside 100 (fun _ => 0), tl_ia (cy 1) a_old_list 100 (fun _ => 0), tl_ia (cy 1) a_twins 100 (fun _ => 0)] H := hP
  have hD : va_D A [tl_ob a_this 8 [.ref a_p1, .ref a_p2, .ref a_old, .null], tl_ob a_old 5 [.ref a_old_inside, .ref a_old_list, .int (tl_I (0 : Int))], tl_ia (cy 3) a_old_inside 100 (fun _ => 0), tl_ia (cy 1) a_old_list 100 (fun _ => 0), tl_ia (cy 1) a_twins 100 (fun _ => 0)] := hD
  refine va_putF (ci := 8) (v := .ref a_twins) (ty := .array .int) (C := RX7) (T := TX7) (N := 4) hx hb hts in_X7 tyX7 tyX7_ok nmX7 hown hK hP hD hS 0 rfl rfl 3 (by decide) (hts _ tw_196) (fun _ h9 => h9) rfl hnm rfl (by decide +kernel) rfl rfl (Nat.le_of_ble_eq_true rfl) dX7_init_30 (fun H locs hP hD hS => ?_)
  have hP : va_P D vwCl [tl_ob a_this 8 [.ref a_p1, .ref a_p2, .ref a_old, .ref a_twins], tl_ob a_old 5 [.ref a_old_inside, .ref a_old_list, .int (tl_I (0 : Int))], tl_ia (cy 3) a_old_inside 100 (fun _ => 0), tl_ia (cy 1) a_old_list 100 (fun _ => 0), tl_ia (cy 1) a_twins 100 (fun _ => 0)] H := hP
  have hD : va_D A [tl_ob a_this 8 [.ref a_p1, .ref a_p2, .ref a_old, .ref a_twins], tl_ob a_old 5 [.ref a_old_inside, .ref a_old_list, .int (tl_I (0 : Int))], tl_ia (cy 3) a_old_inside 100 (fun _ => 0), tl_ia (cy 1) a_old_list 100 (fun _ => 0), tl_ia (cy 1) a_twins 100 (fun _ => 0)] := hD
  injection hf with hf
  subst hf
  exact W.vret hx hb hr (fun t ht hW => tl_fin hAe ⟨a_old, a_old_inside, a_old_list, a_twins, rfl, rfl⟩ (hP.sub (ws' := [tl_ob a_this 8 [.ref a_p1, .ref a_p2, .ref a_old, .ref a_twins], tl_ob a_old 5 [.ref a_old_inside, .ref a_old_list, .int (tl_I (0 : Int))], tl_ia (cy 3) a_old_inside 100 (fun _ => 0), tl_ia (cy 1) a_old_list 100 (fun _ => 0), tl_ia (cy 1) a_twins 100 (fun _ => 0)]) [0, 1, 2, 3, 4] rfl) hK (hD.sub (ws' := [tl_ob a_this 8 [.ref a_p1, .ref a_p2, .ref a_old, .ref a_twins], tl_ob a_old 5 [.ref a_old_inside, .ref a_old_list, .int (tl_I (0 : Int))], tl_ia (cy 3) a_old_inside 100 (fun _ => 0), tl_ia (cy 1) a_old_list 100 (fun _ => 0), tl_ia (cy 1) a_twins 100 (fun _ => 0)]) [0, 1, 2, 3, 4] (by decide) rfl) hS ht hW) hS.2.2 dX7_init_33
set_option maxHeartbeats 4000000 in
set_option maxRecDepth 100000 in
theorem kt_X0_init (l : Launch) (D : va_G) (cy : Nat → ClassId) (a_this a_told a_leaders a_firsts a_seconds a_p1 : Nat)   (z : Unit) (hf : fX0_init  = some z) :
    tl_MC l D (tl_tys cy) yX0_init (tl_w yX0_init cX0_init 2 none) { frames := 1, cells := 3, slots := 300, locals := 12 } [.ref a_this, .ref a_p1] [tl_ob a_this 1 [.null, .null, .null, .null, .int (tl_I (0 : Int))]] 3 300 (fun v w1 => ∃ a_firsts : Nat, ∃ a_leaders : Nat, ∃ a_seconds : Nat, v = none ∧ w1 = [tl_ob a_this 1 [.ref a_p1, .ref a_leaders, .ref a_firsts, .ref a_seconds, .int (tl_I (0 : Int))], tl_ia (cy 1) a_firsts 100 (fun _ => 0), tl_ia (cy 1) a_leaders 100 (fun _ => 0), tl_ia (cy 1) a_seconds 100 (fun _ => 0)]) := by
  refine tl_ofW (cc := cX0_init) (maxL := 2) (ret := none) (by decide +kernel) (Nat.le_of_ble_eq_true rfl) ?_
  intro p e s m below meth c hx hb hr hml hts hown hlocks hnm A hAe hA hP hK hD hS ls hl
  have hl : lv_has ls 2 [(0, .ref a_this), (1, .ref a_p1)] := hl
  unfold fX0_init at hf
  refine lv_aload_n hx hb dX0_init_0 rfl (lv_at hl 0 rfl) ?_
  refine W.objInit hx hb hown (hts _ tw_211) (hts _ tw_87) (hts _ tw_88) rfl (by rw [hml]; exact hl.1) rfl dX0_init_1 (Nat.le_of_ble_eq_true rfl) (Nat.le_of_ble_eq_true rfl) ?_
  refine W.eq (g2 := F0 m 4 ls []) rfl ?_
  refine lv_aload_n hx hb dX0_init_4 rfl (lv_at hl 0 rfl) ?_
  refine lv_aload_n hx hb dX0_init_5 rfl (lv_at hl 1 rfl) ?_
  refine va_putF (ci := 1) (v := .ref a_p1) (ty := .object "TwinLinks$Told") (C := RX0) (T := TX0) (N := 5) hx hb hts in_X0 tyX0 tyX0_ok nmX0 hown hK hP hD hS 0 rfl rfl 0 (by decide) (hts _ tw_212) (fun _ h9 => h9) rfl hnm rfl (by decide +kernel) rfl rfl (Nat.le_of_ble_eq_true rfl) dX0_init_6 (fun H locs hP hD hS => ?_)
  have hP : va_P D vwCl [tl_ob a_this 1 [.ref a_p1, .null, .null, .null, .int (tl_I (0 : Int))]] H := hP
  have hD : va_D A [tl_ob a_this 1 [.ref a_p1, .null, .null, .null, .int (tl_I (0 : Int))]] := hD
  refine lv_aload_n hx hb dX0_init_9 rfl (lv_at hl 0 rfl) ?_
  refine lv_bipush (v := tl_I (100 : Int)) hx hb dX0_init_10 rfl ?_
  refine tr_newa (N' := 100) hx hb rfl (hts _ tw_111) (fun C h => by cases h) rfl hK 1 rfl hP hD hS hA rfl (by decide) (by decide) (Nat.le_of_ble_eq_true rfl) (Nat.le_of_ble_eq_true rfl) dX0_init_12 (fun a_leaders H hP hD hS => ?_)
  have hP : va_P D vwCl [tl_ob a_this 1 [.ref a_p1, .null, .null, .null, .int (tl_I (0 : Int))], tl_ia (cy 1) a_leaders 100 (fun _ => 0)] H := hP
  have hD : va_D A [tl_ob a_this 1 [.ref a_p1, .null, .null, .null, .int (tl_I (0 : Int))], tl_ia (cy 1) a_leaders 100 (fun _ => 0)] := hD
  refine va_putF (ci := 1) (v := .ref a_leaders) (ty := .array .int) (C := RX0) (T := TX0) (N := 5) hx hb hts in_X0 tyX0 tyX0_ok nmX0 hown hK hP hD hS 0 rfl rfl 1 (by decide) (hts _ tw_213) (fun _ h9 => h9) rfl hnm rfl (by decide +kernel) rfl rfl (Nat.le_of_ble_eq_true rfl) dX0_init_14 (fun H locs hP hD hS => ?_)
  have hP : va_P D vwCl [tl_ob a_this 1 [.ref a_p1, .ref a_leaders, .null, .null, .int (tl_I (0 : Int))], tl_ia (cy 1) a_leaders 100 (fun _ => 0)] H := hP
  have hD : va_D A [tl_ob a_this 1 [.ref a_p1, .ref a_leaders, .null, .null, .int (tl_I (0 : Int))], tl_ia (cy 1) a_leaders 100 (fun _ => 0)] := hD
  refine lv_aload_n hx hb dX0_init_17 rfl (lv_at hl 0 rfl) ?_
  refine lv_bipush (v := tl_I (100 : Int)) hx hb dX0_init_18 rfl ?_
  refine tr_newa (N' := 100) hx hb rfl (hts _ tw_111) (fun C h => by cases h) rfl hK 1 rfl hP hD hS hA rfl (by decide) (by decide) (Nat.le_of_ble_eq_true rfl) (Nat.le_of_ble_eq_true rfl) dX0_init_20 (fun a_firsts H hP hD hS => ?_)
  have hP : va_P D vwCl [tl_ob a_this 1 [.ref a_p1, .ref a_leaders, .null, .null, .int (tl_I (0 : Int))], tl_ia (cy 1) a_leaders 100 (fun _ => 0), tl_ia (cy 1) a_firsts 100 (fun _ => 0)] H := hP
  have hD : va_D A [tl_ob a_this 1 [.ref a_p1, .ref a_leaders, .null, .null, .int (tl_I (0 : Int))], tl_ia (cy 1) a_leaders 100 (fun _ => 0), tl_ia (cy 1) a_firsts 100 (fun _ => 0)] := hD
  refine va_putF (ci := 1) (v := .ref a_firsts) (ty := .array .int) (C := RX0) (T := TX0) (N := 5) hx hb hts in_X0 tyX0 tyX0_ok nmX0 hown hK hP hD hS 0 rfl rfl 2 (by decide) (hts _ tw_214) (fun _ h9 => h9) rfl hnm rfl (by decide +kernel) rfl rfl (Nat.le_of_ble_eq_true rfl) dX0_init_22 (fun H locs hP hD hS => ?_)
  have hP : va_P D vwCl [tl_ob a_this 1 [.ref a_p1, .ref a_leaders, .ref a_firsts, .null, .int (tl_I (0 : Int))], tl_ia (cy 1) a_leaders 100 (fun _ => 0), tl_ia (cy 1) a_firsts 100 (fun _ => 0)] H := hP
  have hD : va_D A [tl_ob a_this 1 [.ref a_p1, .ref a_leaders, .ref a_firsts, .null, .int (tl_I (0 : Int))], tl_ia (cy 1) a_leaders 100 (fun _ => 0), tl_ia (cy 1) a_firsts 100 (fun _ => 0)] := hD
  refine lv_aload_n hx hb dX0_init_25 rfl (lv_at hl 0 rfl) ?_
  refine lv_bipush (v := tl_I (100 : Int)) hx hb dX0_init_26 rfl ?_
  refine tr_newa (N' := 100) hx hb rfl (hts _ tw_111) (fun C h => by cases h) rfl hK 1 rfl hP hD hS hA rfl (by decide) (by decide) (Nat.le_of_ble_eq_true rfl) (Nat.le_of_ble_eq_true rfl) dX0_init_28 (fun a_seconds H hP hD hS => ?_)
  have hP : va_P D vwCl [tl_ob a_this 1 [.ref a_p1, .ref a_leaders, .ref a_firsts, .null, .int (tl_I (0 : Int))], tl_ia (cy 1) a_leaders 100 (fun _ => 0), tl_ia (cy 1) a_firsts 100 (fun _ => 0), tl_ia (cy 1) a_seconds 100 (fun _ => 0)] H := hP
  have hD : va_D A [tl_ob a_this 1 [.ref a_p1, .ref a_leaders, .ref a_firsts, .null, .int (tl_I (0 : Int))], tl_ia (cy 1) a_leaders 100 (fun _ => 0), tl_ia (cy 1) a_firsts 100 (fun _ => 0), tl_ia (cy 1) a_seconds 100 (fun _ => 0)] := hD
  refine va_putF (ci := 1) (v := .ref a_seconds) (ty := .array .int) (C := RX0) (T := TX0) (N := 5) hx hb hts in_X0 tyX0 tyX0_ok nmX0 hown hK hP hD hS 0 rfl rfl 3 (by decide) (hts _ tw_215) (fun _ h9 => h9) rfl hnm rfl (by decide +kernel) rfl rfl (Nat.le_of_ble_eq_true rfl) dX0_init_30 (fun H locs hP hD hS => ?_)
  have hP : va_P D vwCl [tl_ob a_this 1 [.ref a_p1, .ref a_leaders, .ref a_firsts, .ref a_seconds, .int (tl_I (0 : Int))], tl_ia (cy 1) a_leaders 100 (fun _ => 0), tl_ia (cy 1) a_firsts 100 (fun _ => 0), tl_ia (cy 1) a_seconds 100 (fun _ => 0)] H := hP
  have hD : va_D A [tl_ob a_this 1 [.ref a_p1, .ref a_leaders, .ref a_firsts, .ref a_seconds, .int (tl_I (0 : Int))], tl_ia (cy 1) a_leaders 100 (fun _ => 0), tl_ia (cy 1) a_firsts 100 (fun _ => 0), tl_ia (cy 1) a_seconds 100 (fun _ => 0)] := hD
  injection hf with hf
  subst hf
  exact W.vret hx hb hr (fun t ht hW => tl_fin hAe ⟨a_firsts, a_leaders, a_seconds, rfl, rfl⟩ (hP.sub (ws' := [tl_ob a_this 1 [.ref a_p1, .ref a_leaders, .ref a_firsts, .ref a_seconds, .int (tl_I (0 : Int))], tl_ia (cy 1) a_firsts 100 (fun _ => 0), tl_ia (cy 1) a_leaders 100 (fun _ => 0), tl_ia (cy 1) a_seconds 100 (fun _ => 0)]) [0, 2, 1, 3] rfl) hK (hD.sub (ws' := [tl_ob a_this 1 [.ref a_p1, .ref a_leaders, .ref a_firsts, .ref a_seconds, .int (tl_I (0 : Int))], tl_ia (cy 1) a_firsts 100 (fun _ => 0), tl_ia (cy 1) a_leaders 100 (fun _ => 0), tl_ia (cy 1) a_seconds 100 (fun _ => 0)]) [0, 2, 1, 3] (by decide) rfl) hS ht hW) hS.2.2 dX0_init_33
