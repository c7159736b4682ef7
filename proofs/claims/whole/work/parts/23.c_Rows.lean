set_option maxHeartbeats 4000000 in
set_option maxRecDepth 100000 in
theorem kt_X3_isRow (l : Launch) (D : va_G) (cy : Nat → ClassId)  (p1 : Int) (p2 : Int)  (z : Int) (hf : fX3_isRow p1 p2 = some z) :
    tl_MC l D (tl_tys cy) yX3_isRow (tl_w yX3_isRow cX3_isRow 2 (some .boolean)) { frames := 0, cells := 0, slots := 0, locals := 0 } [.int (tl_I p1), .int (tl_I p2)] [] 0 0 (fun v w1 => v = some (.int (tl_I z)) ∧ w1 = []) := by
  refine tl_ofW (cc := cX3_isRow) (maxL := 2) (ret := (some .boolean)) (by decide +kernel) (Nat.le_of_ble_eq_true rfl) ?_
  intro p e s m below meth c hx hb hr hml hts hown hlocks hnm A hAe hA hP hK hD hS ls hl
  have hl : lv_has ls 2 [(0, .int (tl_I p1)), (1, .int (tl_I p2))] := hl
  unfold fX3_isRow at hf
  refine lv_iload_n hx hb dX3_isRow_0 rfl (lv_at hl 0 rfl) ?_
  refine tr_if_lt (tgt := 24) hx hb hf dX3_isRow_1 (by decide) (fun hc hf => ?_) (fun hc hf => ?_)
  · refine lv_iconst (v := tl_I (0 : Int)) hx hb dX3_isRow_24 rfl ?_
    injection hf with hf
    subst hf
    exact W.zret (v := tl_I (0 : Int)) hx hb hr rfl (fun t ht hW => tl_fin hAe ⟨rfl, rfl⟩ (hP.sub (ws' := []) [] rfl) hK (hD.sub (ws' := []) [] (by decide) rfl) hS ht hW) hS.2.2 dX3_isRow_25
  · refine lv_iload_n hx hb dX3_isRow_4 rfl (lv_at hl 0 rfl) ?_
    refine lv_bipush (v := tl_I (10 : Int)) hx hb dX3_isRow_5 rfl ?_
    refine tr_icmp_ge (tgt := 24) hx hb hf dX3_isRow_7 (by decide) (fun hc hf => ?_) (fun hc hf => ?_)
    · refine lv_iload_n hx hb dX3_isRow_10 rfl (lv_at hl 1 rfl) ?_
      refine tr_if_lt (tgt := 24) hx hb hf dX3_isRow_11 (by decide) (fun hc hf => ?_) (fun hc hf => ?_)
      · refine lv_iconst (v := tl_I (0 : Int)) hx hb dX3_isRow_24 rfl ?_
        injection hf with hf
        subst hf
        exact W.zret (v := tl_I (0 : Int)) hx hb hr rfl (fun t ht hW => tl_fin hAe ⟨rfl, rfl⟩ (hP.sub (ws' := []) [] rfl) hK (hD.sub (ws' := []) [] (by decide) rfl) hS ht hW) hS.2.2 dX3_isRow_25
      · refine lv_iload_n hx hb dX3_isRow_14 rfl (lv_at hl 1 rfl) ?_
        refine lv_bipush (v := tl_I (100 : Int)) hx hb dX3_isRow_15 rfl ?_
        refine tr_icmp_ge (tgt := 24) hx hb hf dX3_isRow_17 (by decide) (fun hc hf => ?_) (fun hc hf => ?_)
        · refine lv_iconst (v := tl_I (1 : Int)) hx hb dX3_isRow_20 rfl ?_
          refine lv_goto (tgt := 25) hx hb dX3_isRow_21 (by decide) ?_
          injection hf with hf
          subst hf
          exact W.zret (v := tl_I (1 : Int)) hx hb hr rfl (fun t ht hW => tl_fin hAe ⟨rfl, rfl⟩ (hP.sub (ws' := []) [] rfl) hK (hD.sub (ws' := []) [] (by decide) rfl) hS ht hW) hS.2.2 dX3_isRow_25
        · refine lv_iconst (v := tl_I (0 : Int)) hx hb dX3_isRow_24 rfl ?_
          injection hf with hf
          subst hf
          exact W.zret (v := tl_I (0 : Int)) hx hb hr rfl (fun t ht hW => tl_fin hAe ⟨rfl, rfl⟩ (hP.sub (ws' := []) [] rfl) hK (hD.sub (ws' := []) [] (by decide) rfl) hS ht hW) hS.2.2 dX3_isRow_25
    · refine lv_iconst (v := tl_I (0 : Int)) hx hb dX3_isRow_24 rfl ?_
      injection hf with hf
      subst hf
      exact W.zret (v := tl_I (0 : Int)) hx hb hr rfl (fun t ht hW => tl_fin hAe ⟨rfl, rfl⟩ (hP.sub (ws' := []) [] rfl) hK (hD.sub (ws' := []) [] (by decide) rfl) hS ht hW) hS.2.2 dX3_isRow_25
set_option maxHeartbeats 4000000 in
set_option maxRecDepth 100000 in
theorem kt_X3_rowOf (l : Launch) (D : va_G) (cy : Nat → ClassId)  (p1 : Int) (p2 : Int)  (z : Int) (hf : fX3_rowOf p1 p2 = some z) :
    tl_MC l D (tl_tys cy) yX3_rowOf (tl_w yX3_rowOf cX3_rowOf 2 (some .int)) { frames := 0, cells := 0, slots := 0, locals := 0 } [.int (tl_I p1), .int (tl_I p2)] [] 0 0 (fun v w1 => v = some (.int (tl_I z)) ∧ w1 = []) := by
  refine tl_ofW (cc := cX3_rowOf) (maxL := 2) (ret := (some .int)) (by decide +kernel) (Nat.le_of_ble_eq_true rfl) ?_
  intro p e s m below meth c hx hb hr hml hts hown hlocks hnm A hAe hA hP hK hD hS ls hl
  have hl : lv_has ls 2 [(0, .int (tl_I p1)), (1, .int (tl_I p2))] := hl
  unfold fX3_rowOf at hf
  refine lv_iload_n hx hb dX3_rowOf_0 rfl (lv_at hl 0 rfl) ?_
  refine lv_bipush (v := tl_I (100 : Int)) hx hb dX3_rowOf_1 rfl ?_
  refine tr_imul hx hb dX3_rowOf_3 ?_
  refine lv_iload_n hx hb dX3_rowOf_4 rfl (lv_at hl 1 rfl) ?_
  refine tr_iadd hx hb dX3_rowOf_5 ?_
  injection hf with hf
  subst hf
  exact W.iret (v := tl_I ((p1 * (100 : Int)) + p2)) hx hb hr (fun t ht hW => tl_fin hAe ⟨rfl, rfl⟩ (hP.sub (ws' := []) [] rfl) hK (hD.sub (ws' := []) [] (by decide) rfl) hS ht hW) hS.2.2 dX3_rowOf_6
set_option maxHeartbeats 4000000 in
set_option maxRecDepth 100000 in
theorem kt_X3_lengthOf (l : Launch) (D : va_G) (cy : Nat → ClassId) (a_this a_lengths a_words : Nat) (v_lengths : Nat → Int) (p1 : Int) (p2 : Int)  (z : Int) (hf : fX3_lengthOf v_lengths p1 p2 = some z) :
    tl_MC l D (tl_tys cy) yX3_lengthOf (tl_w yX3_lengthOf cX3_lengthOf 3 (some .int)) { frames := 1, cells := 0, slots := 0, locals := 21 } [.ref a_this, .int (tl_I p1), .int (tl_I p2)] [tl_ob a_this 4 [.ref a_words, .ref a_lengths], tl_ia (cy 1) a_lengths 1000 v_lengths] 0 0 (fun v w1 => v = some (.int (tl_I z)) ∧ w1 = [tl_ob a_this 4 [.ref a_words, .ref a_lengths], tl_ia (cy 1) a_lengths 1000 v_lengths]) := by
  refine tl_ofW (cc := cX3_lengthOf) (maxL := 3) (ret := (some .int)) (by decide +kernel) (Nat.le_of_ble_eq_true rfl) ?_
  intro p e s m below meth c hx hb hr hml hts hown hlocks hnm A hAe hA hP hK hD hS ls hl
  have hl : lv_has ls 3 [(0, .ref a_this), (1, .int (tl_I p1)), (2, .int (tl_I p2))] := hl
  unfold fX3_lengthOf at hf
  refine lv_iload_n hx hb dX3_lengthOf_0 rfl (lv_at hl 1 rfl) ?_
  refine lv_iload_n hx hb dX3_lengthOf_1 rfl (lv_at hl 2 rfl) ?_
  obtain ⟨z1, hz, hf⟩ := tl_bs hf
  refine tl_callS0 (As := [.int (tl_I p1), .int (tl_I p2)]) (rest := []) (wr := [tl_ob a_this 4 [.ref a_words, .ref a_lengths], tl_ia (cy 1) a_lengths 1000 v_lengths]) ⟨hx, hb, hml, hown, hts⟩ (kt_X3_isRow l D cy p1 p2 z1 hz) (va_cwS 2 hts tg_X3_19 rfl rfl rfl td_X3_isRow ⟨by decide, by decide⟩) hK hP hD hS hA [] [0, 1] rfl rfl rfl rfl (by decide) rfl hl.1 rfl (Nat.le_of_ble_eq_true rfl) dX3_lengthOf_2 ⟨by decide, by decide⟩ (fun v w1 H locs hp hP hD hS => ?_)
  obtain ⟨rfl, rfl⟩ := hp
  have hP : va_P D vwCl [tl_ob a_this 4 [.ref a_words, .ref a_lengths], tl_ia (cy 1) a_lengths 1000 v_lengths] H := hP
  have hD : va_D A [tl_ob a_this 4 [.ref a_words, .ref a_lengths], tl_ia (cy 1) a_lengths 1000 v_lengths] := hD
  refine W.eq (g2 := F0 m 5 ls [.int (tl_I z1)]) rfl ?_
  refine tr_if_eq (tgt := 21) hx hb hf dX3_lengthOf_5 (by decide) (fun hc hf => ?_) (fun hc hf => ?_)
  · refine lv_iconst (v := tl_I (0 : Int)) hx hb dX3_lengthOf_21 rfl ?_
    injection hf with hf
    subst hf
    exact W.iret (v := tl_I (0 : Int)) hx hb hr (fun t ht hW => tl_fin hAe ⟨rfl, rfl⟩ (hP.sub (ws' := [tl_ob a_this 4 [.ref a_words, .ref a_lengths], tl_ia (cy 1) a_lengths 1000 v_lengths]) [0, 1] rfl) hK (hD.sub (ws' := [tl_ob a_this 4 [.ref a_words, .ref a_lengths], tl_ia (cy 1) a_lengths 1000 v_lengths]) [0, 1] (by decide) rfl) hS ht hW) hS.2.2 dX3_lengthOf_22
  · refine lv_aload_n hx hb dX3_lengthOf_8 rfl (lv_at hl 0 rfl) ?_
    refine va_get (ci := 4) (v := .ref a_lengths) (C := RX3) (T := TX3) (N := 2) hx hb hts in_X3 hown hK hP 0 rfl rfl 1 (by decide) (hts _ tw_242) (fun _ h9 => h9) rfl dX3_lengthOf_9 ?_
    refine lv_iload_n hx hb dX3_lengthOf_12 rfl (lv_at hl 1 rfl) ?_
    refine lv_iload_n hx hb dX3_lengthOf_13 rfl (lv_at hl 2 rfl) ?_
    obtain ⟨z2, hz, hf⟩ := tl_bs hf
    refine tl_callS0 (As := [.int (tl_I p1), .int (tl_I p2)]) (rest := [.ref a_lengths]) (wr := [tl_ob a_this 4 [.ref a_words, .ref a_lengths], tl_ia (cy 1) a_lengths 1000 v_lengths]) ⟨hx, hb, hml, hown, hts⟩ (kt_X3_rowOf l D cy p1 p2 z2 hz) (va_cwS 2 hts tg_X3_23 rfl rfl rfl td_X3_rowOf ⟨by decide, by decide⟩) hK hP hD hS hA [] [0, 1] rfl rfl rfl rfl (by decide) rfl hl.1 rfl (Nat.le_of_ble_eq_true rfl) dX3_lengthOf_14 ⟨by decide, by decide⟩ (fun v w1 H locs hp hP hD hS => ?_)
    obtain ⟨rfl, rfl⟩ := hp
    have hP : va_P D vwCl [tl_ob a_this 4 [.ref a_words, .ref a_lengths], tl_ia (cy 1) a_lengths 1000 v_lengths] H := hP
    have hD : va_D A [tl_ob a_this 4 [.ref a_words, .ref a_lengths], tl_ia (cy 1) a_lengths 1000 v_lengths] := hD
    refine W.eq (g2 := F0 m 17 ls [.int (tl_I z2), .ref a_lengths]) rfl ?_
    refine tr_iald hx hb hf hK hP 1 1 rfl rfl (by decide) dX3_lengthOf_17 (fun hf => ?_)
    refine lv_goto (tgt := 22) hx hb dX3_lengthOf_18 (by decide) ?_
    injection hf with hf
    subst hf
    exact W.iret (v := tl_I (v_lengths z2.toNat)) hx hb hr (fun t ht hW => tl_fin hAe ⟨rfl, rfl⟩ (hP.sub (ws' := [tl_ob a_this 4 [.ref a_words, .ref a_lengths], tl_ia (cy 1) a_lengths 1000 v_lengths]) [0, 1] rfl) hK (hD.sub (ws' := [tl_ob a_this 4 [.ref a_words, .ref a_lengths], tl_ia (cy 1) a_lengths 1000 v_lengths]) [0, 1] (by decide) rfl) hS ht hW) hS.2.2 dX3_lengthOf_22
set_option maxHeartbeats 4000000 in
set_option maxRecDepth 100000 in
theorem kt_X3_read (l : Launch) (D : va_G) (cy : Nat → ClassId) (a_this a_words a_lengths : Nat) (v_words : Nat → Int64) (p1 : Int) (p2 : Int)  (z : Int) (hf : fX3_read v_words p1 p2 = some z) :
    tl_MC l D (tl_tys cy) yX3_read (tl_w yX3_read cX3_read 6 (some .int)) { frames := 0, cells := 0, slots := 0, locals := 0 } [.ref a_this, .int (tl_I p1), .int (tl_I p2)] [tl_ob a_this 4 [.ref a_words, .ref a_lengths], tl_ja (cy 2) a_words 2000 v_words] 0 0 (fun v w1 => v = some (.int (tl_I z)) ∧ w1 = [tl_ob a_this 4 [.ref a_words, .ref a_lengths], tl_ja (cy 2) a_words 2000 v_words]) := by
  refine tl_ofW (cc := cX3_read) (maxL := 6) (ret := (some .int)) (by decide +kernel) (Nat.le_of_ble_eq_true rfl) ?_
  intro p e s m below meth c hx hb hr hml hts hown hlocks hnm A hAe hA hP hK hD hS ls hl
  have hl : lv_has ls 6 [(0, .ref a_this), (1, .int (tl_I p1)), (2, .int (tl_I p2))] := hl
  unfold fX3_read at hf
  refine lv_aload_n hx hb dX3_read_0 rfl (lv_at hl 0 rfl) ?_
  refine va_get (ci := 4) (v := .ref a_words) (C := RX3) (T := TX3) (N := 2) hx hb hts in_X3 hown hK hP 0 rfl rfl 0 (by decide) (hts _ tw_241) (fun _ h9 => h9) rfl dX3_read_1 ?_
  refine lv_iload_n hx hb dX3_read_4 rfl (lv_at hl 1 rfl) ?_
  refine lv_iconst (v := tl_I (2 : Int)) hx hb dX3_read_5 rfl ?_
  refine tr_imul hx hb dX3_read_6 ?_
  refine lv_iload_n hx hb dX3_read_7 rfl (lv_at hl 2 rfl) ?_
  refine lv_bipush (v := tl_I (6 : Int)) hx hb dX3_read_8 rfl ?_
  refine tr_idiv hx hb hf dX3_read_10 (fun hf => ?_)
  refine tr_iadd hx hb dX3_read_11 ?_
  refine tr_lald hx hb hf hK hP 1 2 rfl rfl (by decide) dX3_read_12 (fun hf => ?_)
  refine lv_lstore_n (lv' := [(3, .long (v_words ((p1 * (2 : Int)) + (p2 / (6 : Int))).toNat)), (0, .ref a_this), (1, .int (tl_I p1)), (2, .int (tl_I p2))]) hx hb dX3_read_13 rfl hl (by decide) rfl (fun ls hl => ?_)
  refine lv_iload_n hx hb dX3_read_14 rfl (lv_at hl 3 rfl) ?_
  refine lv_bipush (v := tl_I (6 : Int)) hx hb dX3_read_15 rfl ?_
  refine tr_irem hx hb hf dX3_read_17 (fun hf => ?_)
  refine lv_bipush (v := tl_I (8 : Int)) hx hb dX3_read_18 rfl ?_
  refine tr_imul hx hb dX3_read_20 ?_
  refine lv_istore (lv' := [(5, .int (tl_I ((p2 % (6 : Int)) * (8 : Int)))), (3, .long (v_words ((p1 * (2 : Int)) + (p2 / (6 : Int))).toNat)), (0, .ref a_this), (1, .int (tl_I p1)), (2, .int (tl_I p2))]) hx hb dX3_read_21 hl (by decide) rfl (fun ls hl => ?_)
  refine lv_lload_n hx hb dX3_read_23 rfl (lv_at hl 1 rfl) ?_
  refine lv_iload hx hb dX3_read_24 (lv_at hl 0 rfl) ?_
  refine lv_lushr (v := tl_lushr (v_words ((p1 * (2 : Int)) + (p2 / (6 : Int))).toNat) ((p2 % (6 : Int)) * (8 : Int))) hx hb dX3_read_26 rfl ?_
  refine lv_ldc2 (v := 255) hx hb hown (hts _ tw_529) dX3_read_27 ?_
  refine lv_land hx hb dX3_read_30 ?_
  refine lv_l2i (v := tl_I (tl_l2i ((tl_lushr (v_words ((p1 * (2 : Int)) + (p2 / (6 : Int))).toNat) ((p2 % (6 : Int)) * (8 : Int))) &&& (255 : Int64)))) hx hb dX3_read_31 (tl_l2i_ok _) ?_
  injection hf with hf
  subst hf
  exact W.iret (v := tl_I (tl_l2i ((tl_lushr (v_words ((p1 * (2 : Int)) + (p2 / (6 : Int))).toNat) ((p2 % (6 : Int)) * (8 : Int))) &&& (255 : Int64)))) hx hb hr (fun t ht hW => tl_fin hAe ⟨rfl, rfl⟩ (hP.sub (ws' := [tl_ob a_this 4 [.ref a_words, .ref a_lengths], tl_ja (cy 2) a_words 2000 v_words]) [0, 1] rfl) hK (hD.sub (ws' := [tl_ob a_this 4 [.ref a_words, .ref a_lengths], tl_ja (cy 2) a_words 2000 v_words]) [0, 1] (by decide) rfl) hS ht hW) hS.2.2 dX3_read_32
set_option maxHeartbeats 4000000 in
set_option maxRecDepth 100000 in
theorem kt_X3_get (l : Launch) (D : va_G) (cy : Nat → ClassId) (a_this a_lengths a_words : Nat) (v_lengths : Nat → Int) (v_words : Nat → Int64) (p1 : Int) (p2 : Int) (p3 : Int)  (z : Int) (hf : fX3_get v_lengths v_words p1 p2 p3 = some z) :
    tl_MC l D (tl_tys cy) yX3_get (tl_w yX3_get cX3_get 4 (some .int)) { frames := 2, cells := 0, slots := 0, locals := 43 } [.ref a_this, .int (tl_I p1), .int (tl_I p2), .int (tl_I p3)] [tl_ob a_this 4 [.ref a_words, .ref a_lengths], tl_ia (cy 1) a_lengths 1000 v_lengths, tl_ja (cy 2) a_words 2000 v_words] 0 0 (fun v w1 => v = some (.int (tl_I z)) ∧ w1 = [tl_ob a_this 4 [.ref a_words, .ref a_lengths], tl_ia (cy 1) a_lengths 1000 v_lengths, tl_ja (cy 2) a_words 2000 v_words]) := by
  refine tl_ofW (cc := cX3_get) (maxL := 4) (ret := (some .int)) (by decide +kernel) (Nat.le_of_ble_eq_true rfl) ?_
  intro p e s m below meth c hx hb hr hml hts hown hlocks hnm A hAe hA hP hK hD hS ls hl
  have hl : lv_has ls 4 [(0, .ref a_this), (1, .int (tl_I p1)), (2, .int (tl_I p2)), (3, .int (tl_I p3))] := hl
  unfold fX3_get at hf
  refine lv_iload_n hx hb dX3_get_0 rfl (lv_at hl 3 rfl) ?_
  refine tr_if_lt (tgt := 27) hx hb hf dX3_get_1 (by decide) (fun hc hf => ?_) (fun hc hf => ?_)
  · refine lv_iconst (v := tl_I (-1 : Int)) hx hb dX3_get_27 rfl ?_
    injection hf with hf
    subst hf
    exact W.iret (v := tl_I (-1 : Int)) hx hb hr (fun t ht hW => tl_fin hAe ⟨rfl, rfl⟩ (hP.sub (ws' := [tl_ob a_this 4 [.ref a_words, .ref a_lengths], tl_ia (cy 1) a_lengths 1000 v_lengths, tl_ja (cy 2) a_words 2000 v_words]) [0, 1, 2] rfl) hK (hD.sub (ws' := [tl_ob a_this 4 [.ref a_words, .ref a_lengths], tl_ia (cy 1) a_lengths 1000 v_lengths, tl_ja (cy 2) a_words 2000 v_words]) [0, 1, 2] (by decide) rfl) hS ht hW) hS.2.2 dX3_get_28
  · refine lv_iload_n hx hb dX3_get_4 rfl (lv_at hl 3 rfl) ?_
    refine lv_aload_n hx hb dX3_get_5 rfl (lv_at hl 0 rfl) ?_
    refine lv_iload_n hx hb dX3_get_6 rfl (lv_at hl 1 rfl) ?_
    refine lv_iload_n hx hb dX3_get_7 rfl (lv_at hl 2 rfl) ?_
    obtain ⟨z1, hz, hf⟩ := tl_bs hf
    refine tl_callV0 (As := [.int (tl_I p1), .int (tl_I p2)]) (rest := [.int (tl_I p3)]) (wr := [tl_ja (cy 2) a_words 2000 v_words]) ⟨hx, hb, hml, hown, hts⟩ (kt_X3_lengthOf l D cy a_this a_lengths a_words v_lengths p1 p2 z1 hz) (cwV 2 hts tg_X3_27 rfl rfl rfl td_X3_lengthOf ⟨by decide, by decide⟩) hK hP hD hS hA [0, 1] [2] rfl rfl rfl rfl (by decide) 0 4 rfl rfl rfl rfl hl.1 rfl (Nat.le_of_ble_eq_true rfl) dX3_get_8 ⟨by decide, by decide⟩ (fun v w1 H locs hp hP hD hS => ?_)
    obtain ⟨rfl, rfl⟩ := hp
    have hP : va_P D vwCl [tl_ja (cy 2) a_words 2000 v_words, tl_ob a_this 4 [.ref a_words, .ref a_lengths], tl_ia (cy 1) a_lengths 1000 v_lengths] H := hP
    have hD : va_D A [tl_ja (cy 2) a_words 2000 v_words, tl_ob a_this 4 [.ref a_words, .ref a_lengths], tl_ia (cy 1) a_lengths 1000 v_lengths] := hD
    refine W.eq (g2 := F0 m 11 ls [.int (tl_I z1), .int (tl_I p3)]) rfl ?_
    refine tr_icmp_ge (tgt := 27) hx hb hf dX3_get_11 (by decide) (fun hc hf => ?_) (fun hc hf => ?_)
    · refine lv_aload_n hx hb dX3_get_14 rfl (lv_at hl 0 rfl) ?_
      refine lv_iload_n hx hb dX3_get_15 rfl (lv_at hl 1 rfl) ?_
      refine lv_iload_n hx hb dX3_get_16 rfl (lv_at hl 2 rfl) ?_
      obtain ⟨z2, hz, hf⟩ := tl_bs hf
      refine tl_callS0 (As := [.int (tl_I p1), .int (tl_I p2)]) (rest := [.ref a_this]) (wr := [tl_ja (cy 2) a_words 2000 v_words, tl_ob a_this 4 [.ref a_words, .ref a_lengths], tl_ia (cy 1) a_lengths 1000 v_lengths]) ⟨hx, hb, hml, hown, hts⟩ (kt_X3_rowOf l D cy p1 p2 z2 hz) (va_cwS 2 hts tg_X3_23 rfl rfl rfl td_X3_rowOf ⟨by decide, by decide⟩) hK hP hD hS hA [] [0, 1, 2] rfl rfl rfl rfl (by decide) rfl hl.1 rfl (Nat.le_of_ble_eq_true rfl) dX3_get_17 ⟨by decide, by decide⟩ (fun v w1 H locs hp hP hD hS => ?_)
      obtain ⟨rfl, rfl⟩ := hp
      have hP : va_P D vwCl [tl_ja (cy 2) a_words 2000 v_words, tl_ob a_this 4 [.ref a_words, .ref a_lengths], tl_ia (cy 1) a_lengths 1000 v_lengths] H := hP
      have hD : va_D A [tl_ja (cy 2) a_words 2000 v_words, tl_ob a_this 4 [.ref a_words, .ref a_lengths], tl_ia (cy 1) a_lengths 1000 v_lengths] := hD
      refine W.eq (g2 := F0 m 20 ls [.int (tl_I z2), .ref a_this]) rfl ?_
      refine lv_iload_n hx hb dX3_get_20 rfl (lv_at hl 3 rfl) ?_
      obtain ⟨z3, hz, hf⟩ := tl_bs hf
      refine tl_callV0 (As := [.int (tl_I z2), .int (tl_I p3)]) (rest := []) (wr := [tl_ia (cy 1) a_lengths 1000 v_lengths]) ⟨hx, hb, hml, hown, hts⟩ (kt_X3_read l D cy a_this a_words a_lengths v_words z2 p3 z3 hz) (cwV 2 hts tg_X3_30 rfl rfl rfl td_X3_read ⟨by decide, by decide⟩) hK hP hD hS hA [1, 0] [2] rfl rfl rfl rfl (by decide) 1 4 rfl rfl rfl rfl hl.1 rfl (Nat.le_of_ble_eq_true rfl) dX3_get_21 ⟨by decide, by decide⟩ (fun v w1 H locs hp hP hD hS => ?_)
      obtain ⟨rfl, rfl⟩ := hp
      have hP : va_P D vwCl [tl_ia (cy 1) a_lengths 1000 v_lengths, tl_ob a_this 4 [.ref a_words, .ref a_lengths], tl_ja (cy 2) a_words 2000 v_words] H := hP
      have hD : va_D A [tl_ia (cy 1) a_lengths 1000 v_lengths, tl_ob a_this 4 [.ref a_words, .ref a_lengths], tl_ja (cy 2) a_words 2000 v_words] := hD
      refine W.eq (g2 := F0 m 24 ls [.int (tl_I z3)]) rfl ?_
      refine lv_goto (tgt := 28) hx hb dX3_get_24 (by decide) ?_
      injection hf with hf
      subst hf
      exact W.iret (v := tl_I z3) hx hb hr (fun t ht hW => tl_fin hAe ⟨rfl, rfl⟩ (hP.sub (ws' := [tl_ob a_this 4 [.ref a_words, .ref a_lengths], tl_ia (cy 1) a_lengths 1000 v_lengths, tl_ja (cy 2) a_words 2000 v_words]) [1, 0, 2] rfl) hK (hD.sub (ws' := [tl_ob a_this 4 [.ref a_words, .ref a_lengths], tl_ia (cy 1) a_lengths 1000 v_lengths, tl_ja (cy 2) a_words 2000 v_words]) [1, 0, 2] (by decide) rfl) hS ht hW) hS.2.2 dX3_get_28
    · refine lv_iconst (v := tl_I (-1 : Int)) hx hb dX3_get_27 rfl ?_
      injection hf with hf
      subst hf
      exact W.iret (v := tl_I (-1 : Int)) hx hb hr (fun t ht hW => tl_fin hAe ⟨rfl, rfl⟩ (hP.sub (ws' := [tl_ob a_this 4 [.ref a_words, .ref a_lengths], tl_ia (cy 1) a_lengths 1000 v_lengths, tl_ja (cy 2) a_words 2000 v_words]) [1, 2, 0] rfl) hK (hD.sub (ws' := [tl_ob a_this 4 [.ref a_words, .ref a_lengths], tl_ia (cy 1) a_lengths 1000 v_lengths, tl_ja (cy 2) a_words 2000 v_words]) [1, 2, 0] (by decide) rfl) hS ht hW) hS.2.2 dX3_get_28
set_option maxHeartbeats 4000000 in
set_option maxRecDepth 100000 in
theorem kt_X3_holds (l : Launch) (D : va_G) (cy : Nat → ClassId) (a_this a_lengths a_words : Nat) (v_lengths : Nat → Int) (v_words : Nat → Int64) (p1 : Int) (p2 : Int) (p3 : Int)  (z : Int) (hf : fX3_holds v_lengths v_words p1 p2 p3 = some z) :
    tl_MC l D (tl_tys cy) yX3_holds (tl_w yX3_holds cX3_holds 6 (some .boolean)) { frames := 2, cells := 0, slots := 0, locals := 43 } [.ref a_this, .int (tl_I p1), .int (tl_I p2), .int (tl_I p3)] [tl_ob a_this 4 [.ref a_words, .ref a_lengths], tl_ia (cy 1) a_lengths 1000 v_lengths, tl_ja (cy 2) a_words 2000 v_words] 0 0 (fun v w1 => v = some (.int (tl_I z)) ∧ w1 = [tl_ob a_this 4 [.ref a_words, .ref a_lengths], tl_ia (cy 1) a_lengths 1000 v_lengths, tl_ja (cy 2) a_words 2000 v_words]) := by
  refine tl_ofW (cc := cX3_holds) (maxL := 6) (ret := (some .boolean)) (by decide +kernel) (Nat.le_of_ble_eq_true rfl) ?_
  intro p e s m below meth c hx hb hr hml hts hown hlocks hnm A hAe hA hP hK hD hS ls hl
  have hl : lv_has ls 6 [(0, .ref a_this), (1, .int (tl_I p1)), (2, .int (tl_I p2)), (3, .int (tl_I p3))] := hl
  unfold fX3_holds at hf
  refine lv_aload_n hx hb dX3_holds_0 rfl (lv_at hl 0 rfl) ?_
  refine lv_iload_n hx hb dX3_holds_1 rfl (lv_at hl 1 rfl) ?_
  refine lv_iload_n hx hb dX3_holds_2 rfl (lv_at hl 2 rfl) ?_
  obtain ⟨z1, hz, hf⟩ := tl_bs hf
  refine tl_callV0 (As := [.int (tl_I p1), .int (tl_I p2)]) (rest := []) (wr := [tl_ja (cy 2) a_words 2000 v_words]) ⟨hx, hb, hml, hown, hts⟩ (kt_X3_lengthOf l D cy a_this a_lengths a_words v_lengths p1 p2 z1 hz) (cwV 2 hts tg_X3_27 rfl rfl rfl td_X3_lengthOf ⟨by decide, by decide⟩) hK hP hD hS hA [0, 1] [2] rfl rfl rfl rfl (by decide) 0 4 rfl rfl rfl rfl hl.1 rfl (Nat.le_of_ble_eq_true rfl) dX3_holds_3 ⟨by decide, by decide⟩ (fun v w1 H locs hp hP hD hS => ?_)
  obtain ⟨rfl, rfl⟩ := hp
  have hP : va_P D vwCl [tl_ja (cy 2) a_words 2000 v_words, tl_ob a_this 4 [.ref a_words, .ref a_lengths], tl_ia (cy 1) a_lengths 1000 v_lengths] H := hP
  have hD : va_D A [tl_ja (cy 2) a_words 2000 v_words, tl_ob a_this 4 [.ref a_words, .ref a_lengths], tl_ia (cy 1) a_lengths 1000 v_lengths] := hD
  refine W.eq (g2 := F0 m 6 ls [.int (tl_I z1)]) rfl ?_
  refine lv_istore (lv' := [(4, .int (tl_I z1)), (0, .ref a_this), (1, .int (tl_I p1)), (2, .int (tl_I p2)), (3, .int (tl_I p3))]) hx hb dX3_holds_6 hl (by decide) rfl (fun ls hl => ?_)
  refine lv_iconst (v := tl_I (0 : Int)) hx hb dX3_holds_8 rfl ?_
  refine lv_istore (lv' := [(5, .int (tl_I (0 : Int))), (4, .int (tl_I z1)), (0, .ref a_this), (1, .int (tl_I p1)), (2, .int (tl_I p2)), (3, .int (tl_I p3))]) hx hb dX3_holds_9 hl (by decide) rfl (fun ls hl => ?_)
  have lp1 : ∀ (n : Nat) (x2 : Int) (outL1 : (Unit) ⊕ (Int)), fX3_holds_L1 v_words p1 p2 p3 z1 n x2 = some outL1 → ∀ (H : Heap) (locs : List Loc) (ls : Array Slot), va_P D vwCl [tl_ob a_this 4 [.ref a_words, .ref a_lengths], tl_ia (cy 1) a_lengths 1000 v_lengths, tl_ja (cy 2) a_words 2000 v_words] H → va_D A [tl_ob a_this 4 [.ref a_words, .ref a_lengths], tl_ia (cy 1) a_lengths 1000 v_lengths, tl_ja (cy 2) a_words 2000 v_words] → va_S A s.heap H locs → lv_has ls 6 [(5, .int (tl_I x2)), (4, .int (tl_I z1)), (0, .ref a_this), (1, .int (tl_I p1)), (2, .int (tl_I p2)), (3, .int (tl_I p3))] → (outL1 = .inl () → ∀ (H : Heap) (locs : List Loc) (ls : Array Slot), va_P D vwCl [tl_ob a_this 4 [.ref a_words, .ref a_lengths], tl_ia (cy 1) a_lengths 1000 v_lengths, tl_ja (cy 2) a_words 2000 v_words] H → va_D A [tl_ob a_this 4 [.ref a_words, .ref a_lengths], tl_ia (cy 1) a_lengths 1000 v_lengths, tl_ja (cy 2) a_words 2000 v_words] → va_S A s.heap H locs → lv_has ls 6 [] → W p l e { frames := 2, cells := 0, slots := 0, locals := 43 } s m ([.ref a_this, .int (tl_I p1), .int (tl_I p2), .int (tl_I p3)] : List Value).toArray below meth c H locs 0 0 (MQ below (tl_Q D (tl_tys cy) [tl_ob a_this 4 [.ref a_words, .ref a_lengths], tl_ia (cy 1) a_lengths 1000 v_lengths, tl_ja (cy 2) a_words 2000 v_words] s.heap.size (fun v w1 => v = some (.int (tl_I z)) ∧ w1 = [tl_ob a_this 4 [.ref a_words, .ref a_lengths], tl_ia (cy 1) a_lengths 1000 v_lengths, tl_ja (cy 2) a_words 2000 v_words])) ([.ref a_this, .int (tl_I p1), .int (tl_I p2), .int (tl_I p3)] : List Value).toArray s 0 0 A) (F0 m 41 ls [])) → (∀ r, outL1 = .inr r → r = z) → W p l e { frames := 2, cells := 0, slots := 0, locals := 43 } s m ([.ref a_this, .int (tl_I p1), .int (tl_I p2), .int (tl_I p3)] : List Value).toArray below meth c H locs 0 0 (MQ below (tl_Q D (tl_tys cy) [tl_ob a_this 4 [.ref a_words, .ref a_lengths], tl_ia (cy 1) a_lengths 1000 v_lengths, tl_ja (cy 2) a_words 2000 v_words] s.heap.size (fun v w1 => v = some (.int (tl_I z)) ∧ w1 = [tl_ob a_this 4 [.ref a_words, .ref a_lengths], tl_ia (cy 1) a_lengths 1000 v_lengths, tl_ja (cy 2) a_words 2000 v_words])) ([.ref a_this, .int (tl_I p1), .int (tl_I p2), .int (tl_I p3)] : List Value).toArray s 0 0 A) (F0 m 11 ls []) := by
    intro n
    induction n with
    | zero =>
      intro x2 outL1 hf
      cases hf
    | succ n ih =>
      intro x2 outL1 hf H locs ls hP hD hS hl hE hXL1
      rw [fX3_holds_L1] at hf
      refine lv_iload hx hb dX3_holds_11 (lv_at hl 0 rfl) ?_
      refine lv_iload hx hb dX3_holds_13 (lv_at hl 1 rfl) ?_
      refine tr_icmp_ge (tgt := 41) hx hb hf dX3_holds_15 (by decide) (fun hc hf => ?_) (fun hc hf => ?_)
      · refine lv_aload_n hx hb dX3_holds_18 rfl (lv_at hl 2 rfl) ?_
        refine lv_iload_n hx hb dX3_holds_19 rfl (lv_at hl 3 rfl) ?_
        refine lv_iload_n hx hb dX3_holds_20 rfl (lv_at hl 4 rfl) ?_
        obtain ⟨z3, hz, hf⟩ := tl_bs hf
        refine tl_callS0 (As := [.int (tl_I p1), .int (tl_I p2)]) (rest := [.ref a_this]) (wr := [tl_ob a_this 4 [.ref a_words, .ref a_lengths], tl_ia (cy 1) a_lengths 1000 v_lengths, tl_ja (cy 2) a_words 2000 v_words]) ⟨hx, hb, hml, hown, hts⟩ (kt_X3_rowOf l D cy p1 p2 z3 hz) (va_cwS 2 hts tg_X3_23 rfl rfl rfl td_X3_rowOf ⟨by decide, by decide⟩) hK hP hD hS hA [] [0, 1, 2] rfl rfl rfl rfl (by decide) rfl hl.1 rfl (Nat.le_of_ble_eq_true rfl) dX3_holds_21 ⟨by decide, by decide⟩ (fun v w1 H locs hp hP hD hS => ?_)
        obtain ⟨rfl, rfl⟩ := hp
        have hP : va_P D vwCl [tl_ob a_this 4 [.ref a_words, .ref a_lengths], tl_ia (cy 1) a_lengths 1000 v_lengths, tl_ja (cy 2) a_words 2000 v_words] H := hP
        have hD : va_D A [tl_ob a_this 4 [.ref a_words, .ref a_lengths], tl_ia (cy 1) a_lengths 1000 v_lengths, tl_ja (cy 2) a_words 2000 v_words] := hD
        refine W.eq (g2 := F0 m 24 ls [.int (tl_I z3), .ref a_this]) rfl ?_
        refine lv_iload hx hb dX3_holds_24 (lv_at hl 0 rfl) ?_
        obtain ⟨z4, hz, hf⟩ := tl_bs hf
        refine tl_callV0 (As := [.int (tl_I z3), .int (tl_I x2)]) (rest := []) (wr := [tl_ia (cy 1) a_lengths 1000 v_lengths]) ⟨hx, hb, hml, hown, hts⟩ (kt_X3_read l D cy a_this a_words a_lengths v_words z3 x2 z4 hz) (cwV 2 hts tg_X3_30 rfl rfl rfl td_X3_read ⟨by decide, by decide⟩) hK hP hD hS hA [0, 2] [1] rfl rfl rfl rfl (by decide) 0 4 rfl rfl rfl rfl hl.1 rfl (Nat.le_of_ble_eq_true rfl) dX3_holds_26 ⟨by decide, by decide⟩ (fun v w1 H locs hp hP hD hS => ?_)
        obtain ⟨rfl, rfl⟩ := hp
        have hP : va_P D vwCl [tl_ia (cy 1) a_lengths 1000 v_lengths, tl_ob a_this 4 [.ref a_words, .ref a_lengths], tl_ja (cy 2) a_words 2000 v_words] H := hP
        have hD : va_D A [tl_ia (cy 1) a_lengths 1000 v_lengths, tl_ob a_this 4 [.ref a_words, .ref a_lengths], tl_ja (cy 2) a_words 2000 v_words] := hD
        refine W.eq (g2 := F0 m 29 ls [.int (tl_I z4)]) rfl ?_
        refine lv_iload_n hx hb dX3_holds_29 rfl (lv_at hl 5 rfl) ?_
        refine tr_icmp_ne (tgt := 35) hx hb hf dX3_holds_30 (by decide) (fun hc hf => ?_) (fun hc hf => ?_)
        · refine lv_iconst (v := tl_I (1 : Int)) hx hb dX3_holds_33 rfl ?_
          injection hf with hf
          subst hf
          have hf := hXL1 _ rfl
          subst hf
          exact W.zret (v := tl_I (1 : Int)) hx hb hr rfl (fun t ht hW => tl_fin hAe ⟨rfl, rfl⟩ (hP.sub (ws' := [tl_ob a_this 4 [.ref a_words, .ref a_lengths], tl_ia (cy 1) a_lengths 1000 v_lengths, tl_ja (cy 2) a_words 2000 v_words]) [1, 0, 2] rfl) hK (hD.sub (ws' := [tl_ob a_this 4 [.ref a_words, .ref a_lengths], tl_ia (cy 1) a_lengths 1000 v_lengths, tl_ja (cy 2) a_words 2000 v_words]) [1, 0, 2] (by decide) rfl) hS ht hW) hS.2.2 dX3_holds_34
        · refine lv_iinc (v := tl_I (x2 + 1)) (lv' := [(5, .int (tl_I (x2 + 1))), (4, .int (tl_I z1)), (0, .ref a_this), (1, .int (tl_I p1)), (2, .int (tl_I p2)), (3, .int (tl_I p3))]) hx hb dX3_holds_35 hl (k := 0) rfl (tl_add _ _) (by decide) rfl (fun ls hl => ?_)
          refine lv_goto (tgt := 11) hx hb dX3_holds_38 (by decide) ?_
          exact ih (x2 + 1) outL1 hf _ _ _ (hP.sub (ws' := [tl_ob a_this 4 [.ref a_words, .ref a_lengths], tl_ia (cy 1) a_lengths 1000 v_lengths, tl_ja (cy 2) a_words 2000 v_words]) [1, 0, 2] rfl) (hD.sub (ws' := [tl_ob a_this 4 [.ref a_words, .ref a_lengths], tl_ia (cy 1) a_lengths 1000 v_lengths, tl_ja (cy 2) a_words 2000 v_words]) [1, 0, 2] (by decide) rfl) hS (lv_sub hl [0, 1, 2, 3, 4, 5] rfl) hE hXL1
      · injection hf with hf
        subst hf
        exact hE  rfl _ _ _ (hP.sub (ws' := [tl_ob a_this 4 [.ref a_words, .ref a_lengths], tl_ia (cy 1) a_lengths 1000 v_lengths, tl_ja (cy 2) a_words 2000 v_words]) [0, 1, 2] rfl) (hD.sub (ws' := [tl_ob a_this 4 [.ref a_words, .ref a_lengths], tl_ia (cy 1) a_lengths 1000 v_lengths, tl_ja (cy 2) a_words 2000 v_words]) [0, 1, 2] (by decide) rfl) hS (lv_sub hl [] rfl)
  obtain ⟨o, hz, hf⟩ := tl_bs hf
  refine lp1 tl_N (0 : Int) o hz _ _ _ (hP.sub (ws' := [tl_ob a_this 4 [.ref a_words, .ref a_lengths], tl_ia (cy 1) a_lengths 1000 v_lengths, tl_ja (cy 2) a_words 2000 v_words]) [1, 2, 0] rfl) (hD.sub (ws' := [tl_ob a_this 4 [.ref a_words, .ref a_lengths], tl_ia (cy 1) a_lengths 1000 v_lengths, tl_ja (cy 2) a_words 2000 v_words]) [1, 2, 0] (by decide) rfl) hS (lv_sub hl [0, 1, 2, 3, 4, 5] rfl) ?_ ?_
  · intro  ho H locs ls hP hD hS hl
    subst ho
    try dsimp only at hf
    refine lv_iconst (v := tl_I (0 : Int)) hx hb dX3_holds_41 rfl ?_
    injection hf with hf
    subst hf
    exact W.zret (v := tl_I (0 : Int)) hx hb hr rfl (fun t ht hW => tl_fin hAe ⟨rfl, rfl⟩ (hP.sub (ws' := [tl_ob a_this 4 [.ref a_words, .ref a_lengths], tl_ia (cy 1) a_lengths 1000 v_lengths, tl_ja (cy 2) a_words 2000 v_words]) [0, 1, 2] rfl) hK (hD.sub (ws' := [tl_ob a_this 4 [.ref a_words, .ref a_lengths], tl_ia (cy 1) a_lengths 1000 v_lengths, tl_ja (cy 2) a_words 2000 v_words]) [0, 1, 2] (by decide) rfl) hS ht hW) hS.2.2 dX3_holds_42
  · intro r ho
    subst ho
    dsimp only at hf
    injection hf
set_option maxHeartbeats 4000000 in
set_option maxRecDepth 100000 in
theorem kt_X3_addTo (l : Launch) (D : va_G) (cy : Nat → ClassId) (a_this a_lengths a_words a_p1 a_p1_inside a_p1_list : Nat) (v_lengths : Nat → Int) (v_words : Nat → Int64) (v_p1_length : Int) (v_p1_inside : Nat → Int) (v_p1_list : Nat → Int) (p2 : Int) (p3 : Int)  (z : (Nat → Int) × (Nat → Int) × Int) (hf : fX3_addTo v_lengths v_words v_p1_length v_p1_inside v_p1_list p2 p3 = some z) :
    tl_MC l D (tl_tys cy) yX3_addTo (tl_w yX3_addTo cX3_addTo 6 none) { frames := 2, cells := 0, slots := 0, locals := 43 } [.ref a_this, .ref a_p1, .int (tl_I p2), .int (tl_I p3)] [tl_ob a_this 4 [.ref a_words, .ref a_lengths], tl_ia (cy 1) a_lengths 1000 v_lengths, tl_ja (cy 2) a_words 2000 v_words, tl_ob a_p1 5 [.ref a_p1_inside, .ref a_p1_list, .int (tl_I v_p1_length)], tl_ia (cy 3) a_p1_inside 100 v_p1_inside, tl_ia (cy 1) a_p1_list 100 v_p1_list] 0 0 (fun v w1 => v = none ∧ w1 = [tl_ob a_this 4 [.ref a_words, .ref a_lengths], tl_ia (cy 1) a_lengths 1000 v_lengths, tl_ja (cy 2) a_words 2000 v_words, tl_ob a_p1 5 [.ref a_p1_inside, .ref a_p1_list, .int (tl_I z.2.2)], tl_ia (cy 3) a_p1_inside 100 z.1, tl_ia (cy 1) a_p1_list 100 z.2.1]) := by
  refine tl_ofW (cc := cX3_addTo) (maxL := 6) (ret := none) (by decide +kernel) (Nat.le_of_ble_eq_true rfl) ?_
  intro p e s m below meth c hx hb hr hml hts hown hlocks hnm A hAe hA hP hK hD hS ls hl
  have hl : lv_has ls 6 [(0, .ref a_this), (1, .ref a_p1), (2, .int (tl_I p2)), (3, .int (tl_I p3))] := hl
  unfold fX3_addTo at hf
  refine lv_aload_n hx hb dX3_addTo_0 rfl (lv_at hl 0 rfl) ?_
  refine lv_iload_n hx hb dX3_addTo_1 rfl (lv_at hl 2 rfl) ?_
  refine lv_iload_n hx hb dX3_addTo_2 rfl (lv_at hl 3 rfl) ?_
  obtain ⟨z1, hz, hf⟩ := tl_bs hf
  refine tl_callV0 (As := [.int (tl_I p2), .int (tl_I p3)]) (rest := []) (wr := [tl_ja (cy 2) a_words 2000 v_words, tl_ob a_p1 5 [.ref a_p1_inside, .ref a_p1_list, .int (tl_I v_p1_length)], tl_ia (cy 3) a_p1_inside 100 v_p1_inside, tl_ia (cy 1) a_p1_list 100 v_p1_list]) ⟨hx, hb, hml, hown, hts⟩ (kt_X3_lengthOf l D cy a_this a_lengths a_words v_lengths p2 p3 z1 hz) (cwV 2 hts tg_X3_27 rfl rfl rfl td_X3_lengthOf ⟨by decide, by decide⟩) hK hP hD hS hA [0, 1] [2, 3, 4, 5] rfl rfl rfl rfl (by decide) 0 4 rfl rfl rfl rfl hl.1 rfl (Nat.le_of_ble_eq_true rfl) dX3_addTo_3 ⟨by decide, by decide⟩ (fun v w1 H locs hp hP hD hS => ?_)
  obtain ⟨rfl, rfl⟩ := hp
  have hP : va_P D vwCl [tl_ja (cy 2) a_words 2000 v_words, tl_ob a_p1 5 [.ref a_p1_inside, .ref a_p1_list, .int (tl_I v_p1_length)], tl_ia (cy 3) a_p1_inside 100 v_p1_inside, tl_ia (cy 1) a_p1_list 100 v_p1_list, tl_ob a_this 4 [.ref a_words, .ref a_lengths], tl_ia (cy 1) a_lengths 1000 v_lengths] H := hP
  have hD : va_D A [tl_ja (cy 2) a_words 2000 v_words, tl_ob a_p1 5 [.ref a_p1_inside, .ref a_p1_list, .int (tl_I v_p1_length)], tl_ia (cy 3) a_p1_inside 100 v_p1_inside, tl_ia (cy 1) a_p1_list 100 v_p1_list, tl_ob a_this 4 [.ref a_words, .ref a_lengths], tl_ia (cy 1) a_lengths 1000 v_lengths] := hD
  refine W.eq (g2 := F0 m 6 ls [.int (tl_I z1)]) rfl ?_
  refine lv_istore (lv' := [(4, .int (tl_I z1)), (0, .ref a_this), (1, .ref a_p1), (2, .int (tl_I p2)), (3, .int (tl_I p3))]) hx hb dX3_addTo_6 hl (by decide) rfl (fun ls hl => ?_)
  refine lv_iconst (v := tl_I (0 : Int)) hx hb dX3_addTo_8 rfl ?_
  refine lv_istore (lv' := [(5, .int (tl_I (0 : Int))), (4, .int (tl_I z1)), (0, .ref a_this), (1, .ref a_p1), (2, .int (tl_I p2)), (3, .int (tl_I p3))]) hx hb dX3_addTo_9 hl (by decide) rfl (fun ls hl => ?_)
  have lp1 : ∀ (n : Nat) (x2 : Int) (x3 : Int) (x4 : Nat → Int) (x5 : Nat → Int) (outL1 : Int × (Nat → Int) × (Nat → Int)), fX3_addTo_L1 v_words p2 p3 z1 n x2 x3 x4 x5 = some outL1 → ∀ (H : Heap) (locs : List Loc) (ls : Array Slot), va_P D vwCl [tl_ob a_this 4 [.ref a_words, .ref a_lengths], tl_ia (cy 1) a_lengths 1000 v_lengths, tl_ja (cy 2) a_words 2000 v_words, tl_ob a_p1 5 [.ref a_p1_inside, .ref a_p1_list, .int (tl_I x3)], tl_ia (cy 3) a_p1_inside 100 x4, tl_ia (cy 1) a_p1_list 100 x5] H → va_D A [tl_ob a_this 4 [.ref a_words, .ref a_lengths], tl_ia (cy 1) a_lengths 1000 v_lengths, tl_ja (cy 2) a_words 2000 v_words, tl_ob a_p1 5 [.ref a_p1_inside, .ref a_p1_list, .int (tl_I x3)], tl_ia (cy 3) a_p1_inside 100 x4, tl_ia (cy 1) a_p1_list 100 x5] → va_S A s.heap H locs → lv_has ls 6 [(5, .int (tl_I x2)), (4, .int (tl_I z1)), (0, .ref a_this), (1, .ref a_p1), (2, .int (tl_I p2)), (3, .int (tl_I p3))] → (∀ (x3 : Int) (x4 : Nat → Int) (x5 : Nat → Int), outL1 = (x3, x4, x5) → ∀ (H : Heap) (locs : List Loc) (ls : Array Slot), va_P D vwCl [tl_ob a_this 4 [.ref a_words, .ref a_lengths], tl_ia (cy 1) a_lengths 1000 v_lengths, tl_ja (cy 2) a_words 2000 v_words, tl_ob a_p1 5 [.ref a_p1_inside, .ref a_p1_list, .int (tl_I x3)], tl_ia (cy 3) a_p1_inside 100 x4, tl_ia (cy 1) a_p1_list 100 x5] H → va_D A [tl_ob a_this 4 [.ref a_words, .ref a_lengths], tl_ia (cy 1) a_lengths 1000 v_lengths, tl_ja (cy 2) a_words 2000 v_words, tl_ob a_p1 5 [.ref a_p1_inside, .ref a_p1_list, .int (tl_I x3)], tl_ia (cy 3) a_p1_inside 100 x4, tl_ia (cy 1) a_p1_list 100 x5] → va_S A s.heap H locs → lv_has ls 6 [] → W p l e { frames := 2, cells := 0, slots := 0, locals := 43 } s m ([.ref a_this, .ref a_p1, .int (tl_I p2), .int (tl_I p3)] : List Value).toArray below meth c H locs 0 0 (MQ below (tl_Q D (tl_tys cy) [tl_ob a_this 4 [.ref a_words, .ref a_lengths], tl_ia (cy 1) a_lengths 1000 v_lengths, tl_ja (cy 2) a_words 2000 v_words, tl_ob a_p1 5 [.ref a_p1_inside, .ref a_p1_list, .int (tl_I v_p1_length)], tl_ia (cy 3) a_p1_inside 100 v_p1_inside, tl_ia (cy 1) a_p1_list 100 v_p1_list] s.heap.size (fun v w1 => v = none ∧ w1 = [tl_ob a_this 4 [.ref a_words, .ref a_lengths], tl_ia (cy 1) a_lengths 1000 v_lengths, tl_ja (cy 2) a_words 2000 v_words, tl_ob a_p1 5 [.ref a_p1_inside, .ref a_p1_list, .int (tl_I z.2.2)], tl_ia (cy 3) a_p1_inside 100 z.1, tl_ia (cy 1) a_p1_list 100 z.2.1])) ([.ref a_this, .ref a_p1, .int (tl_I p2), .int (tl_I p3)] : List Value).toArray s 0 0 A) (F0 m 39 ls [])) → W p l e { frames := 2, cells := 0, slots := 0, locals := 43 } s m ([.ref a_this, .ref a_p1, .int (tl_I p2), .int (tl_I p3)] : List Value).toArray below meth c H locs 0 0 (MQ below (tl_Q D (tl_tys cy) [tl_ob a_this 4 [.ref a_words, .ref a_lengths], tl_ia (cy 1) a_lengths 1000 v_lengths, tl_ja (cy 2) a_words 2000 v_words, tl_ob a_p1 5 [.ref a_p1_inside, .ref a_p1_list, .int (tl_I v_p1_length)], tl_ia (cy 3) a_p1_inside 100 v_p1_inside, tl_ia (cy 1) a_p1_list 100 v_p1_list] s.heap.size (fun v w1 => v = none ∧ w1 = [tl_ob a_this 4 [.ref a_words, .ref a_lengths], tl_ia (cy 1) a_lengths 1000 v_lengths, tl_ja (cy 2) a_words 2000 v_words, tl_ob a_p1 5 [.ref a_p1_inside, .ref a_p1_list, .int (tl_I z.2.2)], tl_ia (cy 3) a_p1_inside 100 z.1, tl_ia (cy 1) a_p1_list 100 z.2.1])) ([.ref a_this, .ref a_p1, .int (tl_I p2), .int (tl_I p3)] : List Value).toArray s 0 0 A) (F0 m 11 ls []) := by
    intro n
    induction n with
    | zero =>
      intro x2 x3 x4 x5 outL1 hf
      cases hf
    | succ n ih =>
      intro x2 x3 x4 x5 outL1 hf H locs ls hP hD hS hl hE
      rw [fX3_addTo_L1] at hf
      refine lv_iload hx hb dX3_addTo_11 (lv_at hl 0 rfl) ?_
      refine lv_iload hx hb dX3_addTo_13 (lv_at hl 1 rfl) ?_
      refine tr_icmp_ge (tgt := 39) hx hb hf dX3_addTo_15 (by decide) (fun hc hf => ?_) (fun hc hf => ?_)
      · refine lv_aload_n hx hb dX3_addTo_18 rfl (lv_at hl 3 rfl) ?_
        refine lv_aload_n hx hb dX3_addTo_19 rfl (lv_at hl 2 rfl) ?_
        refine lv_iload_n hx hb dX3_addTo_20 rfl (lv_at hl 4 rfl) ?_
        refine lv_iload_n hx hb dX3_addTo_21 rfl (lv_at hl 5 rfl) ?_
        obtain ⟨z6, hz, hf⟩ := tl_bs hf
        refine tl_callS0 (As := [.int (tl_I p2), .int (tl_I p3)]) (rest := [.ref a_this, .ref a_p1]) (wr := [tl_ob a_this 4 [.ref a_words, .ref a_lengths], tl_ia (cy 1) a_lengths 1000 v_lengths, tl_ja (cy 2) a_words 2000 v_words, tl_ob a_p1 5 [.ref a_p1_inside, .ref a_p1_list, .int (tl_I x3)], tl_ia (cy 3) a_p1_inside 100 x4, tl_ia (cy 1) a_p1_list 100 x5]) ⟨hx, hb, hml, hown, hts⟩ (kt_X3_rowOf l D cy p2 p3 z6 hz) (va_cwS 2 hts tg_X3_23 rfl rfl rfl td_X3_rowOf ⟨by decide, by decide⟩) hK hP hD hS hA [] [0, 1, 2, 3, 4, 5] rfl rfl rfl rfl (by decide) rfl hl.1 rfl (Nat.le_of_ble_eq_true rfl) dX3_addTo_22 ⟨by decide, by decide⟩ (fun v w1 H locs hp hP hD hS => ?_)
        obtain ⟨rfl, rfl⟩ := hp
        have hP : va_P D vwCl [tl_ob a_this 4 [.ref a_words, .ref a_lengths], tl_ia (cy 1) a_lengths 1000 v_lengths, tl_ja (cy 2) a_words 2000 v_words, tl_ob a_p1 5 [.ref a_p1_inside, .ref a_p1_list, .int (tl_I x3)], tl_ia (cy 3) a_p1_inside 100 x4, tl_ia (cy 1) a_p1_list 100 x5] H := hP
        have hD : va_D A [tl_ob a_this 4 [.ref a_words, .ref a_lengths], tl_ia (cy 1) a_lengths 1000 v_lengths, tl_ja (cy 2) a_words 2000 v_words, tl_ob a_p1 5 [.ref a_p1_inside, .ref a_p1_list, .int (tl_I x3)], tl_ia (cy 3) a_p1_inside 100 x4, tl_ia (cy 1) a_p1_list 100 x5] := hD
        refine W.eq (g2 := F0 m 25 ls [.int (tl_I z6), .ref a_this, .ref a_p1]) rfl ?_
        refine lv_iload hx hb dX3_addTo_25 (lv_at hl 0 rfl) ?_
        obtain ⟨z7, hz, hf⟩ := tl_bs hf
        refine tl_callV0 (As := [.int (tl_I z6), .int (tl_I x2)]) (rest := [.ref a_p1]) (wr := [tl_ia (cy 1) a_lengths 1000 v_lengths, tl_ob a_p1 5 [.ref a_p1_inside, .ref a_p1_list, .int (tl_I x3)], tl_ia (cy 3) a_p1_inside 100 x4, tl_ia (cy 1) a_p1_list 100 x5]) ⟨hx, hb, hml, hown, hts⟩ (kt_X3_read l D cy a_this a_words a_lengths v_words z6 x2 z7 hz) (cwV 2 hts tg_X3_30 rfl rfl rfl td_X3_read ⟨by decide, by decide⟩) hK hP hD hS hA [0, 2] [1, 3, 4, 5] rfl rfl rfl rfl (by decide) 0 4 rfl rfl rfl rfl hl.1 rfl (Nat.le_of_ble_eq_true rfl) dX3_addTo_27 ⟨by decide, by decide⟩ (fun v w1 H locs hp hP hD hS => ?_)
        obtain ⟨rfl, rfl⟩ := hp
        have hP : va_P D vwCl [tl_ia (cy 1) a_lengths 1000 v_lengths, tl_ob a_p1 5 [.ref a_p1_inside, .ref a_p1_list, .int (tl_I x3)], tl_ia (cy 3) a_p1_inside 100 x4, tl_ia (cy 1) a_p1_list 100 x5, tl_ob a_this 4 [.ref a_words, .ref a_lengths], tl_ja (cy 2) a_words 2000 v_words] H := hP
        have hD : va_D A [tl_ia (cy 1) a_lengths 1000 v_lengths, tl_ob a_p1 5 [.ref a_p1_inside, .ref a_p1_list, .int (tl_I x3)], tl_ia (cy 3) a_p1_inside 100 x4, tl_ia (cy 1) a_p1_list 100 x5, tl_ob a_this 4 [.ref a_words, .ref a_lengths], tl_ja (cy 2) a_words 2000 v_words] := hD
        refine W.eq (g2 := F0 m 30 ls [.int (tl_I z7), .ref a_p1]) rfl ?_
        obtain ⟨z8, hz, hf⟩ := tl_bs hf
        refine tl_callV0 (As := [.int (tl_I z7)]) (rest := []) (wr := [tl_ia (cy 1) a_lengths 1000 v_lengths, tl_ob a_this 4 [.ref a_words, .ref a_lengths], tl_ja (cy 2) a_words 2000 v_words]) ⟨hx, hb, hml, hown, hts⟩ (kt_X4_add l D cy a_p1 a_p1_inside a_p1_list x3 x4 x5 z7 z8 hz) (cwV 1 hts tg_X3_33 rfl rfl rfl td_X4_add ⟨by decide, by decide⟩) hK hP hD hS hA [1, 2, 3] [0, 4, 5] rfl rfl rfl rfl (by decide) 1 5 rfl rfl rfl rfl hl.1 rfl (Nat.le_of_ble_eq_true rfl) dX3_addTo_30 ⟨by decide, by decide⟩ (fun v w1 H locs hp hP hD hS => ?_)
        obtain ⟨rfl, rfl⟩ := hp
        have hP : va_P D vwCl [tl_ia (cy 1) a_lengths 1000 v_lengths, tl_ob a_this 4 [.ref a_words, .ref a_lengths], tl_ja (cy 2) a_words 2000 v_words, tl_ob a_p1 5 [.ref a_p1_inside, .ref a_p1_list, .int (tl_I z8.2.2)], tl_ia (cy 3) a_p1_inside 100 z8.1, tl_ia (cy 1) a_p1_list 100 z8.2.1] H := hP
        have hD : va_D A [tl_ia (cy 1) a_lengths 1000 v_lengths, tl_ob a_this 4 [.ref a_words, .ref a_lengths], tl_ja (cy 2) a_words 2000 v_words, tl_ob a_p1 5 [.ref a_p1_inside, .ref a_p1_list, .int (tl_I z8.2.2)], tl_ia (cy 3) a_p1_inside 100 z8.1, tl_ia (cy 1) a_p1_list 100 z8.2.1] := hD
        refine W.eq (g2 := F0 m 33 ls []) rfl ?_
        refine lv_iinc (v := tl_I (x2 + 1)) (lv' := [(5, .int (tl_I (x2 + 1))), (4, .int (tl_I z1)), (0, .ref a_this), (1, .ref a_p1), (2, .int (tl_I p2)), (3, .int (tl_I p3))]) hx hb dX3_addTo_33 hl (k := 0) rfl (tl_add _ _) (by decide) rfl (fun ls hl => ?_)
        refine lv_goto (tgt := 11) hx hb dX3_addTo_36 (by decide) ?_
        exact ih (x2 + 1) z8.2.2 z8.1 z8.2.1 outL1 hf _ _ _ (hP.sub (ws' := [tl_ob a_this 4 [.ref a_words, .ref a_lengths], tl_ia (cy 1) a_lengths 1000 v_lengths, tl_ja (cy 2) a_words 2000 v_words, tl_ob a_p1 5 [.ref a_p1_inside, .ref a_p1_list, .int (tl_I z8.2.2)], tl_ia (cy 3) a_p1_inside 100 z8.1, tl_ia (cy 1) a_p1_list 100 z8.2.1]) [1, 0, 2, 3, 4, 5] rfl) (hD.sub (ws' := [tl_ob a_this 4 [.ref a_words, .ref a_lengths], tl_ia (cy 1) a_lengths 1000 v_lengths, tl_ja (cy 2) a_words 2000 v_words, tl_ob a_p1 5 [.ref a_p1_inside, .ref a_p1_list, .int (tl_I z8.2.2)], tl_ia (cy 3) a_p1_inside 100 z8.1, tl_ia (cy 1) a_p1_list 100 z8.2.1]) [1, 0, 2, 3, 4, 5] (by decide) rfl) hS (lv_sub hl [0, 1, 2, 3, 4, 5] rfl) hE
      · injection hf with hf
        subst hf
        exact hE x3 x4 x5 rfl _ _ _ (hP.sub (ws' := [tl_ob a_this 4 [.ref a_words, .ref a_lengths], tl_ia (cy 1) a_lengths 1000 v_lengths, tl_ja (cy 2) a_words 2000 v_words, tl_ob a_p1 5 [.ref a_p1_inside, .ref a_p1_list, .int (tl_I x3)], tl_ia (cy 3) a_p1_inside 100 x4, tl_ia (cy 1) a_p1_list 100 x5]) [0, 1, 2, 3, 4, 5] rfl) (hD.sub (ws' := [tl_ob a_this 4 [.ref a_words, .ref a_lengths], tl_ia (cy 1) a_lengths 1000 v_lengths, tl_ja (cy 2) a_words 2000 v_words, tl_ob a_p1 5 [.ref a_p1_inside, .ref a_p1_list, .int (tl_I x3)], tl_ia (cy 3) a_p1_inside 100 x4, tl_ia (cy 1) a_p1_list 100 x5]) [0, 1, 2, 3, 4, 5] (by decide) rfl) hS (lv_sub hl [] rfl)
  obtain ⟨o, hz, hf⟩ := tl_bs hf
  refine lp1 tl_N (0 : Int) v_p1_length v_p1_inside v_p1_list o hz _ _ _ (hP.sub (ws' := [tl_ob a_this 4 [.ref a_words, .ref a_lengths], tl_ia (cy 1) a_lengths 1000 v_lengths, tl_ja (cy 2) a_words 2000 v_words, tl_ob a_p1 5 [.ref a_p1_inside, .ref a_p1_list, .int (tl_I v_p1_length)], tl_ia (cy 3) a_p1_inside 100 v_p1_inside, tl_ia (cy 1) a_p1_list 100 v_p1_list]) [4, 5, 0, 1, 2, 3] rfl) (hD.sub (ws' := [tl_ob a_this 4 [.ref a_words, .ref a_lengths], tl_ia (cy 1) a_lengths 1000 v_lengths, tl_ja (cy 2) a_words 2000 v_words, tl_ob a_p1 5 [.ref a_p1_inside, .ref a_p1_list, .int (tl_I v_p1_length)], tl_ia (cy 3) a_p1_inside 100 v_p1_inside, tl_ia (cy 1) a_p1_list 100 v_p1_list]) [4, 5, 0, 1, 2, 3] (by decide) rfl) hS (lv_sub hl [0, 1, 2, 3, 4, 5] rfl) ?_
  intro x3 x4 x5 ho H locs ls hP hD hS hl
  subst ho
  try dsimp only at hf
  injection hf with hf
  subst hf
  exact W.vret hx hb hr (fun t ht hW => tl_fin hAe ⟨rfl, rfl⟩ (hP.sub (ws' := [tl_ob a_this 4 [.ref a_words, .ref a_lengths], tl_ia (cy 1) a_lengths 1000 v_lengths, tl_ja (cy 2) a_words 2000 v_words, tl_ob a_p1 5 [.ref a_p1_inside, .ref a_p1_list, .int (tl_I x3)], tl_ia (cy 3) a_p1_inside 100 x4, tl_ia (cy 1) a_p1_list 100 x5]) [0, 1, 2, 3, 4, 5] rfl) hK (hD.sub (ws' := [tl_ob a_this 4 [.ref a_words, .ref a_lengths], tl_ia (cy 1) a_lengths 1000 v_lengths, tl_ja (cy 2) a_words 2000 v_words, tl_ob a_p1 5 [.ref a_p1_inside, .ref a_p1_list, .int (tl_I x3)], tl_ia (cy 3) a_p1_inside 100 x4, tl_ia (cy 1) a_p1_list 100 x5]) [0, 1, 2, 3, 4, 5] (by decide) rfl) hS ht hW) hS.2.2 dX3_addTo_39
set_option maxHeartbeats 4000000 in
set_option maxRecDepth 100000 in
theorem kt_X3_write (l : Launch) (D : va_G) (cy : Nat → ClassId) (a_this a_words a_lengths : Nat) (v_words : Nat → Int64) (p1 : Int) (p2 : Int) (p3 : Int)  (z : Nat → Int64) (hf : fX3_write v_words p1 p2 p3 = some z) :
    tl_MC l D (tl_tys cy) yX3_write (tl_w yX3_write cX3_write 8 none) { frames := 0, cells := 0, slots := 0, locals := 0 } [.ref a_this, .int (tl_I p1), .int (tl_I p2), .int (tl_I p3)] [tl_ob a_this 4 [.ref a_words, .ref a_lengths], tl_ja (cy 2) a_words 2000 v_words] 0 0 (fun v w1 => v = none ∧ w1 = [tl_ob a_this 4 [.ref a_words, .ref a_lengths], tl_ja (cy 2) a_words 2000 z]) := by
  refine tl_ofW (cc := cX3_write) (maxL := 8) (ret := none) (by decide +kernel) (Nat.le_of_ble_eq_true rfl) ?_
  intro p e s m below meth c hx hb hr hml hts hown hlocks hnm A hAe hA hP hK hD hS ls hl
  have hl : lv_has ls 8 [(0, .ref a_this), (1, .int (tl_I p1)), (2, .int (tl_I p2)), (3, .int (tl_I p3))] := hl
  unfold fX3_write at hf
  refine lv_iload_n hx hb dX3_write_0 rfl (lv_at hl 1 rfl) ?_
  refine lv_iconst (v := tl_I (2 : Int)) hx hb dX3_write_1 rfl ?_
  refine tr_imul hx hb dX3_write_2 ?_
  refine lv_iload_n hx hb dX3_write_3 rfl (lv_at hl 2 rfl) ?_
  refine lv_bipush (v := tl_I (6 : Int)) hx hb dX3_write_4 rfl ?_
  refine tr_idiv hx hb hf dX3_write_6 (fun hf => ?_)
  refine tr_iadd hx hb dX3_write_7 ?_
  refine lv_istore (lv' := [(4, .int (tl_I ((p1 * (2 : Int)) + (p2 / (6 : Int))))), (0, .ref a_this), (1, .int (tl_I p1)), (2, .int (tl_I p2)), (3, .int (tl_I p3))]) hx hb dX3_write_8 hl (by decide) rfl (fun ls hl => ?_)
  refine lv_iload_n hx hb dX3_write_10 rfl (lv_at hl 3 rfl) ?_
  refine lv_bipush (v := tl_I (6 : Int)) hx hb dX3_write_11 rfl ?_
  refine tr_irem hx hb hf dX3_write_13 (fun hf => ?_)
  refine lv_bipush (v := tl_I (8 : Int)) hx hb dX3_write_14 rfl ?_
  refine tr_imul hx hb dX3_write_16 ?_
  refine lv_istore (lv' := [(5, .int (tl_I ((p2 % (6 : Int)) * (8 : Int)))), (4, .int (tl_I ((p1 * (2 : Int)) + (p2 / (6 : Int))))), (0, .ref a_this), (1, .int (tl_I p1)), (2, .int (tl_I p2)), (3, .int (tl_I p3))]) hx hb dX3_write_17 hl (by decide) rfl (fun ls hl => ?_)
  refine lv_aload_n hx hb dX3_write_19 rfl (lv_at hl 2 rfl) ?_
  refine va_get (ci := 4) (v := .ref a_words) (C := RX3) (T := TX3) (N := 2) hx hb hts in_X3 hown hK hP 0 rfl rfl 0 (by decide) (hts _ tw_241) (fun _ h9 => h9) rfl dX3_write_20 ?_
  refine lv_iload hx hb dX3_write_23 (lv_at hl 1 rfl) ?_
  refine tr_lald hx hb hf hK hP 1 2 rfl rfl (by decide) dX3_write_25 (fun hf => ?_)
  refine lv_ldc2 (v := 255) hx hb hown (hts _ tw_529) dX3_write_26 ?_
  refine lv_iload hx hb dX3_write_29 (lv_at hl 0 rfl) ?_
  refine lv_lshl (v := tl_lshl (255 : Int64) ((p2 % (6 : Int)) * (8 : Int))) hx hb dX3_write_31 rfl ?_
  refine lv_ldc2 (v := -1) hx hb hown (hts _ tw_563) dX3_write_32 ?_
  refine lv_lxor hx hb dX3_write_35 ?_
  refine lv_land hx hb dX3_write_36 ?_
  refine lv_lstore (lv' := [(6, .long ((v_words ((p1 * (2 : Int)) + (p2 / (6 : Int))).toNat) &&& ((tl_lshl (255 : Int64) ((p2 % (6 : Int)) * (8 : Int))) ^^^ (-1 : Int64)))), (5, .int (tl_I ((p2 % (6 : Int)) * (8 : Int)))), (4, .int (tl_I ((p1 * (2 : Int)) + (p2 / (6 : Int))))), (0, .ref a_this), (1, .int (tl_I p1)), (2, .int (tl_I p2)), (3, .int (tl_I p3))]) hx hb dX3_write_37 hl (by decide) rfl (fun ls hl => ?_)
  refine lv_aload_n hx hb dX3_write_39 rfl (lv_at hl 3 rfl) ?_
  refine va_get (ci := 4) (v := .ref a_words) (C := RX3) (T := TX3) (N := 2) hx hb hts in_X3 hown hK hP 0 rfl rfl 0 (by decide) (hts _ tw_241) (fun _ h9 => h9) rfl dX3_write_40 ?_
  refine lv_iload hx hb dX3_write_43 (lv_at hl 2 rfl) ?_
  refine lv_lload hx hb dX3_write_45 (lv_at hl 0 rfl) ?_
  refine lv_iload_n hx hb dX3_write_47 rfl (lv_at hl 6 rfl) ?_
  refine lv_i2l (v := tl_i2l p3) hx hb dX3_write_48 rfl ?_
  refine lv_iload hx hb dX3_write_49 (lv_at hl 1 rfl) ?_
  refine lv_lshl (v := tl_lshl (tl_i2l p3) ((p2 % (6 : Int)) * (8 : Int))) hx hb dX3_write_51 rfl ?_
  refine lv_lor hx hb dX3_write_52 ?_
  refine tr_last hx hb hf hK hP hD hS 1 2 rfl rfl (by decide) dX3_write_53 (fun hf H locs hP hD hS => ?_)
  have hP : va_P D vwCl [tl_ob a_this 4 [.ref a_words, .ref a_lengths], tl_ja (cy 2) a_words 2000 (va_up v_words (((p1 * (2 : Int)) + (p2 / (6 : Int))).toNat) (((v_words ((p1 * (2 : Int)) + (p2 / (6 : Int))).toNat) &&& ((tl_lshl (255 : Int64) ((p2 % (6 : Int)) * (8 : Int))) ^^^ (-1 : Int64))) ||| (tl_lshl (tl_i2l p3) ((p2 % (6 : Int)) * (8 : Int)))))] H := hP
  have hD : va_D A [tl_ob a_this 4 [.ref a_words, .ref a_lengths], tl_ja (cy 2) a_words 2000 (va_up v_words (((p1 * (2 : Int)) + (p2 / (6 : Int))).toNat) (((v_words ((p1 * (2 : Int)) + (p2 / (6 : Int))).toNat) &&& ((tl_lshl (255 : Int64) ((p2 % (6 : Int)) * (8 : Int))) ^^^ (-1 : Int64))) ||| (tl_lshl (tl_i2l p3) ((p2 % (6 : Int)) * (8 : Int)))))] := hD
  injection hf with hf
  subst hf
  exact W.vret hx hb hr (fun t ht hW => tl_fin hAe ⟨rfl, rfl⟩ (hP.sub (ws' := [tl_ob a_this 4 [.ref a_words, .ref a_lengths], tl_ja (cy 2) a_words 2000 (va_up v_words (((p1 * (2 : Int)) + (p2 / (6 : Int))).toNat) (((v_words ((p1 * (2 : Int)) + (p2 / (6 : Int))).toNat) &&& ((tl_lshl (255 : Int64) ((p2 % (6 : Int)) * (8 : Int))) ^^^ (-1 : Int64))) ||| (tl_lshl (tl_i2l p3) ((p2 % (6 : Int)) * (8 : Int)))))]) [0, 1] rfl) hK (hD.sub (ws' := [tl_ob a_this 4 [.ref a_words, .ref a_lengths], tl_ja (cy 2) a_words 2000 (va_up v_words (((p1 * (2 : Int)) + (p2 / (6 : Int))).toNat) (((v_words ((p1 * (2 : Int)) + (p2 / (6 : Int))).toNat) &&& ((tl_lshl (255 : Int64) ((p2 % (6 : Int)) * (8 : Int))) ^^^ (-1 : Int64))) ||| (tl_lshl (tl_i2l p3) ((p2 % (6 : Int)) * (8 : Int)))))]) [0, 1] (by decide) rfl) hS ht hW) hS.2.2 dX3_write_54
set_option maxHeartbeats 4000000 in
set_option maxRecDepth 100000 in
theorem kt_X3_insert (l : Launch) (D : va_G) (cy : Nat → ClassId) (a_this a_lengths a_words : Nat) (v_lengths : Nat → Int) (v_words : Nat → Int64) (p1 : Int) (p2 : Int) (p3 : Int) (p4 : Int)  (z : (Nat → Int) × (Nat → Int64)) (hf : fX3_insert v_lengths v_words p1 p2 p3 p4 = some z) :
    tl_MC l D (tl_tys cy) yX3_insert (tl_w yX3_insert cX3_insert 8 none) { frames := 1, cells := 0, slots := 0, locals := 27 } [.ref a_this, .int (tl_I p1), .int (tl_I p2), .int (tl_I p3), .int (tl_I p4)] [tl_ob a_this 4 [.ref a_words, .ref a_lengths], tl_ia (cy 1) a_lengths 1000 v_lengths, tl_ja (cy 2) a_words 2000 v_words] 0 0 (fun v w1 => v = none ∧ w1 = [tl_ob a_this 4 [.ref a_words, .ref a_lengths], tl_ia (cy 1) a_lengths 1000 z.1, tl_ja (cy 2) a_words 2000 z.2]) := by
  refine tl_ofW (cc := cX3_insert) (maxL := 8) (ret := none) (by decide +kernel) (Nat.le_of_ble_eq_true rfl) ?_
  intro p e s m below meth c hx hb hr hml hts hown hlocks hnm A hAe hA hP hK hD hS ls hl
  have hl : lv_has ls 8 [(0, .ref a_this), (1, .int (tl_I p1)), (2, .int (tl_I p2)), (3, .int (tl_I p3)), (4, .int (tl_I p4))] := hl
  unfold fX3_insert at hf
  refine lv_iload_n hx hb dX3_insert_0 rfl (lv_at hl 1 rfl) ?_
  refine lv_iload_n hx hb dX3_insert_1 rfl (lv_at hl 2 rfl) ?_
  obtain ⟨z1, hz, hf⟩ := tl_bs hf
  refine tl_callS0 (As := [.int (tl_I p1), .int (tl_I p2)]) (rest := []) (wr := [tl_ob a_this 4 [.ref a_words, .ref a_lengths], tl_ia (cy 1) a_lengths 1000 v_lengths, tl_ja (cy 2) a_words 2000 v_words]) ⟨hx, hb, hml, hown, hts⟩ (kt_X3_isRow l D cy p1 p2 z1 hz) (va_cwS 2 hts tg_X3_19 rfl rfl rfl td_X3_isRow ⟨by decide, by decide⟩) hK hP hD hS hA [] [0, 1, 2] rfl rfl rfl rfl (by decide) rfl hl.1 rfl (Nat.le_of_ble_eq_true rfl) dX3_insert_2 ⟨by decide, by decide⟩ (fun v w1 H locs hp hP hD hS => ?_)
  obtain ⟨rfl, rfl⟩ := hp
  have hP : va_P D vwCl [tl_ob a_this 4 [.ref a_words, .ref a_lengths], tl_ia (cy 1) a_lengths 1000 v_lengths, tl_ja (cy 2) a_words 2000 v_words] H := hP
  have hD : va_D A [tl_ob a_this 4 [.ref a_words, .ref a_lengths], tl_ia (cy 1) a_lengths 1000 v_lengths, tl_ja (cy 2) a_words 2000 v_words] := hD
  refine W.eq (g2 := F0 m 5 ls [.int (tl_I z1)]) rfl ?_
  refine tr_if_eq (tgt := 16) hx hb hf dX3_insert_5 (by decide) (fun hc hf => ?_) (fun hc hf => ?_)
  · injection hf with hf
    subst hf
    exact W.vret hx hb hr (fun t ht hW => tl_fin hAe ⟨rfl, rfl⟩ (hP.sub (ws' := [tl_ob a_this 4 [.ref a_words, .ref a_lengths], tl_ia (cy 1) a_lengths 1000 v_lengths, tl_ja (cy 2) a_words 2000 v_words]) [0, 1, 2] rfl) hK (hD.sub (ws' := [tl_ob a_this 4 [.ref a_words, .ref a_lengths], tl_ia (cy 1) a_lengths 1000 v_lengths, tl_ja (cy 2) a_words 2000 v_words]) [0, 1, 2] (by decide) rfl) hS ht hW) hS.2.2 dX3_insert_16
  · refine lv_iload hx hb dX3_insert_8 (lv_at hl 4 rfl) ?_
    obtain ⟨z2, hz, hf⟩ := tl_bs hf
    refine tl_callS0 (As := [.int (tl_I p4)]) (rest := []) (wr := [tl_ob a_this 4 [.ref a_words, .ref a_lengths], tl_ia (cy 1) a_lengths 1000 v_lengths, tl_ja (cy 2) a_words 2000 v_words]) ⟨hx, hb, hml, hown, hts⟩ (kt_X4_isSlot l D cy p4 z2 hz) (va_cwS 1 hts tg_X3_39 rfl rfl rfl td_X4_isSlot ⟨by decide, by decide⟩) hK hP hD hS hA [] [0, 1, 2] rfl rfl rfl rfl (by decide) rfl hl.1 rfl (Nat.le_of_ble_eq_true rfl) dX3_insert_10 ⟨by decide, by decide⟩ (fun v w1 H locs hp hP hD hS => ?_)
    obtain ⟨rfl, rfl⟩ := hp
    have hP : va_P D vwCl [tl_ob a_this 4 [.ref a_words, .ref a_lengths], tl_ia (cy 1) a_lengths 1000 v_lengths, tl_ja (cy 2) a_words 2000 v_words] H := hP
    have hD : va_D A [tl_ob a_this 4 [.ref a_words, .ref a_lengths], tl_ia (cy 1) a_lengths 1000 v_lengths, tl_ja (cy 2) a_words 2000 v_words] := hD
    refine W.eq (g2 := F0 m 13 ls [.int (tl_I z2)]) rfl ?_
    refine tr_if_ne (tgt := 17) hx hb hf dX3_insert_13 (by decide) (fun hc hf => ?_) (fun hc hf => ?_)
    · injection hf with hf
      subst hf
      exact W.vret hx hb hr (fun t ht hW => tl_fin hAe ⟨rfl, rfl⟩ (hP.sub (ws' := [tl_ob a_this 4 [.ref a_words, .ref a_lengths], tl_ia (cy 1) a_lengths 1000 v_lengths, tl_ja (cy 2) a_words 2000 v_words]) [0, 1, 2] rfl) hK (hD.sub (ws' := [tl_ob a_this 4 [.ref a_words, .ref a_lengths], tl_ia (cy 1) a_lengths 1000 v_lengths, tl_ja (cy 2) a_words 2000 v_words]) [0, 1, 2] (by decide) rfl) hS ht hW) hS.2.2 dX3_insert_16
    · refine lv_iload_n hx hb dX3_insert_17 rfl (lv_at hl 1 rfl) ?_
      refine lv_iload_n hx hb dX3_insert_18 rfl (lv_at hl 2 rfl) ?_
      obtain ⟨z3, hz, hf⟩ := tl_bs hf
      refine tl_callS0 (As := [.int (tl_I p1), .int (tl_I p2)]) (rest := []) (wr := [tl_ob a_this 4 [.ref a_words, .ref a_lengths], tl_ia (cy 1) a_lengths 1000 v_lengths, tl_ja (cy 2) a_words 2000 v_words]) ⟨hx, hb, hml, hown, hts⟩ (kt_X3_rowOf l D cy p1 p2 z3 hz) (va_cwS 2 hts tg_X3_23 rfl rfl rfl td_X3_rowOf ⟨by decide, by decide⟩) hK hP hD hS hA [] [0, 1, 2] rfl rfl rfl rfl (by decide) rfl hl.1 rfl (Nat.le_of_ble_eq_true rfl) dX3_insert_19 ⟨by decide, by decide⟩ (fun v w1 H locs hp hP hD hS => ?_)
      obtain ⟨rfl, rfl⟩ := hp
      have hP : va_P D vwCl [tl_ob a_this 4 [.ref a_words, .ref a_lengths], tl_ia (cy 1) a_lengths 1000 v_lengths, tl_ja (cy 2) a_words 2000 v_words] H := hP
      have hD : va_D A [tl_ob a_this 4 [.ref a_words, .ref a_lengths], tl_ia (cy 1) a_lengths 1000 v_lengths, tl_ja (cy 2) a_words 2000 v_words] := hD
      refine W.eq (g2 := F0 m 22 ls [.int (tl_I z3)]) rfl ?_
      refine lv_istore (lv' := [(5, .int (tl_I z3)), (0, .ref a_this), (1, .int (tl_I p1)), (2, .int (tl_I p2)), (3, .int (tl_I p3)), (4, .int (tl_I p4))]) hx hb dX3_insert_22 hl (by decide) rfl (fun ls hl => ?_)
      refine lv_aload_n hx hb dX3_insert_24 rfl (lv_at hl 1 rfl) ?_
      refine va_get (ci := 4) (v := .ref a_lengths) (C := RX3) (T := TX3) (N := 2) hx hb hts in_X3 hown hK hP 0 rfl rfl 1 (by decide) (hts _ tw_242) (fun _ h9 => h9) rfl dX3_insert_25 ?_
      refine lv_iload hx hb dX3_insert_28 (lv_at hl 0 rfl) ?_
      refine tr_iald hx hb hf hK hP 1 1 rfl rfl (by decide) dX3_insert_30 (fun hf => ?_)
      refine lv_istore (lv' := [(6, .int (tl_I (v_lengths z3.toNat))), (5, .int (tl_I z3)), (0, .ref a_this), (1, .int (tl_I p1)), (2, .int (tl_I p2)), (3, .int (tl_I p3)), (4, .int (tl_I p4))]) hx hb dX3_insert_31 hl (by decide) rfl (fun ls hl => ?_)
      refine lv_iload_n hx hb dX3_insert_33 rfl (lv_at hl 5 rfl) ?_
      refine tr_if_lt (tgt := 50) hx hb hf dX3_insert_34 (by decide) (fun hc hf => ?_) (fun hc hf => ?_)
      · injection hf with hf
        subst hf
        exact W.vret hx hb hr (fun t ht hW => tl_fin hAe ⟨rfl, rfl⟩ (hP.sub (ws' := [tl_ob a_this 4 [.ref a_words, .ref a_lengths], tl_ia (cy 1) a_lengths 1000 v_lengths, tl_ja (cy 2) a_words 2000 v_words]) [0, 1, 2] rfl) hK (hD.sub (ws' := [tl_ob a_this 4 [.ref a_words, .ref a_lengths], tl_ia (cy 1) a_lengths 1000 v_lengths, tl_ja (cy 2) a_words 2000 v_words]) [0, 1, 2] (by decide) rfl) hS ht hW) hS.2.2 dX3_insert_50
      · refine lv_iload_n hx hb dX3_insert_37 rfl (lv_at hl 5 rfl) ?_
        refine lv_iload hx hb dX3_insert_38 (lv_at hl 0 rfl) ?_
        refine tr_icmp_gt (tgt := 50) hx hb hf dX3_insert_40 (by decide) (fun hc hf => ?_) (fun hc hf => ?_)
        · injection hf with hf
          subst hf
          exact W.vret hx hb hr (fun t ht hW => tl_fin hAe ⟨rfl, rfl⟩ (hP.sub (ws' := [tl_ob a_this 4 [.ref a_words, .ref a_lengths], tl_ia (cy 1) a_lengths 1000 v_lengths, tl_ja (cy 2) a_words 2000 v_words]) [0, 1, 2] rfl) hK (hD.sub (ws' := [tl_ob a_this 4 [.ref a_words, .ref a_lengths], tl_ia (cy 1) a_lengths 1000 v_lengths, tl_ja (cy 2) a_words 2000 v_words]) [0, 1, 2] (by decide) rfl) hS ht hW) hS.2.2 dX3_insert_50
        · refine lv_iload hx hb dX3_insert_43 (lv_at hl 0 rfl) ?_
          refine lv_bipush (v := tl_I (12 : Int)) hx hb dX3_insert_45 rfl ?_
          refine tr_icmp_lt (tgt := 51) hx hb hf dX3_insert_47 (by decide) (fun hc hf => ?_) (fun hc hf => ?_)
          · refine lv_iload hx hb dX3_insert_51 (lv_at hl 0 rfl) ?_
            refine lv_istore (lv' := [(7, .int (tl_I (v_lengths z3.toNat))), (6, .int (tl_I (v_lengths z3.toNat))), (5, .int (tl_I z3)), (0, .ref a_this), (1, .int (tl_I p1)), (2, .int (tl_I p2)), (3, .int (tl_I p3)), (4, .int (tl_I p4))]) hx hb dX3_insert_53 hl (by decide) rfl (fun ls hl => ?_)
            have lp1 : ∀ (n : Nat) (x4 : Int) (x5 : Nat → Int64) (outL1 : Nat → Int64), fX3_insert_L1 p3 z3 n x4 x5 = some outL1 → ∀ (H : Heap) (locs : List Loc) (ls : Array Slot), va_P D vwCl [tl_ob a_this 4 [.ref a_words, .ref a_lengths], tl_ia (cy 1) a_lengths 1000 v_lengths, tl_ja (cy 2) a_words 2000 x5] H → va_D A [tl_ob a_this 4 [.ref a_words, .ref a_lengths], tl_ia (cy 1) a_lengths 1000 v_lengths, tl_ja (cy 2) a_words 2000 x5] → va_S A s.heap H locs → lv_has ls 8 [(7, .int (tl_I x4)), (6, .int (tl_I (v_lengths z3.toNat))), (5, .int (tl_I z3)), (0, .ref a_this), (3, .int (tl_I p3)), (4, .int (tl_I p4))] → (∀ (x5 : Nat → Int64), outL1 = x5 → ∀ (H : Heap) (locs : List Loc) (ls : Array Slot), va_P D vwCl [tl_ob a_this 4 [.ref a_words, .ref a_lengths], tl_ia (cy 1) a_lengths 1000 v_lengths, tl_ja (cy 2) a_words 2000 x5] H → va_D A [tl_ob a_this 4 [.ref a_words, .ref a_lengths], tl_ia (cy 1) a_lengths 1000 v_lengths, tl_ja (cy 2) a_words 2000 x5] → va_S A s.heap H locs → lv_has ls 8 [(6, .int (tl_I (v_lengths z3.toNat))), (5, .int (tl_I z3)), (0, .ref a_this), (3, .int (tl_I p3)), (4, .int (tl_I p4))] → W p l e { frames := 1, cells := 0, slots := 0, locals := 27 } s m ([.ref a_this, .int (tl_I p1), .int (tl_I p2), .int (tl_I p3), .int (tl_I p4)] : List Value).toArray below meth c H locs 0 0 (MQ below (tl_Q D (tl_tys cy) [tl_ob a_this 4 [.ref a_words, .ref a_lengths], tl_ia (cy 1) a_lengths 1000 v_lengths, tl_ja (cy 2) a_words 2000 v_words] s.heap.size (fun v w1 => v = none ∧ w1 = [tl_ob a_this 4 [.ref a_words, .ref a_lengths], tl_ia (cy 1) a_lengths 1000 z.1, tl_ja (cy 2) a_words 2000 z.2])) ([.ref a_this, .int (tl_I p1), .int (tl_I p2), .int (tl_I p3), .int (tl_I p4)] : List Value).toArray s 0 0 A) (F0 m 85 ls [])) → W p l e { frames := 1, cells := 0, slots := 0, locals := 27 } s m ([.ref a_this, .int (tl_I p1), .int (tl_I p2), .int (tl_I p3), .int (tl_I p4)] : List Value).toArray below meth c H locs 0 0 (MQ below (tl_Q D (tl_tys cy) [tl_ob a_this 4 [.ref a_words, .ref a_lengths], tl_ia (cy 1) a_lengths 1000 v_lengths, tl_ja (cy 2) a_words 2000 v_words] s.heap.size (fun v w1 => v = none ∧ w1 = [tl_ob a_this 4 [.ref a_words, .ref a_lengths], tl_ia (cy 1) a_lengths 1000 z.1, tl_ja (cy 2) a_words 2000 z.2])) ([.ref a_this, .int (tl_I p1), .int (tl_I p2), .int (tl_I p3), .int (tl_I p4)] : List Value).toArray s 0 0 A) (F0 m 55 ls []) := by
              intro n
              induction n with
              | zero =>
                intro x4 x5 outL1 hf
                cases hf
              | succ n ih =>
                intro x4 x5 outL1 hf H locs ls hP hD hS hl hE
                rw [fX3_insert_L1] at hf
                refine lv_iload hx hb dX3_insert_55 (lv_at hl 0 rfl) ?_
                refine lv_iload_n hx hb dX3_insert_57 rfl (lv_at hl 4 rfl) ?_
                refine tr_icmp_le (tgt := 85) hx hb hf dX3_insert_58 (by decide) (fun hc hf => ?_) (fun hc hf => ?_)
                · refine lv_aload_n hx hb dX3_insert_61 rfl (lv_at hl 3 rfl) ?_
                  refine lv_iload hx hb dX3_insert_62 (lv_at hl 2 rfl) ?_
                  refine lv_iload hx hb dX3_insert_64 (lv_at hl 0 rfl) ?_
                  refine lv_aload_n hx hb dX3_insert_66 rfl (lv_at hl 3 rfl) ?_
                  refine lv_iload hx hb dX3_insert_67 (lv_at hl 2 rfl) ?_
                  refine lv_iload hx hb dX3_insert_69 (lv_at hl 0 rfl) ?_
                  refine lv_iconst (v := tl_I (1 : Int)) hx hb dX3_insert_71 rfl ?_
                  refine tr_isub hx hb dX3_insert_72 ?_
                  obtain ⟨z6, hz, hf⟩ := tl_bs hf
                  refine tl_callV0 (As := [.int (tl_I z3), .int (tl_I (x4 - (1 : Int)))]) (rest := [.int (tl_I x4), .int (tl_I z3), .ref a_this]) (wr := [tl_ia (cy 1) a_lengths 1000 v_lengths]) ⟨hx, hb, hml, hown, hts⟩ (kt_X3_read l D cy a_this a_words a_lengths x5 z3 (x4 - (1 : Int)) z6 hz) (cwV 2 hts tg_X3_30 rfl rfl rfl td_X3_read ⟨by decide, by decide⟩) hK hP hD hS hA [0, 2] [1] rfl rfl rfl rfl (by decide) 0 4 rfl rfl rfl rfl hl.1 rfl (Nat.le_of_ble_eq_true rfl) dX3_insert_73 ⟨by decide, by decide⟩ (fun v w1 H locs hp hP hD hS => ?_)
                  obtain ⟨rfl, rfl⟩ := hp
                  have hP : va_P D vwCl [tl_ia (cy 1) a_lengths 1000 v_lengths, tl_ob a_this 4 [.ref a_words, .ref a_lengths], tl_ja (cy 2) a_words 2000 x5] H := hP
                  have hD : va_D A [tl_ia (cy 1) a_lengths 1000 v_lengths, tl_ob a_this 4 [.ref a_words, .ref a_lengths], tl_ja (cy 2) a_words 2000 x5] := hD
                  refine W.eq (g2 := F0 m 76 ls [.int (tl_I z6), .int (tl_I x4), .int (tl_I z3), .ref a_this]) rfl ?_
                  obtain ⟨z7, hz, hf⟩ := tl_bs hf
                  refine tl_callV0 (As := [.int (tl_I z3), .int (tl_I x4), .int (tl_I z6)]) (rest := []) (wr := [tl_ia (cy 1) a_lengths 1000 v_lengths]) ⟨hx, hb, hml, hown, hts⟩ (kt_X3_write l D cy a_this a_words a_lengths x5 z3 x4 z6 z7 hz) (cwV 3 hts tg_X3_43 rfl rfl rfl td_X3_write ⟨by decide, by decide⟩) hK hP hD hS hA [1, 2] [0] rfl rfl rfl rfl (by decide) 1 4 rfl rfl rfl rfl hl.1 rfl (Nat.le_of_ble_eq_true rfl) dX3_insert_76 ⟨by decide, by decide⟩ (fun v w1 H locs hp hP hD hS => ?_)
                  obtain ⟨rfl, rfl⟩ := hp
                  have hP : va_P D vwCl [tl_ia (cy 1) a_lengths 1000 v_lengths, tl_ob a_this 4 [.ref a_words, .ref a_lengths], tl_ja (cy 2) a_words 2000 z7] H := hP
                  have hD : va_D A [tl_ia (cy 1) a_lengths 1000 v_lengths, tl_ob a_this 4 [.ref a_words, .ref a_lengths], tl_ja (cy 2) a_words 2000 z7] := hD
                  refine W.eq (g2 := F0 m 79 ls []) rfl ?_
                  refine lv_iinc (v := tl_I (x4 + (-1))) (lv' := [(7, .int (tl_I (x4 + (-1)))), (6, .int (tl_I (v_lengths z3.toNat))), (5, .int (tl_I z3)), (0, .ref a_this), (3, .int (tl_I p3)), (4, .int (tl_I p4))]) hx hb dX3_insert_79 hl (k := 0) rfl (tl_add _ _) (by decide) rfl (fun ls hl => ?_)
                  refine lv_goto (tgt := 55) hx hb dX3_insert_82 (by decide) ?_
                  exact ih (x4 + (-1)) z7 outL1 hf _ _ _ (hP.sub (ws' := [tl_ob a_this 4 [.ref a_words, .ref a_lengths], tl_ia (cy 1) a_lengths 1000 v_lengths, tl_ja (cy 2) a_words 2000 z7]) [1, 0, 2] rfl) (hD.sub (ws' := [tl_ob a_this 4 [.ref a_words, .ref a_lengths], tl_ia (cy 1) a_lengths 1000 v_lengths, tl_ja (cy 2) a_words 2000 z7]) [1, 0, 2] (by decide) rfl) hS (lv_sub hl [0, 1, 2, 3, 4, 5] rfl) hE
                · injection hf with hf
                  subst hf
                  exact hE x5 rfl _ _ _ (hP.sub (ws' := [tl_ob a_this 4 [.ref a_words, .ref a_lengths], tl_ia (cy 1) a_lengths 1000 v_lengths, tl_ja (cy 2) a_words 2000 x5]) [0, 1, 2] rfl) (hD.sub (ws' := [tl_ob a_this 4 [.ref a_words, .ref a_lengths], tl_ia (cy 1) a_lengths 1000 v_lengths, tl_ja (cy 2) a_words 2000 x5]) [0, 1, 2] (by decide) rfl) hS (lv_sub hl [1, 2, 3, 4, 5] rfl)
            obtain ⟨o, hz, hf⟩ := tl_bs hf
            refine lp1 tl_N (v_lengths z3.toNat) v_words o hz _ _ _ (hP.sub (ws' := [tl_ob a_this 4 [.ref a_words, .ref a_lengths], tl_ia (cy 1) a_lengths 1000 v_lengths, tl_ja (cy 2) a_words 2000 v_words]) [0, 1, 2] rfl) (hD.sub (ws' := [tl_ob a_this 4 [.ref a_words, .ref a_lengths], tl_ia (cy 1) a_lengths 1000 v_lengths, tl_ja (cy 2) a_words 2000 v_words]) [0, 1, 2] (by decide) rfl) hS (lv_sub hl [0, 1, 2, 3, 6, 7] rfl) ?_
            intro x5 ho H locs ls hP hD hS hl
            rw [ho] at hf
            try dsimp only at hf
            refine lv_aload_n hx hb dX3_insert_85 rfl (lv_at hl 2 rfl) ?_
            refine lv_iload hx hb dX3_insert_86 (lv_at hl 1 rfl) ?_
            refine lv_iload_n hx hb dX3_insert_88 rfl (lv_at hl 3 rfl) ?_
            refine lv_iload hx hb dX3_insert_89 (lv_at hl 4 rfl) ?_
            obtain ⟨z9, hz, hf⟩ := tl_bs hf
            refine tl_callV0 (As := [.int (tl_I z3), .int (tl_I p3), .int (tl_I p4)]) (rest := []) (wr := [tl_ia (cy 1) a_lengths 1000 v_lengths]) ⟨hx, hb, hml, hown, hts⟩ (kt_X3_write l D cy a_this a_words a_lengths x5 z3 p3 p4 z9 hz) (cwV 3 hts tg_X3_43 rfl rfl rfl td_X3_write ⟨by decide, by decide⟩) hK hP hD hS hA [0, 2] [1] rfl rfl rfl rfl (by decide) 0 4 rfl rfl rfl rfl hl.1 rfl (Nat.le_of_ble_eq_true rfl) dX3_insert_91 ⟨by decide, by decide⟩ (fun v w1 H locs hp hP hD hS => ?_)
            obtain ⟨rfl, rfl⟩ := hp
            have hP : va_P D vwCl [tl_ia (cy 1) a_lengths 1000 v_lengths, tl_ob a_this 4 [.ref a_words, .ref a_lengths], tl_ja (cy 2) a_words 2000 z9] H := hP
            have hD : va_D A [tl_ia (cy 1) a_lengths 1000 v_lengths, tl_ob a_this 4 [.ref a_words, .ref a_lengths], tl_ja (cy 2) a_words 2000 z9] := hD
            refine W.eq (g2 := F0 m 94 ls []) rfl ?_
            refine lv_aload_n hx hb dX3_insert_94 rfl (lv_at hl 2 rfl) ?_
            refine va_get (ci := 4) (v := .ref a_lengths) (C := RX3) (T := TX3) (N := 2) hx hb hts in_X3 hown hK hP 1 rfl rfl 1 (by decide) (hts _ tw_242) (fun _ h9 => h9) rfl dX3_insert_95 ?_
            refine lv_iload hx hb dX3_insert_98 (lv_at hl 1 rfl) ?_
            refine lv_iload hx hb dX3_insert_100 (lv_at hl 0 rfl) ?_
            refine lv_iconst (v := tl_I (1 : Int)) hx hb dX3_insert_102 rfl ?_
            refine tr_iadd hx hb dX3_insert_103 ?_
            refine tr_iast hx hb hf hK hP hD hS 0 1 rfl rfl (by decide) dX3_insert_104 (fun hf H locs hP hD hS => ?_)
            have hP : va_P D vwCl [tl_ia (cy 1) a_lengths 1000 (va_up v_lengths z3.toNat ((v_lengths z3.toNat) + (1 : Int))), tl_ob a_this 4 [.ref a_words, .ref a_lengths], tl_ja (cy 2) a_words 2000 z9] H := hP
            have hD : va_D A [tl_ia (cy 1) a_lengths 1000 (va_up v_lengths z3.toNat ((v_lengths z3.toNat) + (1 : Int))), tl_ob a_this 4 [.ref a_words, .ref a_lengths], tl_ja (cy 2) a_words 2000 z9] := hD
            injection hf with hf
            subst hf
            exact W.vret hx hb hr (fun t ht hW => tl_fin hAe ⟨rfl, rfl⟩ (hP.sub (ws' := [tl_ob a_this 4 [.ref a_words, .ref a_lengths], tl_ia (cy 1) a_lengths 1000 (va_up v_lengths z3.toNat ((v_lengths z3.toNat) + (1 : Int))), tl_ja (cy 2) a_words 2000 z9]) [1, 0, 2] rfl) hK (hD.sub (ws' := [tl_ob a_this 4 [.ref a_words, .ref a_lengths], tl_ia (cy 1) a_lengths 1000 (va_up v_lengths z3.toNat ((v_lengths z3.toNat) + (1 : Int))), tl_ja (cy 2) a_words 2000 z9]) [1, 0, 2] (by decide) rfl) hS ht hW) hS.2.2 dX3_insert_105
          · injection hf with hf
            subst hf
            exact W.vret hx hb hr (fun t ht hW => tl_fin hAe ⟨rfl, rfl⟩ (hP.sub (ws' := [tl_ob a_this 4 [.ref a_words, .ref a_lengths], tl_ia (cy 1) a_lengths 1000 v_lengths, tl_ja (cy 2) a_words 2000 v_words]) [0, 1, 2] rfl) hK (hD.sub (ws' := [tl_ob a_this 4 [.ref a_words, .ref a_lengths], tl_ia (cy 1) a_lengths 1000 v_lengths, tl_ja (cy 2) a_words 2000 v_words]) [0, 1, 2] (by decide) rfl) hS ht hW) hS.2.2 dX3_insert_50
set_option maxHeartbeats 4000000 in
set_option maxRecDepth 100000 in
theorem kt_X3_append (l : Launch) (D : va_G) (cy : Nat → ClassId) (a_this a_lengths a_words : Nat) (v_lengths : Nat → Int) (v_words : Nat → Int64) (p1 : Int) (p2 : Int) (p3 : Int)  (z : (Nat → Int) × (Nat → Int64)) (hf : fX3_append v_lengths v_words p1 p2 p3 = some z) :
    tl_MC l D (tl_tys cy) yX3_append (tl_w yX3_append cX3_append 4 none) { frames := 2, cells := 0, slots := 0, locals := 54 } [.ref a_this, .int (tl_I p1), .int (tl_I p2), .int (tl_I p3)] [tl_ob a_this 4 [.ref a_words, .ref a_lengths], tl_ia (cy 1) a_lengths 1000 v_lengths, tl_ja (cy 2) a_words 2000 v_words] 0 0 (fun v w1 => v = none ∧ w1 = [tl_ob a_this 4 [.ref a_words, .ref a_lengths], tl_ia (cy 1) a_lengths 1000 z.1, tl_ja (cy 2) a_words 2000 z.2]) := by
  refine tl_ofW (cc := cX3_append) (maxL := 4) (ret := none) (by decide +kernel) (Nat.le_of_ble_eq_true rfl) ?_
  intro p e s m below meth c hx hb hr hml hts hown hlocks hnm A hAe hA hP hK hD hS ls hl
  have hl : lv_has ls 4 [(0, .ref a_this), (1, .int (tl_I p1)), (2, .int (tl_I p2)), (3, .int (tl_I p3))] := hl
  unfold fX3_append at hf
  refine lv_aload_n hx hb dX3_append_0 rfl (lv_at hl 0 rfl) ?_
  refine lv_iload_n hx hb dX3_append_1 rfl (lv_at hl 1 rfl) ?_
  refine lv_iload_n hx hb dX3_append_2 rfl (lv_at hl 2 rfl) ?_
  refine lv_aload_n hx hb dX3_append_3 rfl (lv_at hl 0 rfl) ?_
  refine lv_iload_n hx hb dX3_append_4 rfl (lv_at hl 1 rfl) ?_
  refine lv_iload_n hx hb dX3_append_5 rfl (lv_at hl 2 rfl) ?_
  obtain ⟨z1, hz, hf⟩ := tl_bs hf
  refine tl_callV0 (As := [.int (tl_I p1), .int (tl_I p2)]) (rest := [.int (tl_I p2), .int (tl_I p1), .ref a_this]) (wr := [tl_ja (cy 2) a_words 2000 v_words]) ⟨hx, hb, hml, hown, hts⟩ (kt_X3_lengthOf l D cy a_this a_lengths a_words v_lengths p1 p2 z1 hz) (cwV 2 hts tg_X3_27 rfl rfl rfl td_X3_lengthOf ⟨by decide, by decide⟩) hK hP hD hS hA [0, 1] [2] rfl rfl rfl rfl (by decide) 0 4 rfl rfl rfl rfl hl.1 rfl (Nat.le_of_ble_eq_true rfl) dX3_append_6 ⟨by decide, by decide⟩ (fun v w1 H locs hp hP hD hS => ?_)
  obtain ⟨rfl, rfl⟩ := hp
  have hP : va_P D vwCl [tl_ja (cy 2) a_words 2000 v_words, tl_ob a_this 4 [.ref a_words, .ref a_lengths], tl_ia (cy 1) a_lengths 1000 v_lengths] H := hP
  have hD : va_D A [tl_ja (cy 2) a_words 2000 v_words, tl_ob a_this 4 [.ref a_words, .ref a_lengths], tl_ia (cy 1) a_lengths 1000 v_lengths] := hD
  refine W.eq (g2 := F0 m 9 ls [.int (tl_I z1), .int (tl_I p2), .int (tl_I p1), .ref a_this]) rfl ?_
  refine lv_iload_n hx hb dX3_append_9 rfl (lv_at hl 3 rfl) ?_
  obtain ⟨z2, hz, hf⟩ := tl_bs hf
  refine tl_callV0 (As := [.int (tl_I p1), .int (tl_I p2), .int (tl_I z1), .int (tl_I p3)]) (rest := []) (wr := []) ⟨hx, hb, hml, hown, hts⟩ (kt_X3_insert l D cy a_this a_lengths a_words v_lengths v_words p1 p2 z1 p3 z2 hz) (cwV 4 hts tg_X3_47 rfl rfl rfl td_X3_insert ⟨by decide, by decide⟩) hK hP hD hS hA [1, 2, 0] [] rfl rfl rfl rfl (by decide) 1 4 rfl rfl rfl rfl hl.1 rfl (Nat.le_of_ble_eq_true rfl) dX3_append_10 ⟨by decide, by decide⟩ (fun v w1 H locs hp hP hD hS => ?_)
  obtain ⟨rfl, rfl⟩ := hp
  have hP : va_P D vwCl [tl_ob a_this 4 [.ref a_words, .ref a_lengths], tl_ia (cy 1) a_lengths 1000 z2.1, tl_ja (cy 2) a_words 2000 z2.2] H := hP
  have hD : va_D A [tl_ob a_this 4 [.ref a_words, .ref a_lengths], tl_ia (cy 1) a_lengths 1000 z2.1, tl_ja (cy 2) a_words 2000 z2.2] := hD
  refine W.eq (g2 := F0 m 13 ls []) rfl ?_
  injection hf with hf
  subst hf
  exact W.vret hx hb hr (fun t ht hW => tl_fin hAe ⟨rfl, rfl⟩ (hP.sub (ws' := [tl_ob a_this 4 [.ref a_words, .ref a_lengths], tl_ia (cy 1) a_lengths 1000 z2.1, tl_ja (cy 2) a_words 2000 z2.2]) [0, 1, 2] rfl) hK (hD.sub (ws' := [tl_ob a_this 4 [.ref a_words, .ref a_lengths], tl_ia (cy 1) a_lengths 1000 z2.1, tl_ja (cy 2) a_words 2000 z2.2]) [0, 1, 2] (by decide) rfl) hS ht hW) hS.2.2 dX3_append_13
set_option maxHeartbeats 4000000 in
set_option maxRecDepth 100000 in
theorem kt_X3_remove (l : Launch) (D : va_G) (cy : Nat → ClassId) (a_this a_lengths a_words : Nat) (v_lengths : Nat → Int) (v_words : Nat → Int64) (p1 : Int) (p2 : Int) (p3 : Int)  (z : Int × (Nat → Int) × (Nat → Int64)) (hf : fX3_remove v_lengths v_words p1 p2 p3 = some z) :
    tl_MC l D (tl_tys cy) yX3_remove (tl_w yX3_remove cX3_remove 9 (some .boolean)) { frames := 1, cells := 0, slots := 0, locals := 27 } [.ref a_this, .int (tl_I p1), .int (tl_I p2), .int (tl_I p3)] [tl_ob a_this 4 [.ref a_words, .ref a_lengths], tl_ia (cy 1) a_lengths 1000 v_lengths, tl_ja (cy 2) a_words 2000 v_words] 0 0 (fun v w1 => v = some (.int (tl_I z.1)) ∧ w1 = [tl_ob a_this 4 [.ref a_words, .ref a_lengths], tl_ia (cy 1) a_lengths 1000 z.2.1, tl_ja (cy 2) a_words 2000 z.2.2]) := by
  refine tl_ofW (cc := cX3_remove) (maxL := 9) (ret := (some .boolean)) (by decide +kernel) (Nat.le_of_ble_eq_true rfl) ?_
  intro p e s m below meth c hx hb hr hml hts hown hlocks hnm A hAe hA hP hK hD hS ls hl
  have hl : lv_has ls 9 [(0, .ref a_this), (1, .int (tl_I p1)), (2, .int (tl_I p2)), (3, .int (tl_I p3))] := hl
  unfold fX3_remove at hf
  refine lv_iload_n hx hb dX3_remove_0 rfl (lv_at hl 1 rfl) ?_
  refine lv_iload_n hx hb dX3_remove_1 rfl (lv_at hl 2 rfl) ?_
  obtain ⟨z1, hz, hf⟩ := tl_bs hf
  refine tl_callS0 (As := [.int (tl_I p1), .int (tl_I p2)]) (rest := []) (wr := [tl_ob a_this 4 [.ref a_words, .ref a_lengths], tl_ia (cy 1) a_lengths 1000 v_lengths, tl_ja (cy 2) a_words 2000 v_words]) ⟨hx, hb, hml, hown, hts⟩ (kt_X3_isRow l D cy p1 p2 z1 hz) (va_cwS 2 hts tg_X3_19 rfl rfl rfl td_X3_isRow ⟨by decide, by decide⟩) hK hP hD hS hA [] [0, 1, 2] rfl rfl rfl rfl (by decide) rfl hl.1 rfl (Nat.le_of_ble_eq_true rfl) dX3_remove_2 ⟨by decide, by decide⟩ (fun v w1 H locs hp hP hD hS => ?_)
  obtain ⟨rfl, rfl⟩ := hp
  have hP : va_P D vwCl [tl_ob a_this 4 [.ref a_words, .ref a_lengths], tl_ia (cy 1) a_lengths 1000 v_lengths, tl_ja (cy 2) a_words 2000 v_words] H := hP
  have hD : va_D A [tl_ob a_this 4 [.ref a_words, .ref a_lengths], tl_ia (cy 1) a_lengths 1000 v_lengths, tl_ja (cy 2) a_words 2000 v_words] := hD
  refine W.eq (g2 := F0 m 5 ls [.int (tl_I z1)]) rfl ?_
  refine tr_if_ne (tgt := 10) hx hb hf dX3_remove_5 (by decide) (fun hc hf => ?_) (fun hc hf => ?_)
  · refine lv_iconst (v := tl_I (0 : Int)) hx hb dX3_remove_8 rfl ?_
    injection hf with hf
    subst hf
    exact W.zret (v := tl_I (0 : Int)) hx hb hr rfl (fun t ht hW => tl_fin hAe ⟨rfl, rfl⟩ (hP.sub (ws' := [tl_ob a_this 4 [.ref a_words, .ref a_lengths], tl_ia (cy 1) a_lengths 1000 v_lengths, tl_ja (cy 2) a_words 2000 v_words]) [0, 1, 2] rfl) hK (hD.sub (ws' := [tl_ob a_this 4 [.ref a_words, .ref a_lengths], tl_ia (cy 1) a_lengths 1000 v_lengths, tl_ja (cy 2) a_words 2000 v_words]) [0, 1, 2] (by decide) rfl) hS ht hW) hS.2.2 dX3_remove_9
  · refine lv_iload_n hx hb dX3_remove_10 rfl (lv_at hl 1 rfl) ?_
    refine lv_iload_n hx hb dX3_remove_11 rfl (lv_at hl 2 rfl) ?_
    obtain ⟨z2, hz, hf⟩ := tl_bs hf
    refine tl_callS0 (As := [.int (tl_I p1), .int (tl_I p2)]) (rest := []) (wr := [tl_ob a_this 4 [.ref a_words, .ref a_lengths], tl_ia (cy 1) a_lengths 1000 v_lengths, tl_ja (cy 2) a_words 2000 v_words]) ⟨hx, hb, hml, hown, hts⟩ (kt_X3_rowOf l D cy p1 p2 z2 hz) (va_cwS 2 hts tg_X3_23 rfl rfl rfl td_X3_rowOf ⟨by decide, by decide⟩) hK hP hD hS hA [] [0, 1, 2] rfl rfl rfl rfl (by decide) rfl hl.1 rfl (Nat.le_of_ble_eq_true rfl) dX3_remove_12 ⟨by decide, by decide⟩ (fun v w1 H locs hp hP hD hS => ?_)
    obtain ⟨rfl, rfl⟩ := hp
    have hP : va_P D vwCl [tl_ob a_this 4 [.ref a_words, .ref a_lengths], tl_ia (cy 1) a_lengths 1000 v_lengths, tl_ja (cy 2) a_words 2000 v_words] H := hP
    have hD : va_D A [tl_ob a_this 4 [.ref a_words, .ref a_lengths], tl_ia (cy 1) a_lengths 1000 v_lengths, tl_ja (cy 2) a_words 2000 v_words] := hD
    refine W.eq (g2 := F0 m 15 ls [.int (tl_I z2)]) rfl ?_
    refine lv_istore (lv' := [(4, .int (tl_I z2)), (0, .ref a_this), (1, .int (tl_I p1)), (2, .int (tl_I p2)), (3, .int (tl_I p3))]) hx hb dX3_remove_15 hl (by decide) rfl (fun ls hl => ?_)
    refine lv_aload_n hx hb dX3_remove_17 rfl (lv_at hl 1 rfl) ?_
    refine va_get (ci := 4) (v := .ref a_lengths) (C := RX3) (T := TX3) (N := 2) hx hb hts in_X3 hown hK hP 0 rfl rfl 1 (by decide) (hts _ tw_242) (fun _ h9 => h9) rfl dX3_remove_18 ?_
    refine lv_iload hx hb dX3_remove_21 (lv_at hl 0 rfl) ?_
    refine tr_iald hx hb hf hK hP 1 1 rfl rfl (by decide) dX3_remove_23 (fun hf => ?_)
    refine lv_istore (lv' := [(5, .int (tl_I (v_lengths z2.toNat))), (4, .int (tl_I z2)), (0, .ref a_this), (1, .int (tl_I p1)), (2, .int (tl_I p2)), (3, .int (tl_I p3))]) hx hb dX3_remove_24 hl (by decide) rfl (fun ls hl => ?_)
    refine lv_iconst (v := tl_I (0 : Int)) hx hb dX3_remove_26 rfl ?_
    refine lv_istore (lv' := [(6, .int (tl_I (0 : Int))), (5, .int (tl_I (v_lengths z2.toNat))), (4, .int (tl_I z2)), (0, .ref a_this), (1, .int (tl_I p1)), (2, .int (tl_I p2)), (3, .int (tl_I p3))]) hx hb dX3_remove_27 hl (by decide) rfl (fun ls hl => ?_)
    refine lv_iconst (v := tl_I (0 : Int)) hx hb dX3_remove_29 rfl ?_
    refine lv_istore (lv' := [(7, .int (tl_I (0 : Int))), (6, .int (tl_I (0 : Int))), (5, .int (tl_I (v_lengths z2.toNat))), (4, .int (tl_I z2)), (0, .ref a_this), (1, .int (tl_I p1)), (2, .int (tl_I p2)), (3, .int (tl_I p3))]) hx hb dX3_remove_30 hl (by decide) rfl (fun ls hl => ?_)
    have lp1 : ∀ (n : Nat) (x3 : Int) (x4 : Int) (x5 : Nat → Int64) (outL1 : Int × (Nat → Int64)), fX3_remove_L1 v_lengths p3 z2 n x3 x4 x5 = some outL1 → ∀ (H : Heap) (locs : List Loc) (ls : Array Slot), va_P D vwCl [tl_ob a_this 4 [.ref a_words, .ref a_lengths], tl_ia (cy 1) a_lengths 1000 v_lengths, tl_ja (cy 2) a_words 2000 x5] H → va_D A [tl_ob a_this 4 [.ref a_words, .ref a_lengths], tl_ia (cy 1) a_lengths 1000 v_lengths, tl_ja (cy 2) a_words 2000 x5] → va_S A s.heap H locs → lv_has ls 9 [(7, .int (tl_I x3)), (6, .int (tl_I x4)), (5, .int (tl_I (v_lengths z2.toNat))), (4, .int (tl_I z2)), (0, .ref a_this), (3, .int (tl_I p3))] → (∀ (x4 : Int) (x5 : Nat → Int64), outL1 = (x4, x5) → ∀ (H : Heap) (locs : List Loc) (ls : Array Slot), va_P D vwCl [tl_ob a_this 4 [.ref a_words, .ref a_lengths], tl_ia (cy 1) a_lengths 1000 v_lengths, tl_ja (cy 2) a_words 2000 x5] H → va_D A [tl_ob a_this 4 [.ref a_words, .ref a_lengths], tl_ia (cy 1) a_lengths 1000 v_lengths, tl_ja (cy 2) a_words 2000 x5] → va_S A s.heap H locs → lv_has ls 9 [(6, .int (tl_I x4)), (5, .int (tl_I (v_lengths z2.toNat))), (4, .int (tl_I z2)), (0, .ref a_this)] → W p l e { frames := 1, cells := 0, slots := 0, locals := 27 } s m ([.ref a_this, .int (tl_I p1), .int (tl_I p2), .int (tl_I p3)] : List Value).toArray below meth c H locs 0 0 (MQ below (tl_Q D (tl_tys cy) [tl_ob a_this 4 [.ref a_words, .ref a_lengths], tl_ia (cy 1) a_lengths 1000 v_lengths, tl_ja (cy 2) a_words 2000 v_words] s.heap.size (fun v w1 => v = some (.int (tl_I z.1)) ∧ w1 = [tl_ob a_this 4 [.ref a_words, .ref a_lengths], tl_ia (cy 1) a_lengths 1000 z.2.1, tl_ja (cy 2) a_words 2000 z.2.2])) ([.ref a_this, .int (tl_I p1), .int (tl_I p2), .int (tl_I p3)] : List Value).toArray s 0 0 A) (F0 m 74 ls [])) → W p l e { frames := 1, cells := 0, slots := 0, locals := 27 } s m ([.ref a_this, .int (tl_I p1), .int (tl_I p2), .int (tl_I p3)] : List Value).toArray below meth c H locs 0 0 (MQ below (tl_Q D (tl_tys cy) [tl_ob a_this 4 [.ref a_words, .ref a_lengths], tl_ia (cy 1) a_lengths 1000 v_lengths, tl_ja (cy 2) a_words 2000 v_words] s.heap.size (fun v w1 => v = some (.int (tl_I z.1)) ∧ w1 = [tl_ob a_this 4 [.ref a_words, .ref a_lengths], tl_ia (cy 1) a_lengths 1000 z.2.1, tl_ja (cy 2) a_words 2000 z.2.2])) ([.ref a_this, .int (tl_I p1), .int (tl_I p2), .int (tl_I p3)] : List Value).toArray s 0 0 A) (F0 m 32 ls []) := by
      intro n
      induction n with
      | zero =>
        intro x3 x4 x5 outL1 hf
        cases hf
      | succ n ih =>
        intro x3 x4 x5 outL1 hf H locs ls hP hD hS hl hE
        rw [fX3_remove_L1] at hf
        refine lv_iload hx hb dX3_remove_32 (lv_at hl 0 rfl) ?_
        refine lv_iload hx hb dX3_remove_34 (lv_at hl 2 rfl) ?_
        refine tr_icmp_ge (tgt := 74) hx hb hf dX3_remove_36 (by decide) (fun hc hf => ?_) (fun hc hf => ?_)
        · refine lv_aload_n hx hb dX3_remove_39 rfl (lv_at hl 4 rfl) ?_
          refine lv_iload hx hb dX3_remove_40 (lv_at hl 3 rfl) ?_
          refine lv_iload hx hb dX3_remove_42 (lv_at hl 0 rfl) ?_
          obtain ⟨z6, hz, hf⟩ := tl_bs hf
          refine tl_callV0 (As := [.int (tl_I z2), .int (tl_I x3)]) (rest := []) (wr := [tl_ia (cy 1) a_lengths 1000 v_lengths]) ⟨hx, hb, hml, hown, hts⟩ (kt_X3_read l D cy a_this a_words a_lengths x5 z2 x3 z6 hz) (cwV 2 hts tg_X3_30 rfl rfl rfl td_X3_read ⟨by decide, by decide⟩) hK hP hD hS hA [0, 2] [1] rfl rfl rfl rfl (by decide) 0 4 rfl rfl rfl rfl hl.1 rfl (Nat.le_of_ble_eq_true rfl) dX3_remove_44 ⟨by decide, by decide⟩ (fun v w1 H locs hp hP hD hS => ?_)
          obtain ⟨rfl, rfl⟩ := hp
          have hP : va_P D vwCl [tl_ia (cy 1) a_lengths 1000 v_lengths, tl_ob a_this 4 [.ref a_words, .ref a_lengths], tl_ja (cy 2) a_words 2000 x5] H := hP
          have hD : va_D A [tl_ia (cy 1) a_lengths 1000 v_lengths, tl_ob a_this 4 [.ref a_words, .ref a_lengths], tl_ja (cy 2) a_words 2000 x5] := hD
          refine W.eq (g2 := F0 m 47 ls [.int (tl_I z6)]) rfl ?_
          refine lv_istore (lv' := [(8, .int (tl_I z6)), (7, .int (tl_I x3)), (6, .int (tl_I x4)), (5, .int (tl_I (v_lengths z2.toNat))), (4, .int (tl_I z2)), (0, .ref a_this), (3, .int (tl_I p3))]) hx hb dX3_remove_47 hl (by decide) rfl (fun ls hl => ?_)
          refine lv_iload hx hb dX3_remove_49 (lv_at hl 0 rfl) ?_
          refine lv_iload_n hx hb dX3_remove_51 rfl (lv_at hl 6 rfl) ?_
          refine tr_icmp_eq (tgt := 68) hx hb hf dX3_remove_52 (by decide) (fun hc hf => ?_) (fun hc hf => ?_)
          · refine lv_iinc (v := tl_I (x3 + 1)) (lv' := [(7, .int (tl_I (x3 + 1))), (8, .int (tl_I z6)), (6, .int (tl_I x4)), (5, .int (tl_I (v_lengths z2.toNat))), (4, .int (tl_I z2)), (0, .ref a_this), (3, .int (tl_I p3))]) hx hb dX3_remove_68 hl (k := 1) rfl (tl_add _ _) (by decide) rfl (fun ls hl => ?_)
            refine lv_goto (tgt := 32) hx hb dX3_remove_71 (by decide) ?_
            exact ih (x3 + 1) x4 x5 outL1 hf _ _ _ (hP.sub (ws' := [tl_ob a_this 4 [.ref a_words, .ref a_lengths], tl_ia (cy 1) a_lengths 1000 v_lengths, tl_ja (cy 2) a_words 2000 x5]) [1, 0, 2] rfl) (hD.sub (ws' := [tl_ob a_this 4 [.ref a_words, .ref a_lengths], tl_ia (cy 1) a_lengths 1000 v_lengths, tl_ja (cy 2) a_words 2000 x5]) [1, 0, 2] (by decide) rfl) hS (lv_sub hl [0, 2, 3, 4, 5, 6] rfl) hE
          · refine lv_aload_n hx hb dX3_remove_55 rfl (lv_at hl 5 rfl) ?_
            refine lv_iload hx hb dX3_remove_56 (lv_at hl 4 rfl) ?_
            refine lv_iload hx hb dX3_remove_58 (lv_at hl 2 rfl) ?_
            refine lv_iload hx hb dX3_remove_60 (lv_at hl 0 rfl) ?_
            obtain ⟨z7, hz, hf⟩ := tl_bs hf
            refine tl_callV0 (As := [.int (tl_I z2), .int (tl_I x4), .int (tl_I z6)]) (rest := []) (wr := [tl_ia (cy 1) a_lengths 1000 v_lengths]) ⟨hx, hb, hml, hown, hts⟩ (kt_X3_write l D cy a_this a_words a_lengths x5 z2 x4 z6 z7 hz) (cwV 3 hts tg_X3_43 rfl rfl rfl td_X3_write ⟨by decide, by decide⟩) hK hP hD hS hA [1, 2] [0] rfl rfl rfl rfl (by decide) 1 4 rfl rfl rfl rfl hl.1 rfl (Nat.le_of_ble_eq_true rfl) dX3_remove_62 ⟨by decide, by decide⟩ (fun v w1 H locs hp hP hD hS => ?_)
            obtain ⟨rfl, rfl⟩ := hp
            have hP : va_P D vwCl [tl_ia (cy 1) a_lengths 1000 v_lengths, tl_ob a_this 4 [.ref a_words, .ref a_lengths], tl_ja (cy 2) a_words 2000 z7] H := hP
            have hD : va_D A [tl_ia (cy 1) a_lengths 1000 v_lengths, tl_ob a_this 4 [.ref a_words, .ref a_lengths], tl_ja (cy 2) a_words 2000 z7] := hD
            refine W.eq (g2 := F0 m 65 ls []) rfl ?_
            refine lv_iinc (v := tl_I (x4 + 1)) (lv' := [(6, .int (tl_I (x4 + 1))), (8, .int (tl_I z6)), (7, .int (tl_I x3)), (5, .int (tl_I (v_lengths z2.toNat))), (4, .int (tl_I z2)), (0, .ref a_this), (3, .int (tl_I p3))]) hx hb dX3_remove_65 hl (k := 2) rfl (tl_add _ _) (by decide) rfl (fun ls hl => ?_)
            refine lv_iinc (v := tl_I (x3 + 1)) (lv' := [(7, .int (tl_I (x3 + 1))), (6, .int (tl_I (x4 + 1))), (8, .int (tl_I z6)), (5, .int (tl_I (v_lengths z2.toNat))), (4, .int (tl_I z2)), (0, .ref a_this), (3, .int (tl_I p3))]) hx hb dX3_remove_68 hl (k := 2) rfl (tl_add _ _) (by decide) rfl (fun ls hl => ?_)
            refine lv_goto (tgt := 32) hx hb dX3_remove_71 (by decide) ?_
            exact ih (x3 + 1) (x4 + 1) z7 outL1 hf _ _ _ (hP.sub (ws' := [tl_ob a_this 4 [.ref a_words, .ref a_lengths], tl_ia (cy 1) a_lengths 1000 v_lengths, tl_ja (cy 2) a_words 2000 z7]) [1, 0, 2] rfl) (hD.sub (ws' := [tl_ob a_this 4 [.ref a_words, .ref a_lengths], tl_ia (cy 1) a_lengths 1000 v_lengths, tl_ja (cy 2) a_words 2000 z7]) [1, 0, 2] (by decide) rfl) hS (lv_sub hl [0, 1, 3, 4, 5, 6] rfl) hE
        · injection hf with hf
          subst hf
          exact hE x4 x5 rfl _ _ _ (hP.sub (ws' := [tl_ob a_this 4 [.ref a_words, .ref a_lengths], tl_ia (cy 1) a_lengths 1000 v_lengths, tl_ja (cy 2) a_words 2000 x5]) [0, 1, 2] rfl) (hD.sub (ws' := [tl_ob a_this 4 [.ref a_words, .ref a_lengths], tl_ia (cy 1) a_lengths 1000 v_lengths, tl_ja (cy 2) a_words 2000 x5]) [0, 1, 2] (by decide) rfl) hS (lv_sub hl [1, 2, 3, 4] rfl)
    obtain ⟨o, hz, hf⟩ := tl_bs hf
    refine lp1 tl_N (0 : Int) (0 : Int) v_words o hz _ _ _ (hP.sub (ws' := [tl_ob a_this 4 [.ref a_words, .ref a_lengths], tl_ia (cy 1) a_lengths 1000 v_lengths, tl_ja (cy 2) a_words 2000 v_words]) [0, 1, 2] rfl) (hD.sub (ws' := [tl_ob a_this 4 [.ref a_words, .ref a_lengths], tl_ia (cy 1) a_lengths 1000 v_lengths, tl_ja (cy 2) a_words 2000 v_words]) [0, 1, 2] (by decide) rfl) hS (lv_sub hl [0, 1, 2, 3, 4, 7] rfl) ?_
    intro x4 x5 ho H locs ls hP hD hS hl
    subst ho
    try dsimp only at hf
    refine lv_aload_n hx hb dX3_remove_74 rfl (lv_at hl 3 rfl) ?_
    refine va_get (ci := 4) (v := .ref a_lengths) (C := RX3) (T := TX3) (N := 2) hx hb hts in_X3 hown hK hP 0 rfl rfl 1 (by decide) (hts _ tw_242) (fun _ h9 => h9) rfl dX3_remove_75 ?_
    refine lv_iload hx hb dX3_remove_78 (lv_at hl 2 rfl) ?_
    refine lv_iload hx hb dX3_remove_80 (lv_at hl 0 rfl) ?_
    refine tr_iast hx hb hf hK hP hD hS 1 1 rfl rfl (by decide) dX3_remove_82 (fun hf H locs hP hD hS => ?_)
    have hP : va_P D vwCl [tl_ob a_this 4 [.ref a_words, .ref a_lengths], tl_ia (cy 1) a_lengths 1000 (va_up v_lengths z2.toNat x4), tl_ja (cy 2) a_words 2000 x5] H := hP
    have hD : va_D A [tl_ob a_this 4 [.ref a_words, .ref a_lengths], tl_ia (cy 1) a_lengths 1000 (va_up v_lengths z2.toNat x4), tl_ja (cy 2) a_words 2000 x5] := hD
    refine lv_iload hx hb dX3_remove_83 (lv_at hl 0 rfl) ?_
    refine lv_iload hx hb dX3_remove_85 (lv_at hl 1 rfl) ?_
    refine tr_icmp_ge (tgt := 94) hx hb hf dX3_remove_87 (by decide) (fun hc hf => ?_) (fun hc hf => ?_)
    · refine lv_iconst (v := tl_I (1 : Int)) hx hb dX3_remove_90 rfl ?_
      refine lv_goto (tgt := 95) hx hb dX3_remove_91 (by decide) ?_
      injection hf with hf
      subst hf
      exact W.zret (v := tl_I (1 : Int)) hx hb hr rfl (fun t ht hW => tl_fin hAe ⟨rfl, rfl⟩ (hP.sub (ws' := [tl_ob a_this 4 [.ref a_words, .ref a_lengths], tl_ia (cy 1) a_lengths 1000 (va_up v_lengths z2.toNat x4), tl_ja (cy 2) a_words 2000 x5]) [0, 1, 2] rfl) hK (hD.sub (ws' := [tl_ob a_this 4 [.ref a_words, .ref a_lengths], tl_ia (cy 1) a_lengths 1000 (va_up v_lengths z2.toNat x4), tl_ja (cy 2) a_words 2000 x5]) [0, 1, 2] (by decide) rfl) hS ht hW) hS.2.2 dX3_remove_95
    · refine lv_iconst (v := tl_I (0 : Int)) hx hb dX3_remove_94 rfl ?_
      injection hf with hf
      subst hf
      exact W.zret (v := tl_I (0 : Int)) hx hb hr rfl (fun t ht hW => tl_fin hAe ⟨rfl, rfl⟩ (hP.sub (ws' := [tl_ob a_this 4 [.ref a_words, .ref a_lengths], tl_ia (cy 1) a_lengths 1000 (va_up v_lengths z2.toNat x4), tl_ja (cy 2) a_words 2000 x5]) [0, 1, 2] rfl) hK (hD.sub (ws' := [tl_ob a_this 4 [.ref a_words, .ref a_lengths], tl_ia (cy 1) a_lengths 1000 (va_up v_lengths z2.toNat x4), tl_ja (cy 2) a_words 2000 x5]) [0, 1, 2] (by decide) rfl) hS ht hW) hS.2.2 dX3_remove_95
