/-! the law's loop -/
theorem SIM.le {cy : Nat → ClassId} {a_x a_m n mx kx : Nat} {t : Int} {CW MW : va_W} (hs : SIM cy a_x a_m n mx kx t CW MW) : mx ≤ 12 ∧ kx ≤ 9 := by
  refine hs.elim ?_
  intro a_told a_trail a_walk a_leaving a_twins a_groups a_saved a_house a_told_from a_told_to a_told_forms a_told_rules a_trail_numbers a_walk_steps a_walk_reached a_walk_spare a_walk_reached_inside a_walk_reached_list a_walk_spare_inside a_walk_spare_list a_leaving_gone a_leaving_parts a_leaving_owners a_leaving_gone_inside a_leaving_gone_list a_leaving_owners_inside a_leaving_owners_list a_leaving_parts_inside a_leaving_parts_list a_twins_old a_twins_twins a_twins_old_inside a_twins_old_list a_groups_leaders a_groups_firsts a_groups_seconds a_house_numbers a_house_kinds a_house_has a_house_had a_house_had_words a_house_had_lengths a_house_has_words a_house_has_lengths a_from a_to a_form a_rule a_used a_number a_kind a_hasMany a_hadMany a_has a_had a_path a_steps a_queue a_gone a_under a_twin a_olds a_more a_known a_waiting a_kept a_levelAt v_told_forms v_told_from v_told_rules v_told_to v_trail_length v_trail_numbers v_walk_reached_length v_walk_reached_inside v_walk_reached_list v_walk_spare_length v_walk_spare_inside v_walk_spare_list v_walk_steps v_leaving_gone_length v_leaving_gone_inside v_leaving_gone_list v_leaving_owners_length v_leaving_owners_inside v_leaving_owners_list v_leaving_parts_length v_leaving_parts_inside v_leaving_parts_list v_twins_old_length v_twins_old_inside v_twins_old_list v_twins_twins v_groups_length v_groups_firsts v_groups_leaders v_groups_seconds v_house_objects v_house_pairs v_house_had_lengths v_house_had_words v_house_has_lengths v_house_has_words v_house_kinds v_house_numbers f_saved mv_objects mv_pathMany mv_readAt v_from v_to v_form v_rule v_used v_number v_kind v_hasMany v_hadMany v_has v_had v_path v_steps v_queue v_gone v_under v_twin v_olds v_more v_known v_waiting v_levelAt U nu ki w d R T G O P O2 Lp g nl lv many f hh sA so sp sdl sdw shl shw skk snn hCW hMW hT hI hg hC hQ s1 s2 s3 s4 s5 s6 hT1 hT2 hgo hLV
  exact ⟨hLV.2.1, hLV.2.2.1⟩
theorem ok_begin (l : Launch) (hlt : l.stackTraces = false) (D : va_G) (cy : Nat → ClassId) (sa : Nat → Nat) {a_x a_m n mx kx : Nat} {t : Int} {CW MW : va_W} (hn : n ≤ 600) (hs : SIM cy a_x a_m n mx kx t CW MW) :
    ∃ mx2 kx2 mc ms mcm msm : Nat, lw_OK l D cy sa yX9_begin cX9_begin 2 .int yX10_begin cX10_begin 3 .int a_x a_m [] lf_level (SIM cy a_x a_m (n + 1) mx2 kx2) mc ms mcm msm CW MW ∧ (mx2 ≤ 12 ∧ kx2 ≤ 9) ∧ mc + mcm + 9 * mx + kx ≤ 6 + 9 * mx2 + kx2 ∧ ms + msm + 6210 * mx + 2 * kp_L kx ≤ 36 + 6210 * mx2 + 2 * kp_L kx2 := by
  refine hs.elim ?_
  intro a_told a_trail a_walk a_leaving a_twins a_groups a_saved a_house a_told_from a_told_to a_told_forms a_told_rules a_trail_numbers a_walk_steps a_walk_reached a_walk_spare a_walk_reached_inside a_walk_reached_list a_walk_spare_inside a_walk_spare_list a_leaving_gone a_leaving_parts a_leaving_owners a_leaving_gone_inside a_leaving_gone_list a_leaving_owners_inside a_leaving_owners_list a_leaving_parts_inside a_leaving_parts_list a_twins_old a_twins_twins a_twins_old_inside a_twins_old_list a_groups_leaders a_groups_firsts a_groups_seconds a_house_numbers a_house_kinds a_house_has a_house_had a_house_had_words a_house_had_lengths a_house_has_words a_house_has_lengths a_from a_to a_form a_rule a_used a_number a_kind a_hasMany a_hadMany a_has a_had a_path a_steps a_queue a_gone a_under a_twin a_olds a_more a_known a_waiting a_kept a_levelAt v_told_forms v_told_from v_told_rules v_told_to v_trail_length v_trail_numbers v_walk_reached_length v_walk_reached_inside v_walk_reached_list v_walk_spare_length v_walk_spare_inside v_walk_spare_list v_walk_steps v_leaving_gone_length v_leaving_gone_inside v_leaving_gone_list v_leaving_owners_length v_leaving_owners_inside v_leaving_owners_list v_leaving_parts_length v_leaving_parts_inside v_leaving_parts_list v_twins_old_length v_twins_old_inside v_twins_old_list v_twins_twins v_groups_length v_groups_firsts v_groups_leaders v_groups_seconds v_house_objects v_house_pairs v_house_had_lengths v_house_had_words v_house_has_lengths v_house_has_words v_house_kinds v_house_numbers f_saved mv_objects mv_pathMany mv_readAt v_from v_to v_form v_rule v_used v_number v_kind v_hasMany v_hadMany v_has v_had v_path v_steps v_queue v_gone v_under v_twin v_olds v_more v_known v_waiting v_levelAt U nu ki w d R T G O P O2 Lp g nl lv many f hh sA so sp sdl sdw shl shw skk snn hCW hMW hT hI hg hC hQ s1 s2 s3 s4 s5 s6 hT1 hT2 hgo hLV
  have v1 := hLV.1
  have v2 := hLV.2.1
  have v3 := hLV.2.2.1
  by_cases h12 : lv < 12
  · by_cases hmx : lv < mx
    · obtain ⟨kz, h1, h2, h3⟩ := ok_beginS l hlt D cy sa hn hCW hMW hT hI hg hC hQ s1 s2 s3 s4 s5 s6 hT1 hT2 hgo hLV h12 hmx
      have h4 := kp_L_mono h1
      exact ⟨mx, kz, 1, 6, _, _, h3, ⟨v2, h2⟩, by omega, by omega⟩
    · obtain ⟨kz, h1, h2, h3⟩ := ok_beginN l hlt D cy sa hn hCW hMW hT hI hg hC hQ s1 s2 s3 s4 s5 s6 hT1 hT2 hgo hLV h12 (show lv = mx by omega)
      have h4 := kp_L_mono h1
      exact ⟨mx + 1, kz, 9, 6210, _, _, h3, ⟨by omega, h2⟩, by omega, by omega⟩
  · exact ⟨mx, kx, 1, 6, 0, 0, ok_beginF l hlt D cy sa hn hCW hMW hT hI hg hC hQ s1 s2 s3 s4 s5 s6 hT1 hT2 hgo hLV (show lv = 12 by omega), ⟨v2, v3⟩, by omega, by omega⟩
theorem ok_end (l : Launch) (hlt : l.stackTraces = false) (D : va_G) (cy : Nat → ClassId) (sa : Nat → Nat) {a_x a_m n mx kx : Nat} {t : Int} {CW MW : va_W} (hn : n ≤ 600) (hs : SIM cy a_x a_m n mx kx t CW MW) {p1 : Int} (hp : tl_R p1) :
    lw_OK l D cy sa yX9_end cX9_end 3 .int yX10_end cX10_end 2 .int a_x a_m [.int (tl_I p1)] lf_level (SIM cy a_x a_m (n + 1) mx kx) 1 6 0 0 CW MW := by
  refine hs.elim ?_
  intro a_told a_trail a_walk a_leaving a_twins a_groups a_saved a_house a_told_from a_told_to a_told_forms a_told_rules a_trail_numbers a_walk_steps a_walk_reached a_walk_spare a_walk_reached_inside a_walk_reached_list a_walk_spare_inside a_walk_spare_list a_leaving_gone a_leaving_parts a_leaving_owners a_leaving_gone_inside a_leaving_gone_list a_leaving_owners_inside a_leaving_owners_list a_leaving_parts_inside a_leaving_parts_list a_twins_old a_twins_twins a_twins_old_inside a_twins_old_list a_groups_leaders a_groups_firsts a_groups_seconds a_house_numbers a_house_kinds a_house_has a_house_had a_house_had_words a_house_had_lengths a_house_has_words a_house_has_lengths a_from a_to a_form a_rule a_used a_number a_kind a_hasMany a_hadMany a_has a_had a_path a_steps a_queue a_gone a_under a_twin a_olds a_more a_known a_waiting a_kept a_levelAt v_told_forms v_told_from v_told_rules v_told_to v_trail_length v_trail_numbers v_walk_reached_length v_walk_reached_inside v_walk_reached_list v_walk_spare_length v_walk_spare_inside v_walk_spare_list v_walk_steps v_leaving_gone_length v_leaving_gone_inside v_leaving_gone_list v_leaving_owners_length v_leaving_owners_inside v_leaving_owners_list v_leaving_parts_length v_leaving_parts_inside v_leaving_parts_list v_twins_old_length v_twins_old_inside v_twins_old_list v_twins_twins v_groups_length v_groups_firsts v_groups_leaders v_groups_seconds v_house_objects v_house_pairs v_house_had_lengths v_house_had_words v_house_has_lengths v_house_has_words v_house_kinds v_house_numbers f_saved mv_objects mv_pathMany mv_readAt v_from v_to v_form v_rule v_used v_number v_kind v_hasMany v_hadMany v_has v_had v_path v_steps v_queue v_gone v_under v_twin v_olds v_more v_known v_waiting v_levelAt U nu ki w d R T G O P O2 Lp g nl lv many f hh sA so sp sdl sdw shl shw skk snn hCW hMW hT hI hg hC hQ s1 s2 s3 s4 s5 s6 hT1 hT2 hgo hLV
  cases lv with
  | zero => exact ok_endN l hlt D cy sa hn hCW hMW hT hI hg hC hQ s1 s2 s3 s4 s5 s6 hT1 hT2 hgo hLV rfl hp
  | succ lv0 =>
    by_cases hp0 : p1 = 0
    · exact ok_endB l hlt D cy sa hn hCW hMW hT hI hg hC hQ s1 s2 s3 s4 s5 s6 hT1 hT2 hgo hLV rfl hp hp0
    · exact ok_endK l hlt D cy sa hn hCW hMW hT hI hg hC hQ s1 s2 s3 s4 s5 s6 hT1 hT2 hgo hLV rfl hp hp0
theorem lw_and15 (x : Int32) : ∃ k : Nat, k < 16 ∧ x &&& tl_I 15 = tl_I (k : Int) := by
  refine ⟨(x &&& tl_I 15).toBitVec.toNat, ?_, ?_⟩
  · have h : (x &&& tl_I 15).toBitVec = x.toBitVec &&& (tl_I 15).toBitVec := rfl
    rw [h, BitVec.toNat_and]
    have h2 := Nat.and_le_right (n := x.toBitVec.toNat) (m := (tl_I 15).toBitVec.toNat)
    have e : (tl_I 15).toBitVec.toNat = 15 := by decide
    omega
  · rw [← tl_nat]
    refine Int32.toBitVec_inj.mp ?_
    show _ = BitVec.ofNat 32 _
    rw [BitVec.ofNat_toNat, BitVec.setWidth_eq]
section TLL
variable {p : Program} {l : Launch} {e : Env} {s : State} {m : MethodId} {args : Array Value} {below : List Frame} {meth : Method} {c : Code} {Q : State → Prop}
variable {D : va_G} {A : Nat → Prop} {cy : Nat → ClassId} {sa : Nat → Nat} {b L : Nat} {xs : Nat → Int32} {a_x a_m a_o : Nat}
set_option maxHeartbeats 4000000 in
set_option maxRecDepth 20000 in
theorem law_loop (hlt : l.stackTraces = false) (hx : p.tables.exec = Jvm.exec) (hb : c.code = cL_law) (hml : c.maxLocals = 7) (hown : s.vm.findClass RL = some m.cls) (hts : ∀ w ∈ tl_T, w.before args s = true) (hX : va_X b L xs s s.heap) (hbl : b < s.heap.size) (hbA : ¬ A b) (hA : ∀ q, s.heap.size ≤ q → A q) (hL : L ≤ 2560) (hE : tl_E sa A s s.heap) (hN : tl_NC s) (hK : va_K D vwCl (tl_tys cy) s)
    (hfin : ∀ (H : Heap) (locs : List Loc) (ls : Array Slot) (cells slots : Nat), va_S A s.heap H locs → cells ≤ 171426 → slots ≤ 8581828 → W p l e room_1 s m args below meth c H locs cells slots Q (F0 m 1233 ls [])) :
    ∀ (j n mx kx : Nat) (t : Int) (CW MW : va_W) (ov : Nat → Int64) (H : Heap) (locs : List Loc) (ls : Array Slot) (cells slots : Nat), 5 * n ≤ L → L + 1 ≤ 5 * n + 5 * j → SIM cy a_x a_m n mx kx t CW MW → cells ≤ 100 + 6 * n + 9 * mx + kx → slots ≤ 60000 + 36 * n + 6210 * mx + 2 * kp_L kx → va_P D vwCl (CW ++ (MW ++ [tl_ja (cy 2) a_o 1 ov])) H → va_D A (CW ++ (MW ++ [tl_ja (cy 2) a_o 1 ov])) → va_S A s.heap H locs → lv_has ls 7 [(4, .int (tl_I ((5 * n : Nat) : Int))), (0, .ref b), (1, .ref a_x), (2, .ref a_m), (3, .ref a_o)] → W p l e room_1 s m args below meth c H locs cells slots Q (F0 m 23 ls []) := by
  intro j
  induction j with
  | zero =>
    intro n mx kx t CW MW ov H locs ls cells slots h1 h2
    exact absurd h2 (by omega)
  | succ j ih =>
    intro n mx kx t CW MW ov H locs ls cells slots h1 h2 hsim hc hsl hP hD hS hl
    have hle := hsim.le
    have hkl := kp_L9 hle.2
    refine lv_iload hx hb dL_law_23 (lv_at hl 0 rfl) ?_
    refine lv_aload_n hx hb dL_law_25 rfl (lv_at hl 1 rfl) ?_
    refine va_slen hx hb hX hbl hbA hS dL_law_26 ?_
    refine lv_iconst (v := tl_I (5 : Int)) hx hb dL_law_27 rfl ?_
    rw [tl_nat]
    refine tr_isub hx hb dL_law_28 ?_
    refine lv_icmp_gt (tgt := 1233) hx hb dL_law_29 (by decide) (fun h => ?_) (fun h => ?_)
    · exact hfin H locs ls cells slots hS (by omega) (by omega)
    have h5 : 5 * n + 5 ≤ L := by
      have h6 := mt (tl_lt (a := (L : Int) - 5) (b := ((5 * n : Nat) : Int)) ⟨by omega, by omega⟩ ⟨by omega, by omega⟩).mpr h
      omega
    have hn : n ≤ 600 := by omega
    have nxt : ∀ (mx2 kx2 : Nat) (t : Int) (CW MW : va_W) (ov : Nat → Int64) (H : Heap) (locs : List Loc) (ls : Array Slot) (cells slots : Nat), SIM cy a_x a_m (n + 1) mx2 kx2 t CW MW → cells ≤ 100 + 6 * (n + 1) + 9 * mx2 + kx2 → slots ≤ 60000 + 36 * (n + 1) + 6210 * mx2 + 2 * kp_L kx2 → va_P D vwCl (CW ++ (MW ++ [tl_ja (cy 2) a_o 1 ov])) H → va_D A (CW ++ (MW ++ [tl_ja (cy 2) a_o 1 ov])) → va_S A s.heap H locs → lv_has ls 7 [(4, .int (tl_I ((5 * n : Nat) : Int))), (0, .ref b), (1, .ref a_x), (2, .ref a_m), (3, .ref a_o)] → W p l e room_1 s m args below meth c H locs cells slots Q (F0 m 1227 ls []) := by
      intro mx2 kx2 t CW MW ov H locs ls cells slots hsim hc hsl hP hD hS hl
      refine lv_iinc (v := tl_I ((5 * (n + 1) : Nat) : Int)) (lv' := [(4, .int (tl_I ((5 * (n + 1) : Nat) : Int))), (0, .ref b), (1, .ref a_x), (2, .ref a_m), (3, .ref a_o)]) hx hb dL_law_1227 hl (k := 0) rfl ((tl_add ((5 * n : Nat) : Int) 5).trans (congrArg tl_I (by omega))) (by decide) rfl (fun ls hl => ?_)
      refine lv_goto (tgt := 23) hx hb dL_law_1230 (by decide) ?_
      exact ih (n + 1) mx2 kx2 t CW MW ov H locs ls cells slots (by omega) (by omega) hsim hc hsl hP hD hS hl
    have hR : 11 ≤ room_1.frames ∧ 410 ≤ room_1.locals := ⟨Nat.le_refl 11, Nat.le_refl 410⟩
    refine lv_aload_n hx hb dL_law_32 rfl (lv_at hl 1 rfl) ?_
    refine lv_iload hx hb dL_law_33 (lv_at hl 0 rfl) ?_
    refine ts_sld (j := 5 * n) hx hb hX hbl hbA hS rfl (by omega) hL dL_law_35 ?_
    refine lv_bipush (v := tl_I (15 : Int)) hx hb dL_law_36 rfl ?_
    refine lv_iand hx hb dL_law_38 ?_
    rw [tl_of]
    obtain ⟨k, hk, ek⟩ := lw_and15 (xs (5 * n))
    rw [ek]
    rcases (show k = 0 ∨ k = 1 ∨ k = 2 ∨ k = 3 ∨ k = 4 ∨ k = 5 ∨ k = 6 ∨ k = 7 ∨ k = 8 ∨ k = 9 ∨ k = 10 ∨ k = 11 ∨ k = 12 ∨ k = 13 ∨ k = 14 ∨ k = 15 by omega) with rfl | rfl | rfl | rfl | rfl | rfl | rfl | rfl | rfl | rfl | rfl | rfl | rfl | rfl | rfl | rfl
    · refine tr_tableIn (k := 0) (tgt := 116) hx hb dL_law_39 rfl (by decide) (by decide) (by decide) rfl rfl ?_
      exact lc_link (i := 5 * n) hx hb hml hown hts hX hbl hbA hA hL hE hN hK hR h5 (ok_link l hlt D cy sa hn hsim (tl_Rof (xs (5 * n + 1))) (tl_Rof (xs (5 * n + 2))) (tl_Rof (xs (5 * n + 3))) (tl_Rof (xs (5 * n + 4)))) (sm_th l D cy a_x a_m (n + 1) mx kx) ⟨by show _ ≤ 171426; omega, by show _ ≤ 8581828; omega⟩ hP hD hS hl (fun t CW2 MW2 ov2 H locs ls hsim hP hD hS hl => nxt mx kx t CW2 MW2 ov2 H locs ls _ _ hsim (by omega) (by omega) hP hD hS hl)
    · refine tr_tableIn (k := 1) (tgt := 208) hx hb dL_law_39 rfl (by decide) (by decide) (by decide) rfl rfl ?_
      exact lc_make (i := 5 * n) hx hb hml hown hts hX hbl hbA hA hL hE hN hK hR h5 (ok_make l hlt D cy sa hn hsim (tl_Rof (xs (5 * n + 1)))) (sm_th l D cy a_x a_m (n + 1) mx kx) ⟨by show _ ≤ 171426; omega, by show _ ≤ 8581828; omega⟩ hP hD hS hl (fun t CW2 MW2 ov2 H locs ls hsim hP hD hS hl => nxt mx kx t CW2 MW2 ov2 H locs ls _ _ hsim (by omega) (by omega) hP hD hS hl)
    · refine tr_tableIn (k := 2) (tgt := 264) hx hb dL_law_39 rfl (by decide) (by decide) (by decide) rfl rfl ?_
      exact lc_set (i := 5 * n) hx hb hml hown hts hX hbl hbA hA hL hE hN hK hR h5 (ok_set l hlt D cy sa hn hsim (tl_Rof (xs (5 * n + 1))) (tl_Rof (xs (5 * n + 2))) (tl_Rof (xs (5 * n + 3))) (tl_Rof (xs (5 * n + 4)))) (sm_th l D cy a_x a_m (n + 1) mx kx) ⟨by show _ ≤ 171426; omega, by show _ ≤ 8581828; omega⟩ hP hD hS hl (fun t CW2 MW2 ov2 H locs ls hsim hP hD hS hl => nxt mx kx t CW2 MW2 ov2 H locs ls _ _ hsim (by omega) (by omega) hP hD hS hl)
    · refine tr_tableIn (k := 3) (tgt := 356) hx hb dL_law_39 rfl (by decide) (by decide) (by decide) rfl rfl ?_
      exact lc_cut (i := 5 * n) hx hb hml hown hts hX hbl hbA hA hL hE hN hK hR h5 (ok_cut l hlt D cy sa hn hsim (tl_Rof (xs (5 * n + 1))) (tl_Rof (xs (5 * n + 2))) (tl_Rof (xs (5 * n + 3)))) (sm_th l D cy a_x a_m (n + 1) mx kx) ⟨by show _ ≤ 171426; omega, by show _ ≤ 8581828; omega⟩ hP hD hS hl (fun t CW2 MW2 ov2 H locs ls hsim hP hD hS hl => nxt mx kx t CW2 MW2 ov2 H locs ls _ _ hsim (by omega) (by omega) hP hD hS hl)
    · refine tr_tableIn (k := 4) (tgt := 436) hx hb dL_law_39 rfl (by decide) (by decide) (by decide) rfl rfl ?_
      exact lc_drop (i := 5 * n) hx hb hml hown hts hX hbl hbA hA hL hE hN hK hR h5 (ok_drop l hlt D cy sa hn hsim (tl_Rof (xs (5 * n + 1)))) (sm_th l D cy a_x a_m (n + 1) mx kx) ⟨by show _ ≤ 171426; omega, by show _ ≤ 8581828; omega⟩ hP hD hS hl (fun t CW2 MW2 ov2 H locs ls hsim hP hD hS hl => nxt mx kx t CW2 MW2 ov2 H locs ls _ _ hsim (by omega) (by omega) hP hD hS hl)
    · refine tr_tableIn (k := 5) (tgt := 492) hx hb dL_law_39 rfl (by decide) (by decide) (by decide) rfl rfl ?_
      exact lc_copy (i := 5 * n) hx hb hml hown hts hX hbl hbA hA hL hE hN hK hR h5 (ok_copy l hlt D cy sa hn hsim (tl_Rof (xs (5 * n + 1)))) (sm_th l D cy a_x a_m (n + 1) mx kx) ⟨by show _ ≤ 171426; omega, by show _ ≤ 8581828; omega⟩ hP hD hS hl (fun t CW2 MW2 ov2 H locs ls hsim hP hD hS hl => nxt mx kx t CW2 MW2 ov2 H locs ls _ _ hsim (by omega) (by omega) hP hD hS hl)
    · refine tr_tableIn (k := 6) (tgt := 548) hx hb dL_law_39 rfl (by decide) (by decide) (by decide) rfl rfl ?_
      exact lc_alike (i := 5 * n) hx hb hml hown hts hX hbl hbA hA hL hE hN hK hR h5 (ok_alike l hlt D cy sa hn hsim (tl_Rof (xs (5 * n + 1))) (tl_Rof (xs (5 * n + 2)))) (sm_th l D cy a_x a_m (n + 1) mx kx) ⟨by show _ ≤ 171426; omega, by show _ ≤ 8581828; omega⟩ hP hD hS hl (fun t CW2 MW2 ov2 H locs ls hsim hP hD hS hl => nxt mx kx t CW2 MW2 ov2 H locs ls _ _ hsim (by omega) (by omega) hP hD hS hl)
    · refine tr_tableIn (k := 7) (tgt := 623) hx hb dL_law_39 rfl (by decide) (by decide) (by decide) rfl rfl ?_
      exact lc_at (i := 5 * n) hx hb hml hown hts hX hbl hbA hA hL hE hN hK hR h5 (ok_at l hlt D cy sa hn hsim (tl_Rof (xs (5 * n + 1))) (tl_Rof (xs (5 * n + 2))) (tl_Rof (xs (5 * n + 3)))) (sm_th l D cy a_x a_m (n + 1) mx kx) ⟨by show _ ≤ 171426; omega, by show _ ≤ 8581828; omega⟩ hP hD hS hl (fun t CW2 MW2 ov2 H locs ls hsim hP hD hS hl => nxt mx kx t CW2 MW2 ov2 H locs ls _ _ hsim (by omega) (by omega) hP hD hS hl)
    · refine tr_tableIn (k := 8) (tgt := 703) hx hb dL_law_39 rfl (by decide) (by decide) (by decide) rfl rfl ?_
      exact lc_back (i := 5 * n) hx hb hml hown hts hX hbl hbA hA hL hE hN hK hR h5 (ok_back l hlt D cy sa hn hsim (tl_Rof (xs (5 * n + 1))) (tl_Rof (xs (5 * n + 2))) (tl_Rof (xs (5 * n + 3)))) (sm_th l D cy a_x a_m (n + 1) mx kx) ⟨by show _ ≤ 171426; omega, by show _ ≤ 8581828; omega⟩ hP hD hS hl (fun t CW2 MW2 ov2 H locs ls hsim hP hD hS hl => nxt mx kx t CW2 MW2 ov2 H locs ls _ _ hsim (by omega) (by omega) hP hD hS hl)
    · refine tr_tableIn (k := 9) (tgt := 783) hx hb dL_law_39 rfl (by decide) (by decide) (by decide) rfl rfl ?_
      exact lc_ask (i := 5 * n) hx hb hml hown hts hX hbl hbA hA hL hE hN hK hR h5 (ok_ask l hlt D cy sa hn hsim (tl_Rof (xs (5 * n + 1))) (tl_Rof (xs (5 * n + 2)))) (sm_th l D cy a_x a_m (n + 1) mx kx) ⟨by show _ ≤ 171426; omega, by show _ ≤ 8581828; omega⟩ hP hD hS hl (fun t CW2 MW2 ov2 H locs ls hsim hP hD hS hl => nxt mx kx t CW2 MW2 ov2 H locs ls _ _ hsim (by omega) (by omega) hP hD hS hl)
    · refine tr_tableIn (k := 10) (tgt := 851) hx hb dL_law_39 rfl (by decide) (by decide) (by decide) rfl rfl ?_
      exact lc_size (i := 5 * n) hx hb hml hown hts hX hbl hbA hA hL hE hN hK hR h5 (ok_size l hlt D cy sa hn hsim (tl_Rof (xs (5 * n + 1))) (tl_Rof (xs (5 * n + 2))) (tl_Rof (xs (5 * n + 3)))) (sm_th l D cy a_x a_m (n + 1) mx kx) ⟨by show _ ≤ 171426; omega, by show _ ≤ 8581828; omega⟩ hP hD hS hl (fun t CW2 MW2 ov2 H locs ls hsim hP hD hS hl => nxt mx kx t CW2 MW2 ov2 H locs ls _ _ hsim (by omega) (by omega) hP hD hS hl)
    · refine tr_tableIn (k := 11) (tgt := 931) hx hb dL_law_39 rfl (by decide) (by decide) (by decide) rfl rfl ?_
      exact lc_way (i := 5 * n) hx hb hml hown hts hX hbl hbA hA hL hE hN hK hR h5 (ok_way l hlt D cy sa hn hsim (tl_Rof (xs (5 * n + 1))) (tl_Rof (xs (5 * n + 2)))) (sm_th l D cy a_x a_m (n + 1) mx kx) ⟨by show _ ≤ 171426; omega, by show _ ≤ 8581828; omega⟩ hP hD hS hl (fun t CW2 MW2 ov2 H locs ls hsim hP hD hS hl => nxt mx kx t CW2 MW2 ov2 H locs ls _ _ hsim (by omega) (by omega) hP hD hS hl)
    · refine tr_tableIn (k := 12) (tgt := 999) hx hb dL_law_39 rfl (by decide) (by decide) (by decide) rfl rfl ?_
      exact lc_path (i := 5 * n) hx hb hml hown hts hX hbl hbA hA hL hE hN hK hR h5 (ok_path l hlt D cy sa hn hsim (tl_Rof (xs (5 * n + 1)))) (sm_th l D cy a_x a_m (n + 1) mx kx) ⟨by show _ ≤ 171426; omega, by show _ ≤ 8581828; omega⟩ hP hD hS hl (fun t CW2 MW2 ov2 H locs ls hsim hP hD hS hl => nxt mx kx t CW2 MW2 ov2 H locs ls _ _ hsim (by omega) (by omega) hP hD hS hl)
    · refine tr_tableIn (k := 13) (tgt := 1055) hx hb dL_law_39 rfl (by decide) (by decide) (by decide) rfl rfl ?_
      obtain ⟨mx2, kx2, mc, ms, mcm, msm, hok, hb2, hb3, hb4⟩ := ok_begin l hlt D cy sa hn hsim
      have hk2 := kp_L9 hb2.2
      exact lc_begin (i := 5 * n) hx hb hml hown hts hX hbl hbA hA hL hE hN hK hR h5 hok (sm_th l D cy a_x a_m (n + 1) mx2 kx2) ⟨by show _ ≤ 171426; omega, by show _ ≤ 8581828; omega⟩ hP hD hS hl (fun t CW2 MW2 ov2 H locs ls hsim hP hD hS hl => nxt mx2 kx2 t CW2 MW2 ov2 H locs ls _ _ hsim (by omega) (by omega) hP hD hS hl)
    · refine tr_tableIn (k := 14) (tgt := 1099) hx hb dL_law_39 rfl (by decide) (by decide) (by decide) rfl rfl ?_
      exact lc_end (i := 5 * n) hx hb hml hown hts hX hbl hbA hA hL hE hN hK hR h5 (ok_end l hlt D cy sa hn hsim (p1 := if xs (5 * n + 1) = 0 then (0 : Int) else 1) (by split <;> decide)) (sm_th l D cy a_x a_m (n + 1) mx kx) ⟨by show _ ≤ 171426; omega, by show _ ≤ 8581828; omega⟩ hP hD hS hl (fun t CW2 MW2 ov2 H locs ls hsim hP hD hS hl => nxt mx kx t CW2 MW2 ov2 H locs ls _ _ hsim (by omega) (by omega) hP hD hS hl)
    · refine tr_tableIn (k := 15) (tgt := 1171) hx hb dL_law_39 rfl (by decide) (by decide) (by decide) rfl rfl ?_
      exact lc_count (i := 5 * n) hx hb hml hown hts hX hbl hbA hA hL hE hN hK hR h5 (ok_count l hlt D cy sa hn hsim (tl_Rof (xs (5 * n + 1)))) (sm_th l D cy a_x a_m (n + 1) mx kx) ⟨by show _ ≤ 171426; omega, by show _ ≤ 8581828; omega⟩ hP hD hS hl (fun t CW2 MW2 ov2 H locs ls hsim hP hD hS hl => nxt mx kx t CW2 MW2 ov2 H locs ls _ _ hsim (by omega) (by omega) hP hD hS hl)
end TLL
