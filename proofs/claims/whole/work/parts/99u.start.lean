/-! the law from its entry -/
def st_c (cy : Nat → ClassId) (zi : Nat → Int) (a_this : Nat) (v : Option Value) (w1 : va_W) : Prop := ∃ a_told a_told_forms a_told_from a_told_rules a_told_to a_trail a_trail_numbers a_walk a_walk_reached a_walk_reached_inside a_walk_reached_list a_walk_spare a_walk_spare_inside a_walk_spare_list a_walk_steps a_leaving a_leaving_gone a_leaving_gone_inside a_leaving_gone_list a_leaving_owners a_leaving_owners_inside a_leaving_owners_list a_leaving_parts a_leaving_parts_inside a_leaving_parts_list a_twins a_twins_old a_twins_old_inside a_twins_old_list a_twins_twins a_groups a_groups_firsts a_groups_leaders a_groups_seconds a_saved a_house a_house_had a_house_had_lengths a_house_had_words a_house_has a_house_has_lengths a_house_has_words a_house_kinds a_house_numbers : Nat, v = none ∧ w1 = [tl_ob a_this 10 [.ref a_told, .ref a_trail, .ref a_walk, .ref a_leaving, .ref a_twins, .ref a_groups, .ref a_saved, .ref a_house, .int (tl_I (0 : Int)), .int (tl_I (0 : Int))], tl_ob a_told 6 [.ref a_told_from, .ref a_told_to, .ref a_told_forms, .ref a_told_rules, .int (tl_I (0 : Int))], tl_ia (cy 1) a_told_forms 10 (fun _ => 0), tl_ia (cy 1) a_told_from 10 (fun _ => 0), tl_ia (cy 1) a_told_rules 10 (fun _ => 0), tl_ia (cy 1) a_told_to 10 (fun _ => 0), tl_ob a_trail 7 [.ref a_trail_numbers, .int (tl_I (0 : Int))], tl_ia (cy 1) a_trail_numbers 100 (fun _ => 0), tl_ob a_walk 9 [.ref a_told, .ref a_walk_steps, .ref a_walk_reached, .ref a_walk_spare], tl_ob a_walk_reached 5 [.ref a_walk_reached_inside, .ref a_walk_reached_list, .int (tl_I (0 : Int))], tl_ia (cy 3) a_walk_reached_inside 100 (fun _ => 0), tl_ia (cy 1) a_walk_reached_list 100 (fun _ => 0), tl_ob a_walk_spare 5 [.ref a_walk_spare_inside, .ref a_walk_spare_list, .int (tl_I (0 : Int))], tl_ia (cy 3) a_walk_spare_inside 100 (fun _ => 0), tl_ia (cy 1) a_walk_spare_list 100 (fun _ => 0), tl_ia (cy 1) a_walk_steps 100 (fun _ => 0), tl_ob a_leaving 3 [.ref a_told, .ref a_walk, .ref a_leaving_gone, .ref a_leaving_parts, .ref a_leaving_owners], tl_ob a_leaving_gone 5 [.ref a_leaving_gone_inside, .ref a_leaving_gone_list, .int (tl_I (0 : Int))], tl_ia (cy 3) a_leaving_gone_inside 100 (fun _ => 0), tl_ia (cy 1) a_leaving_gone_list 100 (fun _ => 0), tl_ob a_leaving_owners 5 [.ref a_leaving_owners_inside, .ref a_leaving_owners_list, .int (tl_I (0 : Int))], tl_ia (cy 3) a_leaving_owners_inside 100 (fun _ => 0), tl_ia (cy 1) a_leaving_owners_list 100 (fun _ => 0), tl_ob a_leaving_parts 5 [.ref a_leaving_parts_inside, .ref a_leaving_parts_list, .int (tl_I (0 : Int))], tl_ia (cy 3) a_leaving_parts_inside 100 (fun _ => 0), tl_ia (cy 1) a_leaving_parts_list 100 (fun _ => 0), tl_ob a_twins 8 [.ref a_told, .ref a_walk, .ref a_twins_old, .ref a_twins_twins], tl_ob a_twins_old 5 [.ref a_twins_old_inside, .ref a_twins_old_list, .int (tl_I (0 : Int))], tl_ia (cy 3) a_twins_old_inside 100 (fun _ => 0), tl_ia (cy 1) a_twins_old_list 100 (fun _ => 0), tl_ia (cy 1) a_twins_twins 100 (fun _ => 0), tl_ob a_groups 1 [.ref a_told, .ref a_groups_leaders, .ref a_groups_firsts, .ref a_groups_seconds, .int (tl_I (0 : Int))], tl_ia (cy 1) a_groups_firsts 100 (fun _ => 0), tl_ia (cy 1) a_groups_leaders 100 (fun _ => 0), tl_ia (cy 1) a_groups_seconds 100 (fun _ => 0), tl_qa (cy 4) a_saved 12 (fun _ => none), tl_ob a_house 2 [.ref a_house_numbers, .ref a_house_kinds, .ref a_house_has, .ref a_house_had, .int (tl_I (0 : Int)), .int (tl_I (0 : Int))], tl_ob a_house_had 4 [.ref a_house_had_words, .ref a_house_had_lengths], tl_ia (cy 1) a_house_had_lengths 1000 (fun _ => 0), tl_ja (cy 2) a_house_had_words 2000 (fun _ => 0), tl_ob a_house_has 4 [.ref a_house_has_words, .ref a_house_has_lengths], tl_ia (cy 1) a_house_has_lengths 1000 (fun _ => 0), tl_ja (cy 2) a_house_has_words 2000 (fun _ => 0), tl_ia (cy 1) a_house_kinds 100 (fun _ => 0), tl_ia (cy 1) a_house_numbers 100 zi]
def st_m (cy : Nat → ClassId) (a_this : Nat) (v : Option Value) (w1 : va_W) : Prop := ∃ a_from a_to a_form a_rule a_used a_number a_kind a_hasMany a_hadMany a_has a_had a_path a_steps a_queue a_gone a_under a_twin a_olds a_more a_known a_waiting a_kept a_levelAt : Nat, v = none ∧ w1 = [tl_ob a_this 11 [.int (tl_I (0 : Int)), .ref a_from, .ref a_to, .ref a_form, .ref a_rule, .int (tl_I (0 : Int)), .ref a_used, .ref a_number, .ref a_kind, .int (tl_I (0 : Int)), .int (tl_I (0 : Int)), .ref a_hasMany, .ref a_hadMany, .ref a_has, .ref a_had, .ref a_path, .int (tl_I (0 : Int)), .ref a_steps, .ref a_queue, .ref a_gone, .ref a_under, .ref a_twin, .ref a_olds, .ref a_more, .ref a_known, .ref a_waiting, .ref a_kept, .int (tl_I (0 : Int)), .int (tl_I (0 : Int)), .ref a_levelAt, .int (tl_I (0 : Int))], tl_ia (cy 1) a_from 10 (fun _ => 0), tl_ia (cy 1) a_to 10 (fun _ => 0), tl_ia (cy 1) a_form 10 (fun _ => 0), tl_ia (cy 1) a_rule 10 (fun _ => 0), tl_ia (cy 3) a_used 100 (fun _ => 0), tl_ia (cy 1) a_number 100 (fun _ => 0), tl_ia (cy 1) a_kind 100 (fun _ => 0), tl_ia (cy 1) a_hasMany 1000 (fun _ => 0), tl_ia (cy 1) a_hadMany 1000 (fun _ => 0), tl_ia (cy 1) a_has 12000 (fun _ => 0), tl_ia (cy 1) a_had 12000 (fun _ => 0), tl_ia (cy 1) a_path 101 (fun _ => 0), tl_ia (cy 1) a_steps 100 (fun _ => 0), tl_ia (cy 1) a_queue 100 (fun _ => 0), tl_ia (cy 3) a_gone 100 (fun _ => 0), tl_ia (cy 3) a_under 100 (fun _ => 0), tl_ia (cy 1) a_twin 100 (fun _ => 0), tl_ia (cy 1) a_olds 100 (fun _ => 0), tl_ia (cy 1) a_more 100 (fun _ => 0), tl_ia (cy 0) a_known 10000 (fun _ => 0), tl_ia (cy 1) a_waiting 1024 (fun _ => 0), tl_ia (cy 1) a_kept 1024 (fun _ => 0), tl_ia (cy 1) a_levelAt 12 (fun _ => 0)]
theorem st_c.none {cy : Nat → ClassId} {zi : Nat → Int} {a_this : Nat} {v : Option Value} {w1 : va_W} (h : st_c cy zi a_this v w1) : v = none := by
  obtain ⟨a_told, a_told_forms, a_told_from, a_told_rules, a_told_to, a_trail, a_trail_numbers, a_walk, a_walk_reached, a_walk_reached_inside, a_walk_reached_list, a_walk_spare, a_walk_spare_inside, a_walk_spare_list, a_walk_steps, a_leaving, a_leaving_gone, a_leaving_gone_inside, a_leaving_gone_list, a_leaving_owners, a_leaving_owners_inside, a_leaving_owners_list, a_leaving_parts, a_leaving_parts_inside, a_leaving_parts_list, a_twins, a_twins_old, a_twins_old_inside, a_twins_old_list, a_twins_twins, a_groups, a_groups_firsts, a_groups_leaders, a_groups_seconds, a_saved, a_house, a_house_had, a_house_had_lengths, a_house_had_words, a_house_has, a_house_has_lengths, a_house_has_words, a_house_kinds, a_house_numbers, h, -⟩ := h
  exact h
theorem st_m.none {cy : Nat → ClassId} {a_this : Nat} {v : Option Value} {w1 : va_W} (h : st_m cy a_this v w1) : v = none := by
  obtain ⟨a_from, a_to, a_form, a_rule, a_used, a_number, a_kind, a_hasMany, a_hadMany, a_has, a_had, a_path, a_steps, a_queue, a_gone, a_under, a_twin, a_olds, a_more, a_known, a_waiting, a_kept, a_levelAt, h, -⟩ := h
  exact h
theorem st_sum : ∀ (n : Nat), hs_sum (fun _ => 0) n = 0
  | 0 => rfl
  | n + 1 => by
    unfold hs_sum
    rw [st_sum n]
theorem st_ps : ps_S [] 0 (fun _ => 0) (fun _ => 0) := ⟨rfl, List.nodup_nil, fun x h => absurd h List.not_mem_nil, fun i h => absurd h (Nat.not_lt_zero i), fun k _ => by rw [if_neg List.not_mem_nil]⟩
theorem st_pt (c : Nat) : pt_T c [] 0 (fun _ => 0) := ⟨rfl, Nat.zero_le c, fun i h => absurd h (Nat.not_lt_zero i)⟩
theorem st_pr : pr_R (fun _ _ => []) (fun _ => 0) (fun _ => 0) := fun l s _ _ => ⟨rfl, Nat.zero_le 12, fun i h => absurd h (Nat.not_lt_zero i), fun x h => absurd h List.not_mem_nil⟩
theorem st_qu : qu_R (fun _ => false) (fun _ _ => []) (fun _ => 0) (fun _ => 0) := ⟨fun _ _ => [], fun l s _ _ => ⟨rfl, Nat.zero_le 12, fun i h => absurd h (Nat.not_lt_zero i), fun x h => absurd h List.not_mem_nil⟩, fun l s _ _ _ => rfl⟩
theorem st_own (ru : Nat → Int) (x : Nat) : pw_own 0 ru (fun _ _ => []) x = [] := rfl
theorem st_n : hs_n (fun _ => false) = 0 := by
  unfold hs_n
  exact st_sum 100
theorem st_p : hs_p (fun _ _ => []) = 0 := by
  unfold hs_p
  have e : (fun l : Nat => hs_sum (fun s : Nat => ((fun _ _ => []) l s : List Nat).length) 100) = fun _ => 0 := by
    funext l
    exact st_sum 100
  rw [e]
  exact st_sum 10
set_option maxHeartbeats 4000000 in
set_option maxRecDepth 100000 in
theorem sm_0 {cy : Nat → ClassId} {zi : Nat → Int} {a_x a_m : Nat} {v v2 : Option Value} {w1 w2 : va_W} (hzi : ∀ k, k < 100 → zi k = -1) (h1 : st_c cy zi a_x v w1) (h2 : st_m cy a_m v2 w2) : SIM cy a_x a_m 0 0 0 0 w1 w2 := by
  obtain ⟨a_told, a_told_forms, a_told_from, a_told_rules, a_told_to, a_trail, a_trail_numbers, a_walk, a_walk_reached, a_walk_reached_inside, a_walk_reached_list, a_walk_spare, a_walk_spare_inside, a_walk_spare_list, a_walk_steps, a_leaving, a_leaving_gone, a_leaving_gone_inside, a_leaving_gone_list, a_leaving_owners, a_leaving_owners_inside, a_leaving_owners_list, a_leaving_parts, a_leaving_parts_inside, a_leaving_parts_list, a_twins, a_twins_old, a_twins_old_inside, a_twins_old_list, a_twins_twins, a_groups, a_groups_firsts, a_groups_leaders, a_groups_seconds, a_saved, a_house, a_house_had, a_house_had_lengths, a_house_had_words, a_house_has, a_house_has_lengths, a_house_has_words, a_house_kinds, a_house_numbers, -, rfl⟩ := h1
  obtain ⟨a_from, a_to, a_form, a_rule, a_used, a_number, a_kind, a_hasMany, a_hadMany, a_has, a_had, a_path, a_steps, a_queue, a_gone, a_under, a_twin, a_olds, a_more, a_known, a_waiting, a_kept, a_levelAt, -, rfl⟩ := h2
  exact ⟨a_told, a_trail, a_walk, a_leaving, a_twins, a_groups, a_saved, a_house, a_told_from, a_told_to, a_told_forms, a_told_rules, a_trail_numbers, a_walk_steps, a_walk_reached, a_walk_spare, a_walk_reached_inside, a_walk_reached_list, a_walk_spare_inside, a_walk_spare_list, a_leaving_gone, a_leaving_parts, a_leaving_owners, a_leaving_gone_inside, a_leaving_gone_list, a_leaving_owners_inside, a_leaving_owners_list, a_leaving_parts_inside, a_leaving_parts_list, a_twins_old, a_twins_twins, a_twins_old_inside, a_twins_old_list, a_groups_leaders, a_groups_firsts, a_groups_seconds, a_house_numbers, a_house_kinds, a_house_has, a_house_had, a_house_had_words, a_house_had_lengths, a_house_has_words, a_house_has_lengths, a_from, a_to, a_form, a_rule, a_used, a_number, a_kind, a_hasMany, a_hadMany, a_has, a_had, a_path, a_steps, a_queue, a_gone, a_under, a_twin, a_olds, a_more, a_known, a_waiting, a_kept, a_levelAt, (fun _ => 0), (fun _ => 0), (fun _ => 0), (fun _ => 0), 0, (fun _ => 0), 0, (fun _ => 0), (fun _ => 0), 0, (fun _ => 0), (fun _ => 0), (fun _ => 0), 0, (fun _ => 0), (fun _ => 0), 0, (fun _ => 0), (fun _ => 0), 0, (fun _ => 0), (fun _ => 0), 0, (fun _ => 0), (fun _ => 0), (fun _ => 0), 0, (fun _ => 0), (fun _ => 0), (fun _ => 0), 0, 0, (fun _ => 0), (fun _ => 0), (fun _ => 0), (fun _ => 0), (fun _ => 0), zi, (fun _ => none), 0, 0, 0, (fun _ => 0), (fun _ => 0), (fun _ => 0), (fun _ => 0), (fun _ => 0), (fun _ => 0), (fun _ => 0), (fun _ => 0), (fun _ => 0), (fun _ => 0), (fun _ => 0), (fun _ => 0), (fun _ => 0), (fun _ => 0), (fun _ => 0), (fun _ => 0), (fun _ => 0), (fun _ => 0), (fun _ => 0), (fun _ => 0), (fun _ => 0), (fun _ => 0), (fun _ => false), (fun _ => 0), (fun _ => 0), (fun _ _ => []), (fun _ _ => []), [], [], [], [], [], [], [], 0, 0, 0, 0, (fun _ => 0), (fun _ => (fun _ => false, fun _ => 0, fun _ => 0, fun _ _ => [], fun _ _ => [])), (fun _ _ => 0), (fun _ => 0), (fun _ => 0), (fun _ _ => 0), (fun _ _ => 0), (fun _ _ => 0), (fun _ _ => 0), (fun _ _ => 0), (fun _ _ => 0), List.Perm.refl _,
    List.Perm.refl _,
    ⟨Nat.zero_le 10, fun l h => absurd h (Nat.not_lt_zero l)⟩,
    ⟨fun k _ h => absurd h Bool.false_ne_true, fun j k _ _ h => absurd h Bool.false_ne_true, fun l s x h => absurd h List.not_mem_nil, fun l s x => ⟨fun h => absurd h List.not_mem_nil, fun h => absurd h List.not_mem_nil⟩, fun l s => ⟨List.nodup_nil, List.nodup_nil⟩, fun l s => ⟨Nat.zero_le 12, Nat.zero_le 12⟩, fun l h => absurd h (Nat.not_lt_zero l), fun n x h => by obtain ⟨z, hz, -⟩ := h; rw [st_own] at hz; exact absurd hz List.not_mem_nil⟩,
    ⟨by omega, by omega⟩,
    ⟨by rw [st_n]; rfl, by rw [st_p]; rfl, st_pr, st_pr, fun k _ => ⟨tl_R0, fun h => absurd h Bool.false_ne_true⟩, fun k hk => (hzi k hk).trans (if_neg Bool.false_ne_true).symm⟩,
    ⟨by rw [st_n]; rfl, st_qu, st_qu, fun k _ => ⟨tl_R0, fun h => absurd h Bool.false_ne_true⟩, fun k _ => ⟨tl_R0, fun h => absurd h Bool.false_ne_true⟩, fun k _ => (if_neg Bool.false_ne_true).symm⟩,
    st_ps,
    st_ps,
    st_ps,
    st_ps,
    st_ps,
    st_ps,
    st_pt 100,
    st_pt 101,
    fun k _ => tl_R0,
    ⟨Nat.le_refl 0, by decide, by decide, Nat.zero_le _, lv_K.zero _ _ _, fun i h => absurd h (Nat.not_lt_zero i), fun i h => absurd h (Nat.not_lt_zero i), fun i _ _ => rfl⟩⟩
theorem tw_81 : (.classLink RL 8 RX9 : Cond) ∈ tl_T := tl_tin 81 (by decide +kernel) rfl
theorem tw_82 : (.instantiable RX9 10 : Cond) ∈ tl_T := tl_tin 82 (by decide +kernel) rfl
theorem tw_83 : (.methodLink RL 76 yX9_init : Cond) ∈ tl_T := tl_tin 83 (by decide +kernel) rfl
theorem tw_84 : (.instanceMethod yX9_init : Cond) ∈ tl_T := tl_tin 84 (by decide +kernel) rfl
theorem tw_85 : (.code yX9_init cX9_init 1 none : Cond) ∈ tl_T := tl_tin 85 (by decide +kernel) rfl
theorem tw_982 : (.classLink RL 77 RX10 : Cond) ∈ tl_T := tl_tin 982 (by decide +kernel) rfl
theorem tw_983 : (.instantiable RX10 31 : Cond) ∈ tl_T := tl_tin 983 (by decide +kernel) rfl
theorem tw_984 : (.methodLink RL 79 yX10_init : Cond) ∈ tl_T := tl_tin 984 (by decide +kernel) rfl
theorem tw_985 : (.instanceMethod yX10_init : Cond) ∈ tl_T := tl_tin 985 (by decide +kernel) rfl
theorem tw_986 : (.code yX10_init cX10_init 1 none : Cond) ∈ tl_T := tl_tin 986 (by decide +kernel) rfl
theorem tw_l488 : (.instantiable RJx3273f 6 : Cond) ∈ lw_tbl := List.mem_of_getElem? (show lw_tbl[488]? = _ by decide +kernel)
theorem tw_l229 : (.arrayOver (.object "TwinLinks$House") : Cond) ∈ lw_tbl := List.mem_of_getElem? (show lw_tbl[229]? = _ by decide +kernel)
theorem tw_l338 : (.laysStatic Bundle.tN "UNASSIGNED_STACK" Bundle.steD : Cond) ∈ lw_tbl := List.mem_of_getElem? (show lw_tbl[338]? = _ by decide +kernel)
theorem tw_l340 : (.laysStatic Bundle.tN "SUPPRESSED_SENTINEL" Bundle.listD : Cond) ∈ lw_tbl := List.mem_of_getElem? (show lw_tbl[340]? = _ by decide +kernel)
theorem tw_l71 : (.initialized Bundle.tN : Cond) ∈ lw_tbl := List.mem_of_getElem? (show lw_tbl[71]? = _ by decide +kernel)
theorem st_inJ : ∀ w ∈ u_ws RJx3273f TJx3273f 6, w ∈ lw_tbl := by decide +kernel
theorem st_AX : ∀ w ∈ tl_AX, w ∈ lw_tbl := by decide +kernel
theorem st_strs : ∀ q ∈ tl_strs, (Cond.stringRef RX9 q.1 q.2) ∈ lw_tbl := by decide +kernel
theorem st_nc : ∀ i, i < 6 → ∀ j, j < 6 → i ≠ j → (Cond.not (.castable (tl_ex i) (tl_ex j))) ∈ flatC (Cond.and given_1 narrow_1) := by decide +kernel
theorem st_cs : ∀ i, i < 6 → (Cond.castable (tl_ex i) (tl_ex i)) ∈ lw_tbl := by decide +kernel
theorem st_r1 : (Cond.isRef (.static Bundle.tN "UNASSIGNED_STACK" Bundle.steD)) ∈ flatC (Cond.and given_1 narrow_1) := by decide +kernel
theorem st_r2 : (Cond.isRef (.static Bundle.tN "SUPPRESSED_SENTINEL" Bundle.listD)) ∈ flatC (Cond.and given_1 narrow_1) := by decide +kernel
theorem st_arr {s : State} {args : Array Value} {ty : FieldType} (hp : ∀ C, ty ≠ .object C) (h : (Cond.arrayClass ty).before args s = true) : ∃ cA : ClassId, ArrOfT s cA ty ∧ va_RA s cA ty := by
  obtain ⟨cA, kA, comp, h1, h2, h3⟩ := Cond.arrayClass_spec h
  refine ⟨cA, fun n z => ⟨fun k h => (by cases h), kA, h2, comp, h3⟩, ?_⟩
  cases ty with
  | object C => exact absurd rfl (hp C)
  | _ => exact h1
theorem st_arq {s : State} {args : Array Value} {C : String} (h : (Cond.arrayOver (.object C)).before args s = true) : ∃ cA : ClassId, ArrOfT s cA (.object C) ∧ va_RA s cA (.object C) := by
  obtain ⟨comp, cA, kA, h1, -, h2, h3, h4⟩ := Cond.arrayOver_spec h
  exact ⟨cA, fun n z => ⟨fun k h => (by cases h), kA, h2, comp, h3⟩, kA, comp, h2, h3, h1, h4⟩
def st_sa (s : State) (k : Nat) : Nat := match (Term.string RX9 k).eval #[] s none [] s with
  | some (.ref a) => a
  | _ => 0
theorem st_str {s : State} {args : Array Value} {k cur : Nat} {tx : String} (hcur : s.vm.findClass RX9 = some cur) (h : (Cond.stringRef RX9 k tx).before args s = true) : vk_R RX9 k tx (st_sa s k) s := by
  have h0 : (Cond.stringRef RX9 k tx).before #[] s = true := h
  obtain ⟨-, -, -, a, -, -, -, -, -, hev⟩ := Cond.stringRef_spec (args := #[]) (first := s) (o := none) (idx := []) hcur h0
  refine ⟨h0, ?_⟩
  unfold st_sa
  rw [hev]
section TLU
variable {p : Program} {l : Launch} {e : Env} {R : Room} {s : State} {m : MethodId} {args : Array Value} {below : List Frame} {meth : Method} {c : Code} {H : Heap} {locs : List Loc} {cells slots : Nat} {Q : State → Prop}
variable {cc bytes : ByteArray} {pc nL n index maxL mc ms : Nat} {ls : Array Slot} {rest st0 As : List Value} {D : va_G} {A : Nat → Prop} {b : Nat} {tys : List (ClassId × FieldType)} {wc wr : va_W} {post : Option Value → va_W → Prop} {y : MethodName} {wsc Ts : List Cond} {rm : Room} {own : String}
theorem tl_callIA (S : CallFix p m c cc nL s args Ts own) (hM : tl_MC l D tys y wsc rm (.ref b :: As) wc mc ms post) (cw : CallB R s args own index y bytes maxL none wsc rm mc ms n ∧ y.name = "<init>" ∧ (Cond.instanceMethod y).before args s = true)
    (hK : va_K D vwCl tys s) (hP : va_P D vwCl (wc ++ wr) H) (hD : va_D A (wc ++ wr)) (hS : va_S A s.heap H locs) (hA : ∀ q, s.heap.size ≤ q → A q)
    (hn : As.length = n) (hsize : ls.size = nL) (hstack : st0 = As.reverse ++ .ref b :: rest) (hrm : (rest.map fun v => v.category).sum ≤ 8) (hdg : decode cc pc = .ok (.invokespecial index, 3)) (hf : cells + mc ≤ R.cells ∧ slots + ms ≤ R.slots)
    (kk : ∀ (v : Option Value) (w1 : va_W) (H1 : Heap) (locs1 : List Loc), post v w1 → va_P D vwCl (w1 ++ wr) H1 → va_D A (w1 ++ wr) → va_S A s.heap H1 locs1 → W p l e R s m args below meth c H1 locs1 (cells + mc) (slots + ms) Q (F0 m (pc + 3) ls (v.toList ++ rest))) :
    W p l e R s m args below meth c H locs cells slots Q (F0 m pc ls st0) :=
  tl_callI (wr := wr) S hM cw hK hP hD hS hA (List.range wc.length) (List.range' wc.length wr.length) (wd_nd _ List.nodup_range) (wd_C wc wr) (wd_R wc wr) (wd_nd _ (List.nodup_range' (h := by decide))) (wd_dis wc wr) hn hsize hstack hrm hdg hf
    (fun v w1 H1 locs1 h1 h2 h3 h4 => kk v w1 H1 locs1 h1 (h2.perm List.perm_append_comm) (h3.perm List.perm_append_comm) h4)
theorem tl_callPA (S : CallFix p m c cc nL s args Ts own) (hM : tl_MP l D tys y wsc rm (.ref b :: As) wc mc ms post) (cw : CallB R s args own index y bytes maxL none wsc rm mc ms n ∧ y.name = "<init>" ∧ (Cond.instanceMethod y).before args s = true) (hao : va_AO "TwinLinks$House" s)
    (hK : va_K D vwCl tys s) (hP : va_P D vwCl (wc ++ wr) H) (hD : va_D A (wc ++ wr)) (hS : va_S A s.heap H locs) (hA : ∀ q, s.heap.size ≤ q → A q)
    (hn : As.length = n) (hsize : ls.size = nL) (hstack : st0 = As.reverse ++ .ref b :: rest) (hrm : (rest.map fun v => v.category).sum ≤ 8) (hdg : decode cc pc = .ok (.invokespecial index, 3)) (hf : cells + mc ≤ R.cells ∧ slots + ms ≤ R.slots)
    (kk : ∀ (v : Option Value) (w1 : va_W) (H1 : Heap) (locs1 : List Loc), post v w1 → va_P D vwCl (w1 ++ wr) H1 → va_D A (w1 ++ wr) → va_S A s.heap H1 locs1 → W p l e R s m args below meth c H1 locs1 (cells + mc) (slots + ms) Q (F0 m (pc + 3) ls (v.toList ++ rest))) :
    W p l e R s m args below meth c H locs cells slots Q (F0 m pc ls st0) := by
  subst hstack
  exact tl_behind (va_runI (As := As) (rest := rest) S (hM H.size) cw ⟨tl_blindP, fun U hU hW => ⟨rfl, tl_pre hK hP hD (List.range wc.length) (wd_nd _ List.nodup_range) (wd_C wc wr) hU hW, hao.moved hW.alike⟩⟩ rfl hn hsize rfl (lv_room hrm) hdg hf) hP hD hS hA (List.range wc.length) (List.range' wc.length wr.length) (wd_C wc wr) (wd_R wc wr) (wd_nd _ (List.nodup_range' (h := by decide))) (wd_dis wc wr)
    (fun v w1 H1 locs1 h1 h2 h3 h4 => kk v w1 H1 locs1 h1 (h2.perm List.perm_append_comm) (h3.perm List.perm_append_comm) h4)
end TLU
theorem st_K {s : State} {args : Array Value} (hts : ∀ w ∈ lw_tbl, w.before args s = true) : ∃ (D : va_G) (cy : Nat → ClassId), va_K D vwCl (tl_tys cy) s := by
  have ht2 : ∀ w ∈ tl_T, w.before args s = true := fun w hw => hts w (List.mem_filter.mp hw).1
  obtain ⟨c0, i0, k0⟩ := u_known (C := RJx3273f) (T := TJx3273f) (N := 6) (n := 6) hts st_inJ (hts _ tw_l488)
  obtain ⟨c1, i1, k1⟩ := u_known (C := RX0) (T := TX0) (N := 5) (n := 5) ht2 in_X0 (ht2 _ tw_207)
  obtain ⟨c2, i2, k2⟩ := u_known (C := RX1) (T := TX1) (N := 6) (n := 6) ht2 in_X1 (ht2 _ tw_230)
  obtain ⟨c3, i3, k3⟩ := u_known (C := RX2) (T := TX2) (N := 5) (n := 5) ht2 in_X2 (ht2 _ tw_162)
  obtain ⟨c4, i4, k4⟩ := u_known (C := RX3) (T := TX3) (N := 2) (n := 2) ht2 in_X3 (ht2 _ tw_236)
  obtain ⟨c5, i5, k5⟩ := u_known (C := RX4) (T := TX4) (N := 3) (n := 3) ht2 in_X4 (ht2 _ tw_132)
  obtain ⟨c6, i6, k6⟩ := u_known (C := RX5) (T := TX5) (N := 5) (n := 5) ht2 in_X5 (ht2 _ tw_90)
  obtain ⟨c7, i7, k7⟩ := u_known (C := RX6) (T := TX6) (N := 2) (n := 2) ht2 in_X6 (ht2 _ tw_113)
  obtain ⟨c8, i8, k8⟩ := u_known (C := RX7) (T := TX7) (N := 4) (n := 4) ht2 in_X7 (ht2 _ tw_186)
  obtain ⟨c9, i9, k9⟩ := u_known (C := RX8) (T := TX8) (N := 4) (n := 4) ht2 in_X8 (ht2 _ tw_126)
  obtain ⟨c10, i10, k10⟩ := u_known (C := RX9) (T := TX9) (N := 10) (n := 10) ht2 in_X9 (ht2 _ tw_82)
  obtain ⟨c11, i11, k11⟩ := u_known (C := RX10) (T := TX10) (N := 31) (n := 31) ht2 in_X10 (ht2 _ tw_983)
  obtain ⟨a0, y0⟩ := st_arr (ty := .byte) (fun C h => by cases h) (ht2 _ tw_381)
  obtain ⟨a1, y1⟩ := st_arr (ty := .int) (fun C h => by cases h) (ht2 _ tw_111)
  obtain ⟨a2, y2⟩ := st_arr (ty := .long) (fun C h => by cases h) (ht2 _ tw_248)
  obtain ⟨a3, y3⟩ := st_arr (ty := .boolean) (fun C h => by cases h) (ht2 _ tw_147)
  obtain ⟨a4, y4⟩ := st_arq (hts _ tw_l229)
  refine ⟨(fun k => ([c0, c1, c2, c3, c4, c5, c6, c7, c8, c9, c10, c11] : List ClassId).getD k c0, fun k => ([i0, i1, i2, i3, i4, i5, i6, i7, i8, i9, i10, i11] : List (Nat → Nat)).getD k i0), fun k => ([a0, a1, a2, a3, a4] : List ClassId).getD k a0, fun k q hq => ?_, fun k q hq => ?_⟩
  · match k, hq with
    | 0, hq => cases hq; exact k0
    | 1, hq => cases hq; exact k1
    | 2, hq => cases hq; exact k2
    | 3, hq => cases hq; exact k3
    | 4, hq => cases hq; exact k4
    | 5, hq => cases hq; exact k5
    | 6, hq => cases hq; exact k6
    | 7, hq => cases hq; exact k7
    | 8, hq => cases hq; exact k8
    | 9, hq => cases hq; exact k9
    | 10, hq => cases hq; exact k10
    | 11, hq => cases hq; exact k11
    | k + 12, hq => simp [vwCl] at hq
  · match k, hq with
    | 0, hq => cases hq; exact y0
    | 1, hq => cases hq; exact y1
    | 2, hq => cases hq; exact y2
    | 3, hq => cases hq; exact y3
    | 4, hq => cases hq; exact y4
    | k + 5, hq => simp at hq
theorem st_E {s : State} {args : Array Value} {D : va_G} {cy : Nat → ClassId} (hts : ∀ w ∈ lw_tbl, w.before args s = true) (hgv : (Cond.and given_1 narrow_1).before args s = true) (hK : va_K D vwCl (tl_tys cy) s) : tl_E (st_sa s) (fun q : Nat => s.heap.size ≤ q) s s.heap := by
  have hs := flat_of_before _ hgv
  have hA : ∀ a : Nat, a < s.heap.size → ¬ (fun q : Nat => s.heap.size ≤ q) a := fun a h => Nat.not_le.mpr h
  refine ⟨vx_Zqof (hts _ tw_l338) (hts _ tw_l71) (hs _ st_r1) hA, vx_Zqof (hts _ tw_l340) (hts _ tw_l71) (hs _ st_r2) hA, fun q hq => st_str (hK.1 10 _ rfl).2.1 (hts _ (st_strs q hq)), fun w hw => ?_⟩
  have h1 := List.all_eq_true.mp tl_AX_ok w hw
  simp only [Bool.and_eq_true] at h1
  exact va_tabs h1.2 rfl (hts w (st_AX w hw))
theorem st_N {s : State} {args : Array Value} (hts : ∀ w ∈ lw_tbl, w.before args s = true) (hgv : (Cond.and given_1 narrow_1).before args s = true) : tl_NC s :=
  ⟨fun i j hi hj hij => va_Nc.of (flat_of_before _ hgv _ (st_nc i hi j hj hij)), fun i hi => Cond.castable_spec (hts _ (st_cs i hi))⟩
