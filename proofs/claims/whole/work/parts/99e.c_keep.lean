/-! longer and keep of the reference: what is kept, as a growing array -/
section TLS
variable {p : Program} {l : Launch} {e : Env} {R : Room} {s : State} {m : MethodId} {args : Array Value} {below : List Frame} {meth : Method} {c : Code} {H : Heap} {locs : List Loc} {cells slots : Nat} {Q : State → Prop}
variable {cc : ByteArray} {pc tgt : Nat} {ls : Array Slot} {rest : List Value} {D : va_G} {cl : List vw_C} {A : Nat → Prop} {a n : Nat} {tys : List (ClassId × FieldType)} {ws : va_W} {H0 : Heap} {cA : ClassId} {f : Nat → Int} {i x y off : Int}
theorem ts_ge (hexec : p.tables.exec = Jvm.exec) (hb : c.code = cc) (hR : tl_R x ∧ tl_R y) (hdg : decode cc pc = .ok (.if_icmp .ge off, 3)) (ht : (pc : Int) + off = (tgt : Int)) (kt : x < y → W p l e R s m args below meth c H locs cells slots Q (F0 m (pc + 3) ls rest)) (kf : ¬ x < y → W p l e R s m args below meth c H locs cells slots Q (F0 m tgt ls rest)) : W p l e R s m args below meth c H locs cells slots Q (F0 m pc ls (.int (tl_I y) :: .int (tl_I x) :: rest)) :=
  tr_icmp_ge (F := some ()) (G := some ()) (r := ()) hexec hb (by rw [tl_gt hR]; split <;> rfl) hdg ht (fun h _ => kt h) (fun h _ => kf h)
theorem ts_ne (hexec : p.tables.exec = Jvm.exec) (hb : c.code = cc) (hR : tl_R x ∧ tl_R y) (hdg : decode cc pc = .ok (.if_icmp .ne off, 3)) (ht : (pc : Int) + off = (tgt : Int)) (kt : x = y → W p l e R s m args below meth c H locs cells slots Q (F0 m (pc + 3) ls rest)) (kf : ¬ x = y → W p l e R s m args below meth c H locs cells slots Q (F0 m tgt ls rest)) : W p l e R s m args below meth c H locs cells slots Q (F0 m pc ls (.int (tl_I y) :: .int (tl_I x) :: rest)) :=
  tr_icmp_ne (F := some ()) (G := some ()) (r := ()) hexec hb (by rw [tl_gt hR]; split <;> rfl) hdg ht (fun h _ => kt h) (fun h _ => kf h)
theorem ts_ifeq (hexec : p.tables.exec = Jvm.exec) (hb : c.code = cc) (hR : tl_R x) (hdg : decode cc pc = .ok (.ifCond .eq off, 3)) (ht : (pc : Int) + off = (tgt : Int)) (kt : x = 0 → W p l e R s m args below meth c H locs cells slots Q (F0 m tgt ls rest)) (kf : ¬ x = 0 → W p l e R s m args below meth c H locs cells slots Q (F0 m (pc + 3) ls rest)) : W p l e R s m args below meth c H locs cells slots Q (F0 m pc ls (.int (tl_I x) :: rest)) :=
  tr_if_eq (F := some ()) (G := some ()) (r := ()) hexec hb (by rw [tl_gt hR]; split <;> rfl) hdg ht (fun h _ => kt h) (fun h _ => kf h)
theorem ts_ifne (hexec : p.tables.exec = Jvm.exec) (hb : c.code = cc) (hR : tl_R x) (hdg : decode cc pc = .ok (.ifCond .ne off, 3)) (ht : (pc : Int) + off = (tgt : Int)) (kt : x = 0 → W p l e R s m args below meth c H locs cells slots Q (F0 m (pc + 3) ls rest)) (kf : ¬ x = 0 → W p l e R s m args below meth c H locs cells slots Q (F0 m tgt ls rest)) : W p l e R s m args below meth c H locs cells slots Q (F0 m pc ls (.int (tl_I x) :: rest)) :=
  tr_if_ne (F := some ()) (G := some ()) (r := ()) hexec hb (by rw [tl_gt hR]; split <;> rfl) hdg ht (fun h _ => kt h) (fun h _ => kf h)
theorem ts_iald (hexec : p.tables.exec = Jvm.exec) (hb : c.code = cc) (hi : tl_in i n) (hK : va_K D cl tys s) (hP : va_P D cl ws H) (q0 t0 : Nat) (ha : ws[q0]? = some (tl_ia cA a n f)) (ht : tys[t0]? = some (cA, .int)) (hn : n ≤ 2147483647) (hdg : decode cc pc = .ok (.iaload, 1))
    (kk : W p l e R s m args below meth c H locs cells slots Q (F0 m (pc + 1) ls (.int (tl_I (f i.toNat)) :: rest))) : W p l e R s m args below meth c H locs cells slots Q (F0 m pc ls (.int (tl_I i) :: .ref a :: rest)) :=
  tr_iald (F := some ()) (r := ()) hexec hb (by rw [tl_gt hi]) hK hP q0 t0 ha ht hn hdg (fun _ => kk)
theorem ts_zald (hexec : p.tables.exec = Jvm.exec) (hb : c.code = cc) (hi : tl_in i n) (hK : va_K D cl tys s) (hP : va_P D cl ws H) (q0 t0 : Nat) (ha : ws[q0]? = some (tl_ia cA a n f)) (ht : tys[t0]? = some (cA, .boolean)) (hn : n ≤ 2147483647) (hdg : decode cc pc = .ok (.baload, 1))
    (kk : W p l e R s m args below meth c H locs cells slots Q (F0 m (pc + 1) ls (.int (tl_I (f i.toNat)) :: rest))) : W p l e R s m args below meth c H locs cells slots Q (F0 m pc ls (.int (tl_I i) :: .ref a :: rest)) :=
  tr_zald (F := some ()) (r := ()) hexec hb (by rw [tl_gt hi]) hK hP q0 t0 ha ht hn hdg (fun _ => kk)
theorem ts_iast (hexec : p.tables.exec = Jvm.exec) (hb : c.code = cc) (hi : tl_in i n) (hK : va_K D cl tys s) (hP : va_P D cl ws H) (hD : va_D A ws) (hS : va_S A H0 H locs) (q0 t0 : Nat) (ha : ws[q0]? = some (tl_ia cA a n f)) (ht : tys[t0]? = some (cA, .int)) (hn : n ≤ 2147483647) (hdg : decode cc pc = .ok (.iastore, 1))
    (kk : ∀ (H1 : Heap) (locs1 : List Loc), va_P D cl (ws.set q0 (tl_ia cA a n (va_up f i.toNat x))) H1 → va_D A (ws.set q0 (tl_ia cA a n (va_up f i.toNat x))) → va_S A H0 H1 locs1 → W p l e R s m args below meth c H1 locs1 cells slots Q (F0 m (pc + 1) ls rest)) : W p l e R s m args below meth c H locs cells slots Q (F0 m pc ls (.int (tl_I x) :: .int (tl_I i) :: .ref a :: rest)) :=
  tr_iast (F := some ()) (r := ()) hexec hb (by rw [tl_gt hi]) hK hP hD hS q0 t0 ha ht hn hdg (fun _ => kk)
end TLS
def kp_L (k : Nat) : Nat := 1024 * 2 ^ k
def kp_g (f : Nat → Int) (n : Nat) : Nat → Int := fun j => if j < n then f j else 0
theorem kp_g_up (f : Nat → Int) (n : Nat) : va_up (kp_g f n) n (f n) = kp_g f (n + 1) := by
  funext j
  unfold va_up kp_g
  by_cases h : j = n
  · rw [if_pos h, if_pos (by omega), h]
  · rw [if_neg h]
    by_cases h2 : j < n
    · rw [if_pos h2, if_pos (by omega)]
    · rw [if_neg h2, if_neg (by omega)]
/-- one int more is kept -/
def kp_1 (s : Nat × (Nat → Int) × Nat) (v : Int) : Nat × (Nat → Int) × Nat :=
  if s.2.2 = kp_L s.1 then (s.1 + 1, va_up (kp_g s.2.1 (kp_L s.1)) s.2.2 v, s.2.2 + 1) else (s.1, va_up s.2.1 s.2.2 v, s.2.2 + 1)
def kp_all (s : Nat × (Nat → Int) × Nat) (vs : List Int) : Nat × (Nat → Int) × Nat := vs.foldl kp_1 s
theorem kp_L_succ (k : Nat) : kp_L (k + 1) = 2 * kp_L k := by unfold kp_L; rw [Nat.pow_succ]; omega
theorem kp_L_mono {a b : Nat} (h : a ≤ b) : kp_L a ≤ kp_L b := Nat.mul_le_mul_left _ (Nat.pow_le_pow_right (by decide) h)
theorem kp_L_pos (k : Nat) : 1024 ≤ kp_L k := by have := kp_L_mono (Nat.zero_le k); unfold kp_L at *; omega
theorem kp_L9 {k : Nat} (h : k ≤ 9) : kp_L k ≤ 524288 := by have := kp_L_mono h; have e : kp_L 9 = 524288 := rfl; omega
abbrev kp_ok (s : Nat × (Nat → Int) × Nat) : Prop := s.2.2 ≤ kp_L s.1
theorem kp_1_ok {s : Nat × (Nat → Int) × Nat} {v : Int} (h : kp_ok s) : kp_ok (kp_1 s v) := by
  unfold kp_ok kp_1 at *
  by_cases e : s.2.2 = kp_L s.1
  · rw [if_pos e]
    have := kp_L_succ s.1
    have := kp_L_pos s.1
    show s.2.2 + 1 ≤ kp_L (s.1 + 1)
    omega
  · rw [if_neg e]
    show s.2.2 + 1 ≤ kp_L s.1
    omega
theorem kp_1_le (s : Nat × (Nat → Int) × Nat) (v : Int) : s.1 ≤ (kp_1 s v).1 := by
  unfold kp_1
  split <;> simp
theorem kp_1_n (s : Nat × (Nat → Int) × Nat) (v : Int) : (kp_1 s v).2.2 = s.2.2 + 1 := by
  unfold kp_1
  split <;> rfl
theorem kp_all_ok (vs : List Int) : ∀ {s : Nat × (Nat → Int) × Nat}, kp_ok s → kp_ok (kp_all s vs) := by
  induction vs with
  | nil => intro s h; exact h
  | cons v vs ih => intro s h; exact ih (kp_1_ok h)
theorem kp_all_le (vs : List Int) : ∀ (s : Nat × (Nat → Int) × Nat), s.1 ≤ (kp_all s vs).1 := by
  induction vs with
  | nil => intro s; exact Nat.le_refl _
  | cons v vs ih => intro s; exact Nat.le_trans (kp_1_le s v) (ih _)
theorem kp_all_n (vs : List Int) : ∀ (s : Nat × (Nat → Int) × Nat), (kp_all s vs).2.2 = s.2.2 + vs.length := by
  induction vs with
  | nil => intro s; rfl
  | cons v vs ih =>
    intro s
    show (kp_all (kp_1 s v) vs).2.2 = _
    rw [ih, kp_1_n, List.length_cons]
    omega
theorem kp_all_app (s : Nat × (Nat → Int) × Nat) (a b : List Int) : kp_all s (a ++ b) = kp_all (kp_all s a) b := List.foldl_append
theorem kp_all_cons (s : Nat × (Nat → Int) × Nat) (v : Int) (b : List Int) : kp_all s (v :: b) = kp_all (kp_1 s v) b := rfl
theorem tw_1254 : (.methodLink RX10 207 yX10_keep : Cond) ∈ tl_T := tl_tin 1254 (by decide +kernel) rfl
theorem tw_54 : (.selects RX10 yX10_keep yX10_keep : Cond) ∈ tl_T := tl_tin 54 (by decide +kernel) rfl
theorem tw_1256 : (.instanceMethod yX10_keep : Cond) ∈ tl_T := tl_tin 1256 (by decide +kernel) rfl
theorem tw_1257 : (.code yX10_keep cX10_keep 2 none : Cond) ∈ tl_T := tl_tin 1257 (by decide +kernel) rfl
theorem tw_1258 : (.methodLink RX10 200 yX10_longer : Cond) ∈ tl_T := tl_tin 1258 (by decide +kernel) rfl
theorem tw_1259 : (.static yX10_longer : Cond) ∈ tl_T := tl_tin 1259 (by decide +kernel) rfl
theorem tw_1260 : (.code yX10_longer cX10_longer 3 (some (.array .int)) : Cond) ∈ tl_T := tl_tin 1260 (by decide +kernel) rfl
theorem td_X10_longer : yX10_longer.cls ≠ "java/lang/invoke/MethodHandle" ∧ yX10_longer.cls ≠ "java/lang/invoke/VarHandle" ∧ (parseMethodDescriptor yX10_longer.desc).map (fun d => d.parameters.length) = some 1 := by decide +kernel
theorem td_X10_keep : yX10_keep.cls = RX10 ∧ yX10_keep.cls ≠ "java/lang/invoke/MethodHandle" ∧ yX10_keep.cls ≠ "java/lang/invoke/VarHandle" ∧ (parseMethodDescriptor yX10_keep.desc).map (fun d => d.parameters.length) = some 1 := by decide +kernel
theorem tg_X10_200 : GoodIn tl_T (va_wsS RX10 200 yX10_longer (tl_w yX10_longer cX10_longer 3 (some (.array .int)))) := tl_gS tw_1258 tw_1259 tw_70 tw_1260
theorem tg_X10_207 : GoodIn tl_T (wsV RX10 207 RX10 yX10_keep (tl_w yX10_keep cX10_keep 2 none)) := tl_gV tw_1254 tw_1256 tw_54 tw_70 tw_1257
set_option maxHeartbeats 4000000 in
set_option maxRecDepth 100000 in
theorem kt_X10_longer (l : Launch) (D : va_G) (cy : Nat → ClassId) (a_p L : Nat) (f : Nat → Int) (hL : 2 * L ≤ 134217728) :
    tl_MC l D (tl_tys cy) yX10_longer (tl_w yX10_longer cX10_longer 3 (some (.array .int))) { frames := 0, cells := 1, slots := 2 * L, locals := 0 } [.ref a_p] [tl_ia (cy 1) a_p L f] 1 (2 * L) (fun v w1 => ∃ a_b : Nat, v = some (.ref a_b) ∧ w1 = [tl_ia (cy 1) a_p L f, tl_ia (cy 1) a_b (2 * L) (kp_g f L)]) := by
  refine tl_ofW (cc := cX10_longer) (maxL := 3) (ret := (some (.array .int))) (by decide +kernel) (Nat.le_of_ble_eq_true rfl) ?_
  intro p e s m below meth c hx hb hr hml hts hown hlocks hnm A hAe hA hP hK hD hS ls hl
  have hl : lv_has ls 3 [(0, .ref a_p)] := hl
  refine lv_iconst (v := tl_I (2 : Int)) hx hb dX10_longer_0 rfl ?_
  refine lv_aload_n hx hb dX10_longer_1 rfl (lv_at hl 0 rfl) ?_
  refine va_alen (v := tl_I ((L : Nat) : Int)) hx hb hK hP 0 1 rfl rfl (tl_nat _) dX10_longer_2 ?_
  refine tr_imul hx hb dX10_longer_3 ?_
  refine tr_newa (ty := .int) (N' := 2 * L) hx hb (by rfl) (hts _ tw_111) (fun C h => by cases h) rfl hK 1 rfl hP hD hS hA (by omega) (by omega) (show 2 * L * 4 ≤ _ by omega) (Nat.le_refl 1) (show 0 + 2 * L ≤ 2 * L by omega) dX10_longer_4 (fun a_b H hP hD hS => ?_)
  have hP : va_P D vwCl [tl_ia (cy 1) a_p L f, tl_ia (cy 1) a_b (2 * L) (kp_g f 0)] H := hP
  have hD : va_D A [tl_ia (cy 1) a_p L f, tl_ia (cy 1) a_b (2 * L) (kp_g f 0)] := hD
  refine lv_astore_n (lv' := [(1, .ref a_b), (0, .ref a_p)]) hx hb dX10_longer_6 rfl hl (by decide) rfl (fun ls hl => ?_)
  refine lv_iconst (v := tl_I (0 : Int)) hx hb dX10_longer_7 rfl ?_
  refine lv_istore_n (lv' := [(2, .int (tl_I (0 : Int))), (1, .ref a_b), (0, .ref a_p)]) hx hb dX10_longer_8 rfl hl (by decide) rfl (fun ls hl => ?_)
  have lp : ∀ (n : Nat) (x : Int), 0 ≤ x → x + n = L → ∀ (H : Heap) (locs : List Loc) (ls : Array Slot), va_P D vwCl [tl_ia (cy 1) a_p L f, tl_ia (cy 1) a_b (2 * L) (kp_g f x.toNat)] H → va_D A [tl_ia (cy 1) a_p L f, tl_ia (cy 1) a_b (2 * L) (kp_g f x.toNat)] → va_S A s.heap H locs → lv_has ls 3 [(2, .int (tl_I x)), (1, .ref a_b), (0, .ref a_p)] → W p l e ({ frames := 0, cells := 1, slots := 2 * L, locals := 0 } : Room) s m ([.ref a_p] : List Value).toArray below meth c H locs (1) (2 * L) (MQ below (tl_Q D (tl_tys cy) [tl_ia (cy 1) a_p L f] s.heap.size (fun v w1 => ∃ a_b : Nat, v = some (.ref a_b) ∧ w1 = [tl_ia (cy 1) a_p L f, tl_ia (cy 1) a_b (2 * L) (kp_g f L)])) ([.ref a_p] : List Value).toArray s (1) (2 * L) A) (F0 m 9 ls []) := by
    intro n
    induction n with
    | zero =>
      intro x h0 hx2 H locs ls hP hD hS hl
      refine lv_iload_n hx hb dX10_longer_9 rfl (lv_at hl 0 rfl) ?_
      refine lv_aload_n hx hb dX10_longer_10 rfl (lv_at hl 2 rfl) ?_
      refine va_alen (v := tl_I ((L : Nat) : Int)) hx hb hK hP 0 1 rfl rfl (tl_nat _) dX10_longer_11 ?_
      refine ts_ge (tgt := 27) hx hb ⟨⟨by omega, by omega⟩, ⟨by omega, by omega⟩⟩ dX10_longer_12 (by decide) (fun hc => by omega) (fun hc => ?_)
      refine lv_aload_n hx hb dX10_longer_27 rfl (lv_at hl 1 rfl) ?_
      have ex : x.toNat = L := by omega
      rw [ex] at hP hD
      exact W.aret (v := .ref a_b) hx hb hr (Or.inr ⟨_, rfl⟩) (Or.inr ⟨_, rfl⟩) (fun t ht hW => tl_fin hAe ⟨a_b, rfl, rfl⟩ hP hK hD hS ht hW) hS.2.2 dX10_longer_28
    | succ n ih =>
      intro x h0 hx2 H locs ls hP hD hS hl
      refine lv_iload_n hx hb dX10_longer_9 rfl (lv_at hl 0 rfl) ?_
      refine lv_aload_n hx hb dX10_longer_10 rfl (lv_at hl 2 rfl) ?_
      refine va_alen (v := tl_I ((L : Nat) : Int)) hx hb hK hP 0 1 rfl rfl (tl_nat _) dX10_longer_11 ?_
      refine ts_ge (tgt := 27) hx hb ⟨⟨by omega, by omega⟩, ⟨by omega, by omega⟩⟩ dX10_longer_12 (by decide) (fun hc => ?_) (fun hc => by omega)
      refine lv_aload_n hx hb dX10_longer_15 rfl (lv_at hl 1 rfl) ?_
      refine lv_iload_n hx hb dX10_longer_16 rfl (lv_at hl 0 rfl) ?_
      refine lv_aload_n hx hb dX10_longer_17 rfl (lv_at hl 2 rfl) ?_
      refine lv_iload_n hx hb dX10_longer_18 rfl (lv_at hl 0 rfl) ?_
      refine ts_iald hx hb ⟨by omega, by omega⟩ hK hP 0 1 rfl rfl (by omega) dX10_longer_19 ?_
      refine ts_iast hx hb ⟨by omega, by omega⟩ hK hP hD hS 1 1 rfl rfl (by omega) dX10_longer_20 (fun H locs hP hD hS => ?_)
      rw [kp_g_up, show x.toNat + 1 = (x + 1).toNat by omega] at hP hD
      refine lv_iinc (v := tl_I (x + 1)) (lv' := [(2, .int (tl_I (x + 1))), (1, .ref a_b), (0, .ref a_p)]) hx hb dX10_longer_21 hl (k := 0) rfl (tl_add _ _) (by decide) rfl (fun ls hl => ?_)
      refine lv_goto (tgt := 9) hx hb dX10_longer_24 (by decide) ?_
      exact ih (x + 1) (by omega) (by omega) H locs ls hP hD hS hl
  refine W.widen (k := 1) (n := 2 * L) (by omega) (by omega) ?_
  exact lp L 0 (by omega) (by omega) _ _ _ hP hD hS hl
set_option maxHeartbeats 4000000 in
set_option maxRecDepth 100000 in
theorem kt_X10_keep (l : Launch) (D : va_G) (cy : Nat → ClassId) (a_this a_from a_to a_form a_rule a_used a_number a_kind a_hasMany a_hadMany a_has a_had a_path a_steps a_queue a_gone a_under a_twin a_olds a_more a_known a_waiting a_kept a_levelAt : Nat) (v_this_thrown v_this_links v_this_objects v_this_numbers v_this_pathMany v_this_levels v_this_readAt : Int) (k : Nat) (f : Nat → Int) (n : Nat) (v : Int) (hn : n ≤ kp_L k) (h9 : (kp_1 (k, f, n) v).1 ≤ 9) :
    tl_MC l D (tl_tys cy) yX10_keep (tl_w yX10_keep cX10_keep 2 none) { frames := 1, cells := (kp_1 (k, f, n) v).1 - k, slots := 2 * kp_L (kp_1 (k, f, n) v).1 - 2 * kp_L k, locals := 22 } [.ref a_this, .int (tl_I v)] [tl_ob a_this 11 [.int (tl_I v_this_thrown), .ref a_from, .ref a_to, .ref a_form, .ref a_rule, .int (tl_I v_this_links), .ref a_used, .ref a_number, .ref a_kind, .int (tl_I v_this_objects), .int (tl_I v_this_numbers), .ref a_hasMany, .ref a_hadMany, .ref a_has, .ref a_had, .ref a_path, .int (tl_I v_this_pathMany), .ref a_steps, .ref a_queue, .ref a_gone, .ref a_under, .ref a_twin, .ref a_olds, .ref a_more, .ref a_known, .ref a_waiting, .ref a_kept, .int (tl_I ((n : Nat) : Int)), .int (tl_I v_this_levels), .ref a_levelAt, .int (tl_I v_this_readAt)], tl_ia (cy 1) a_kept (kp_L k) f] ((kp_1 (k, f, n) v).1 - k) (2 * kp_L (kp_1 (k, f, n) v).1 - 2 * kp_L k) (fun r w1 => ∃ a_b : Nat, r = none ∧ w1 = [tl_ob a_this 11 [.int (tl_I v_this_thrown), .ref a_from, .ref a_to, .ref a_form, .ref a_rule, .int (tl_I v_this_links), .ref a_used, .ref a_number, .ref a_kind, .int (tl_I v_this_objects), .int (tl_I v_this_numbers), .ref a_hasMany, .ref a_hadMany, .ref a_has, .ref a_had, .ref a_path, .int (tl_I v_this_pathMany), .ref a_steps, .ref a_queue, .ref a_gone, .ref a_under, .ref a_twin, .ref a_olds, .ref a_more, .ref a_known, .ref a_waiting, .ref a_b, .int (tl_I (((n + 1 : Nat)) : Int)), .int (tl_I v_this_levels), .ref a_levelAt, .int (tl_I v_this_readAt)], tl_ia (cy 1) a_b (kp_L (kp_1 (k, f, n) v).1) (kp_1 (k, f, n) v).2.1]) := by
  refine tl_ofW (cc := cX10_keep) (maxL := 2) (ret := none) (by decide +kernel) (Nat.le_of_ble_eq_true rfl) ?_
  intro p e s m below meth c hx hb hr hml hts hown hlocks hnm A hAe hA hP hK hD hS ls hl
  have hl : lv_has ls 2 [(0, .ref a_this), (1, .int (tl_I v))] := hl
  have hk : k ≤ 9 := Nat.le_trans (kp_1_le (k, f, n) v) h9
  have hkL := kp_L9 hk
  have hpos := kp_L_pos k
  refine lv_aload_n hx hb dX10_keep_0 rfl (lv_at hl 0 rfl) ?_
  refine va_get (ci := 11) (v := .int (tl_I ((n : Nat) : Int))) (C := RX10) (T := TX10) (N := 31) hx hb hts in_X10 hown hK hP 0 rfl rfl 27 (by decide) (hts _ tw_1015) (fun _ h9 => h9) rfl dX10_keep_1 ?_
  refine lv_aload_n hx hb dX10_keep_4 rfl (lv_at hl 0 rfl) ?_
  refine va_get (ci := 11) (v := .ref a_kept) (C := RX10) (T := TX10) (N := 31) hx hb hts in_X10 hown hK hP 0 rfl rfl 26 (by decide) (hts _ tw_1014) (fun _ h9 => h9) rfl dX10_keep_5 ?_
  refine va_alen (v := tl_I ((kp_L k : Nat) : Int)) hx hb hK hP 1 1 rfl rfl (tl_nat _) dX10_keep_8 ?_
  refine ts_ne (tgt := 23) hx hb ⟨⟨by omega, by omega⟩, ⟨by omega, by omega⟩⟩ dX10_keep_9 (by decide) (fun hc => ?_) (fun hc => ?_)
  · have hc : n = kp_L k := by omega
    have ez : (kp_1 (k, f, n) v) = (k + 1, va_up (kp_g f (kp_L k)) n v, n + 1) := by unfold kp_1; rw [if_pos hc]
    rw [ez]
    rw [ez] at h9
    have hs := kp_L_succ k
    have h92 := kp_L9 h9
    dsimp only at h9 h92 ⊢
    refine lv_aload_n hx hb dX10_keep_12 rfl (lv_at hl 0 rfl) ?_
    refine lv_aload_n hx hb dX10_keep_13 rfl (lv_at hl 0 rfl) ?_
    refine va_get (ci := 11) (v := .ref a_kept) (C := RX10) (T := TX10) (N := 31) hx hb hts in_X10 hown hK hP 0 rfl rfl 26 (by decide) (hts _ tw_1014) (fun _ h9 => h9) rfl dX10_keep_14 ?_
    refine tl_callS (As := [.ref a_kept]) (rest := [.ref a_this]) (wr := [tl_ob a_this 11 [.int (tl_I v_this_thrown), .ref a_from, .ref a_to, .ref a_form, .ref a_rule, .int (tl_I v_this_links), .ref a_used, .ref a_number, .ref a_kind, .int (tl_I v_this_objects), .int (tl_I v_this_numbers), .ref a_hasMany, .ref a_hadMany, .ref a_has, .ref a_had, .ref a_path, .int (tl_I v_this_pathMany), .ref a_steps, .ref a_queue, .ref a_gone, .ref a_under, .ref a_twin, .ref a_olds, .ref a_more, .ref a_known, .ref a_waiting, .ref a_kept, .int (tl_I ((n : Nat) : Int)), .int (tl_I v_this_levels), .ref a_levelAt, .int (tl_I v_this_readAt)]]) ⟨hx, hb, hml, hown, hts⟩ (kt_X10_longer l D cy a_kept (kp_L k) f (by omega)) (va_cwS 1 hts tg_X10_200 rfl rfl rfl td_X10_longer ⟨Nat.le_refl _, Nat.le_refl _⟩) hK hP hD hS hA [1] [0] rfl rfl rfl rfl (by decide) rfl hl.1 rfl (Nat.le_of_ble_eq_true rfl) dX10_keep_17 ⟨show 0 + 1 ≤ k + 1 - k by omega, show 0 + 2 * kp_L k ≤ 2 * kp_L (k + 1) - 2 * kp_L k by omega⟩ (fun r w1 H locs hp hP hD hS => ?_)
    obtain ⟨a_b, rfl, rfl⟩ := hp
    have hP : va_P D vwCl [tl_ob a_this 11 [.int (tl_I v_this_thrown), .ref a_from, .ref a_to, .ref a_form, .ref a_rule, .int (tl_I v_this_links), .ref a_used, .ref a_number, .ref a_kind, .int (tl_I v_this_objects), .int (tl_I v_this_numbers), .ref a_hasMany, .ref a_hadMany, .ref a_has, .ref a_had, .ref a_path, .int (tl_I v_this_pathMany), .ref a_steps, .ref a_queue, .ref a_gone, .ref a_under, .ref a_twin, .ref a_olds, .ref a_more, .ref a_known, .ref a_waiting, .ref a_kept, .int (tl_I ((n : Nat) : Int)), .int (tl_I v_this_levels), .ref a_levelAt, .int (tl_I v_this_readAt)], tl_ia (cy 1) a_kept (kp_L k) f, tl_ia (cy 1) a_b (2 * kp_L k) (kp_g f (kp_L k))] H := hP
    have hD : va_D A [tl_ob a_this 11 [.int (tl_I v_this_thrown), .ref a_from, .ref a_to, .ref a_form, .ref a_rule, .int (tl_I v_this_links), .ref a_used, .ref a_number, .ref a_kind, .int (tl_I v_this_objects), .int (tl_I v_this_numbers), .ref a_hasMany, .ref a_hadMany, .ref a_has, .ref a_had, .ref a_path, .int (tl_I v_this_pathMany), .ref a_steps, .ref a_queue, .ref a_gone, .ref a_under, .ref a_twin, .ref a_olds, .ref a_more, .ref a_known, .ref a_waiting, .ref a_kept, .int (tl_I ((n : Nat) : Int)), .int (tl_I v_this_levels), .ref a_levelAt, .int (tl_I v_this_readAt)], tl_ia (cy 1) a_kept (kp_L k) f, tl_ia (cy 1) a_b (2 * kp_L k) (kp_g f (kp_L k))] := hD
    refine W.eq (g2 := F0 m 20 ls [.ref a_b, .ref a_this]) rfl ?_
    refine va_put (ci := 11) (v := .ref a_b) (ty := .array .int) (C := RX10) (T := TX10) (N := 31) hx hb hts in_X10 tyX10 tyX10_ok nmX10 hown hK hP hD hS 0 rfl rfl 26 (by decide) (hts _ tw_1014) (fun _ h9 => h9) rfl (by decide +kernel) rfl rfl (Nat.le_of_ble_eq_true rfl) dX10_keep_20 (fun H locs hP hD hS => ?_)
    have hP : va_P D vwCl [tl_ob a_this 11 [.int (tl_I v_this_thrown), .ref a_from, .ref a_to, .ref a_form, .ref a_rule, .int (tl_I v_this_links), .ref a_used, .ref a_number, .ref a_kind, .int (tl_I v_this_objects), .int (tl_I v_this_numbers), .ref a_hasMany, .ref a_hadMany, .ref a_has, .ref a_had, .ref a_path, .int (tl_I v_this_pathMany), .ref a_steps, .ref a_queue, .ref a_gone, .ref a_under, .ref a_twin, .ref a_olds, .ref a_more, .ref a_known, .ref a_waiting, .ref a_b, .int (tl_I ((n : Nat) : Int)), .int (tl_I v_this_levels), .ref a_levelAt, .int (tl_I v_this_readAt)], tl_ia (cy 1) a_kept (kp_L k) f, tl_ia (cy 1) a_b (2 * kp_L k) (kp_g f (kp_L k))] H := hP
    have hD : va_D A [tl_ob a_this 11 [.int (tl_I v_this_thrown), .ref a_from, .ref a_to, .ref a_form, .ref a_rule, .int (tl_I v_this_links), .ref a_used, .ref a_number, .ref a_kind, .int (tl_I v_this_objects), .int (tl_I v_this_numbers), .ref a_hasMany, .ref a_hadMany, .ref a_has, .ref a_had, .ref a_path, .int (tl_I v_this_pathMany), .ref a_steps, .ref a_queue, .ref a_gone, .ref a_under, .ref a_twin, .ref a_olds, .ref a_more, .ref a_known, .ref a_waiting, .ref a_b, .int (tl_I ((n : Nat) : Int)), .int (tl_I v_this_levels), .ref a_levelAt, .int (tl_I v_this_readAt)], tl_ia (cy 1) a_kept (kp_L k) f, tl_ia (cy 1) a_b (2 * kp_L k) (kp_g f (kp_L k))] := hD
    refine W.widen (k := k + 1 - k) (n := 2 * kp_L (k + 1) - 2 * kp_L k) (by omega) (by omega) ?_
    refine lv_aload_n hx hb dX10_keep_23 rfl (lv_at hl 0 rfl) ?_
    refine va_get (ci := 11) (v := .ref a_b) (C := RX10) (T := TX10) (N := 31) hx hb hts in_X10 hown hK hP 0 rfl rfl 26 (by decide) (hts _ tw_1014) (fun _ h9 => h9) rfl dX10_keep_24 ?_
    refine lv_aload_n hx hb dX10_keep_27 rfl (lv_at hl 0 rfl) ?_
    refine va_get (ci := 11) (v := .int (tl_I ((n : Nat) : Int))) (C := RX10) (T := TX10) (N := 31) hx hb hts in_X10 hown hK hP 0 rfl rfl 27 (by decide) (hts _ tw_1015) (fun _ h9 => h9) rfl dX10_keep_28 ?_
    refine lv_iload_n hx hb dX10_keep_31 rfl (lv_at hl 1 rfl) ?_
    refine ts_iast hx hb ⟨by omega, by omega⟩ hK hP hD hS 2 1 rfl rfl (by omega) dX10_keep_32 (fun H locs hP hD hS => ?_)
    rw [show ((n : Nat) : Int).toNat = n by omega] at hP hD
    have hP : va_P D vwCl [tl_ob a_this 11 [.int (tl_I v_this_thrown), .ref a_from, .ref a_to, .ref a_form, .ref a_rule, .int (tl_I v_this_links), .ref a_used, .ref a_number, .ref a_kind, .int (tl_I v_this_objects), .int (tl_I v_this_numbers), .ref a_hasMany, .ref a_hadMany, .ref a_has, .ref a_had, .ref a_path, .int (tl_I v_this_pathMany), .ref a_steps, .ref a_queue, .ref a_gone, .ref a_under, .ref a_twin, .ref a_olds, .ref a_more, .ref a_known, .ref a_waiting, .ref a_b, .int (tl_I ((n : Nat) : Int)), .int (tl_I v_this_levels), .ref a_levelAt, .int (tl_I v_this_readAt)], tl_ia (cy 1) a_kept (kp_L k) f, tl_ia (cy 1) a_b (2 * kp_L k) (va_up (kp_g f (kp_L k)) n v)] H := hP
    have hD : va_D A [tl_ob a_this 11 [.int (tl_I v_this_thrown), .ref a_from, .ref a_to, .ref a_form, .ref a_rule, .int (tl_I v_this_links), .ref a_used, .ref a_number, .ref a_kind, .int (tl_I v_this_objects), .int (tl_I v_this_numbers), .ref a_hasMany, .ref a_hadMany, .ref a_has, .ref a_had, .ref a_path, .int (tl_I v_this_pathMany), .ref a_steps, .ref a_queue, .ref a_gone, .ref a_under, .ref a_twin, .ref a_olds, .ref a_more, .ref a_known, .ref a_waiting, .ref a_b, .int (tl_I ((n : Nat) : Int)), .int (tl_I v_this_levels), .ref a_levelAt, .int (tl_I v_this_readAt)], tl_ia (cy 1) a_kept (kp_L k) f, tl_ia (cy 1) a_b (2 * kp_L k) (va_up (kp_g f (kp_L k)) n v)] := hD
    refine lv_aload_n hx hb dX10_keep_33 rfl (lv_at hl 0 rfl) ?_
    refine lv_dup hx hb dX10_keep_34 rfl ?_
    refine va_get (ci := 11) (v := .int (tl_I ((n : Nat) : Int))) (C := RX10) (T := TX10) (N := 31) hx hb hts in_X10 hown hK hP 0 rfl rfl 27 (by decide) (hts _ tw_1015) (fun _ h9 => h9) rfl dX10_keep_35 ?_
    refine lv_iconst (v := tl_I (1 : Int)) hx hb dX10_keep_38 rfl ?_
    refine tr_iadd hx hb dX10_keep_39 ?_
    rw [show ((n : Nat) : Int) + (1 : Int) = ((n + 1 : Nat) : Int) by omega]
    refine va_put (ci := 11) (v := .int (tl_I ((n + 1 : Nat) : Int))) (ty := .int) (C := RX10) (T := TX10) (N := 31) hx hb hts in_X10 tyX10 tyX10_ok nmX10 hown hK hP hD hS 0 rfl rfl 27 (by decide) (hts _ tw_1015) (fun _ h9 => h9) rfl (by decide +kernel) rfl rfl (Nat.le_of_ble_eq_true rfl) dX10_keep_40 (fun H locs hP hD hS => ?_)
    have hP : va_P D vwCl [tl_ob a_this 11 [.int (tl_I v_this_thrown), .ref a_from, .ref a_to, .ref a_form, .ref a_rule, .int (tl_I v_this_links), .ref a_used, .ref a_number, .ref a_kind, .int (tl_I v_this_objects), .int (tl_I v_this_numbers), .ref a_hasMany, .ref a_hadMany, .ref a_has, .ref a_had, .ref a_path, .int (tl_I v_this_pathMany), .ref a_steps, .ref a_queue, .ref a_gone, .ref a_under, .ref a_twin, .ref a_olds, .ref a_more, .ref a_known, .ref a_waiting, .ref a_b, .int (tl_I ((n + 1 : Nat) : Int)), .int (tl_I v_this_levels), .ref a_levelAt, .int (tl_I v_this_readAt)], tl_ia (cy 1) a_kept (kp_L k) f, tl_ia (cy 1) a_b (2 * kp_L k) (va_up (kp_g f (kp_L k)) n v)] H := hP
    have hD : va_D A [tl_ob a_this 11 [.int (tl_I v_this_thrown), .ref a_from, .ref a_to, .ref a_form, .ref a_rule, .int (tl_I v_this_links), .ref a_used, .ref a_number, .ref a_kind, .int (tl_I v_this_objects), .int (tl_I v_this_numbers), .ref a_hasMany, .ref a_hadMany, .ref a_has, .ref a_had, .ref a_path, .int (tl_I v_this_pathMany), .ref a_steps, .ref a_queue, .ref a_gone, .ref a_under, .ref a_twin, .ref a_olds, .ref a_more, .ref a_known, .ref a_waiting, .ref a_b, .int (tl_I ((n + 1 : Nat) : Int)), .int (tl_I v_this_levels), .ref a_levelAt, .int (tl_I v_this_readAt)], tl_ia (cy 1) a_kept (kp_L k) f, tl_ia (cy 1) a_b (2 * kp_L k) (va_up (kp_g f (kp_L k)) n v)] := hD
    exact W.vret hx hb hr (fun t ht hW => tl_fin hAe ⟨a_b, rfl, by rw [hs]⟩ (hP.sub (ws' := [tl_ob a_this 11 [.int (tl_I v_this_thrown), .ref a_from, .ref a_to, .ref a_form, .ref a_rule, .int (tl_I v_this_links), .ref a_used, .ref a_number, .ref a_kind, .int (tl_I v_this_objects), .int (tl_I v_this_numbers), .ref a_hasMany, .ref a_hadMany, .ref a_has, .ref a_had, .ref a_path, .int (tl_I v_this_pathMany), .ref a_steps, .ref a_queue, .ref a_gone, .ref a_under, .ref a_twin, .ref a_olds, .ref a_more, .ref a_known, .ref a_waiting, .ref a_b, .int (tl_I ((n + 1 : Nat) : Int)), .int (tl_I v_this_levels), .ref a_levelAt, .int (tl_I v_this_readAt)], tl_ia (cy 1) a_b (2 * kp_L k) (va_up (kp_g f (kp_L k)) n v)]) [0, 2] rfl) hK (hD.sub (ws' := [tl_ob a_this 11 [.int (tl_I v_this_thrown), .ref a_from, .ref a_to, .ref a_form, .ref a_rule, .int (tl_I v_this_links), .ref a_used, .ref a_number, .ref a_kind, .int (tl_I v_this_objects), .int (tl_I v_this_numbers), .ref a_hasMany, .ref a_hadMany, .ref a_has, .ref a_had, .ref a_path, .int (tl_I v_this_pathMany), .ref a_steps, .ref a_queue, .ref a_gone, .ref a_under, .ref a_twin, .ref a_olds, .ref a_more, .ref a_known, .ref a_waiting, .ref a_b, .int (tl_I ((n + 1 : Nat) : Int)), .int (tl_I v_this_levels), .ref a_levelAt, .int (tl_I v_this_readAt)], tl_ia (cy 1) a_b (2 * kp_L k) (va_up (kp_g f (kp_L k)) n v)]) [0, 2] (by decide) rfl) hS ht hW) hS.2.2 dX10_keep_43
  · have hc : ¬ n = kp_L k := by omega
    have ez : (kp_1 (k, f, n) v) = (k, va_up f n v, n + 1) := by unfold kp_1; rw [if_neg hc]
    rw [ez]
    dsimp only
    refine lv_aload_n hx hb dX10_keep_23 rfl (lv_at hl 0 rfl) ?_
    refine va_get (ci := 11) (v := .ref a_kept) (C := RX10) (T := TX10) (N := 31) hx hb hts in_X10 hown hK hP 0 rfl rfl 26 (by decide) (hts _ tw_1014) (fun _ h9 => h9) rfl dX10_keep_24 ?_
    refine lv_aload_n hx hb dX10_keep_27 rfl (lv_at hl 0 rfl) ?_
    refine va_get (ci := 11) (v := .int (tl_I ((n : Nat) : Int))) (C := RX10) (T := TX10) (N := 31) hx hb hts in_X10 hown hK hP 0 rfl rfl 27 (by decide) (hts _ tw_1015) (fun _ h9 => h9) rfl dX10_keep_28 ?_
    refine lv_iload_n hx hb dX10_keep_31 rfl (lv_at hl 1 rfl) ?_
    refine ts_iast hx hb ⟨by omega, by omega⟩ hK hP hD hS 1 1 rfl rfl (by omega) dX10_keep_32 (fun H locs hP hD hS => ?_)
    rw [show ((n : Nat) : Int).toNat = n by omega] at hP hD
    have hP : va_P D vwCl [tl_ob a_this 11 [.int (tl_I v_this_thrown), .ref a_from, .ref a_to, .ref a_form, .ref a_rule, .int (tl_I v_this_links), .ref a_used, .ref a_number, .ref a_kind, .int (tl_I v_this_objects), .int (tl_I v_this_numbers), .ref a_hasMany, .ref a_hadMany, .ref a_has, .ref a_had, .ref a_path, .int (tl_I v_this_pathMany), .ref a_steps, .ref a_queue, .ref a_gone, .ref a_under, .ref a_twin, .ref a_olds, .ref a_more, .ref a_known, .ref a_waiting, .ref a_kept, .int (tl_I ((n : Nat) : Int)), .int (tl_I v_this_levels), .ref a_levelAt, .int (tl_I v_this_readAt)], tl_ia (cy 1) a_kept (kp_L k) (va_up (f) n v)] H := hP
    have hD : va_D A [tl_ob a_this 11 [.int (tl_I v_this_thrown), .ref a_from, .ref a_to, .ref a_form, .ref a_rule, .int (tl_I v_this_links), .ref a_used, .ref a_number, .ref a_kind, .int (tl_I v_this_objects), .int (tl_I v_this_numbers), .ref a_hasMany, .ref a_hadMany, .ref a_has, .ref a_had, .ref a_path, .int (tl_I v_this_pathMany), .ref a_steps, .ref a_queue, .ref a_gone, .ref a_under, .ref a_twin, .ref a_olds, .ref a_more, .ref a_known, .ref a_waiting, .ref a_kept, .int (tl_I ((n : Nat) : Int)), .int (tl_I v_this_levels), .ref a_levelAt, .int (tl_I v_this_readAt)], tl_ia (cy 1) a_kept (kp_L k) (va_up (f) n v)] := hD
    refine lv_aload_n hx hb dX10_keep_33 rfl (lv_at hl 0 rfl) ?_
    refine lv_dup hx hb dX10_keep_34 rfl ?_
    refine va_get (ci := 11) (v := .int (tl_I ((n : Nat) : Int))) (C := RX10) (T := TX10) (N := 31) hx hb hts in_X10 hown hK hP 0 rfl rfl 27 (by decide) (hts _ tw_1015) (fun _ h9 => h9) rfl dX10_keep_35 ?_
    refine lv_iconst (v := tl_I (1 : Int)) hx hb dX10_keep_38 rfl ?_
    refine tr_iadd hx hb dX10_keep_39 ?_
    rw [show ((n : Nat) : Int) + (1 : Int) = ((n + 1 : Nat) : Int) by omega]
    refine va_put (ci := 11) (v := .int (tl_I ((n + 1 : Nat) : Int))) (ty := .int) (C := RX10) (T := TX10) (N := 31) hx hb hts in_X10 tyX10 tyX10_ok nmX10 hown hK hP hD hS 0 rfl rfl 27 (by decide) (hts _ tw_1015) (fun _ h9 => h9) rfl (by decide +kernel) rfl rfl (Nat.le_of_ble_eq_true rfl) dX10_keep_40 (fun H locs hP hD hS => ?_)
    have hP : va_P D vwCl [tl_ob a_this 11 [.int (tl_I v_this_thrown), .ref a_from, .ref a_to, .ref a_form, .ref a_rule, .int (tl_I v_this_links), .ref a_used, .ref a_number, .ref a_kind, .int (tl_I v_this_objects), .int (tl_I v_this_numbers), .ref a_hasMany, .ref a_hadMany, .ref a_has, .ref a_had, .ref a_path, .int (tl_I v_this_pathMany), .ref a_steps, .ref a_queue, .ref a_gone, .ref a_under, .ref a_twin, .ref a_olds, .ref a_more, .ref a_known, .ref a_waiting, .ref a_kept, .int (tl_I ((n + 1 : Nat) : Int)), .int (tl_I v_this_levels), .ref a_levelAt, .int (tl_I v_this_readAt)], tl_ia (cy 1) a_kept (kp_L k) (va_up (f) n v)] H := hP
    have hD : va_D A [tl_ob a_this 11 [.int (tl_I v_this_thrown), .ref a_from, .ref a_to, .ref a_form, .ref a_rule, .int (tl_I v_this_links), .ref a_used, .ref a_number, .ref a_kind, .int (tl_I v_this_objects), .int (tl_I v_this_numbers), .ref a_hasMany, .ref a_hadMany, .ref a_has, .ref a_had, .ref a_path, .int (tl_I v_this_pathMany), .ref a_steps, .ref a_queue, .ref a_gone, .ref a_under, .ref a_twin, .ref a_olds, .ref a_more, .ref a_known, .ref a_waiting, .ref a_kept, .int (tl_I ((n + 1 : Nat) : Int)), .int (tl_I v_this_levels), .ref a_levelAt, .int (tl_I v_this_readAt)], tl_ia (cy 1) a_kept (kp_L k) (va_up (f) n v)] := hD
    exact W.widen (Nat.zero_le _) (Nat.zero_le _) (W.vret hx hb hr (fun t ht hW => tl_fin hAe ⟨a_kept, rfl, rfl⟩ (hP.sub (ws' := [tl_ob a_this 11 [.int (tl_I v_this_thrown), .ref a_from, .ref a_to, .ref a_form, .ref a_rule, .int (tl_I v_this_links), .ref a_used, .ref a_number, .ref a_kind, .int (tl_I v_this_objects), .int (tl_I v_this_numbers), .ref a_hasMany, .ref a_hadMany, .ref a_has, .ref a_had, .ref a_path, .int (tl_I v_this_pathMany), .ref a_steps, .ref a_queue, .ref a_gone, .ref a_under, .ref a_twin, .ref a_olds, .ref a_more, .ref a_known, .ref a_waiting, .ref a_kept, .int (tl_I ((n + 1 : Nat) : Int)), .int (tl_I v_this_levels), .ref a_levelAt, .int (tl_I v_this_readAt)], tl_ia (cy 1) a_kept (kp_L k) (va_up (f) n v)]) [0, 1] rfl) hK (hD.sub (ws' := [tl_ob a_this 11 [.int (tl_I v_this_thrown), .ref a_from, .ref a_to, .ref a_form, .ref a_rule, .int (tl_I v_this_links), .ref a_used, .ref a_number, .ref a_kind, .int (tl_I v_this_objects), .int (tl_I v_this_numbers), .ref a_hasMany, .ref a_hadMany, .ref a_has, .ref a_had, .ref a_path, .int (tl_I v_this_pathMany), .ref a_steps, .ref a_queue, .ref a_gone, .ref a_under, .ref a_twin, .ref a_olds, .ref a_more, .ref a_known, .ref a_waiting, .ref a_kept, .int (tl_I ((n + 1 : Nat) : Int)), .int (tl_I v_this_levels), .ref a_levelAt, .int (tl_I v_this_readAt)], tl_ia (cy 1) a_kept (kp_L k) (va_up (f) n v)]) [0, 1] (by decide) rfl) hS ht hW) hS.2.2 dX10_keep_43)
