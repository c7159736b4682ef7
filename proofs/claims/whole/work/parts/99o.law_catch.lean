/-! the law's methods that catch what the class throws -/
theorem tw_302 : (.classLink RL 13 "java/lang/IllegalArgumentException" : Cond) ∈ tl_T := tl_tin 302 (by decide +kernel) rfl
theorem tw_303 : (.classLink RL 15 "java/lang/IllegalStateException" : Cond) ∈ tl_T := tl_tin 303 (by decide +kernel) rfl
theorem tw_429 : (.classLink RL 24 "java/util/NoSuchElementException" : Cond) ∈ tl_T := tl_tin 429 (by decide +kernel) rfl
theorem tw_430 : (.classLink RL 26 "java/lang/ClassCastException" : Cond) ∈ tl_T := tl_tin 430 (by decide +kernel) rfl
theorem tw_431 : (.classLink RL 28 "java/lang/UnsupportedOperationException" : Cond) ∈ tl_T := tl_tin 431 (by decide +kernel) rfl
theorem tw_432 : (.classLink RL 30 "java/lang/IndexOutOfBoundsException" : Cond) ∈ tl_T := tl_tin 432 (by decide +kernel) rfl
section RowsC
variable {p : Program} {l : Launch} {e : Env} {R : Room} {s : State} {m : MethodId} {args : Array Value} {below : List Frame} {meth : Method} {c : Code} {H : Heap} {locs : List Loc} {cells slots : Nat} {Q : State → Prop}
variable {mc ms : Nat} {free : Addr → Prop} {A0 A1 : Nat → Prop} {H0 : Heap} {a : Array Value} {pc : Nat} {ls : Array Slot} {st0 rest : List Value}
/-- caught by the row x of this method's table; the rows ahead don't take it -/
theorem vx_catch2 {own name : String} {E : String} {ce : Cell} {q : Addr} (hown : s.vm.findClass own = some m.cls) (pre : List ExceptionTableEntry) (x : ExceptionTableEntry) (suf : List ExceptionTableEntry) (hsplit : c.exceptionTable.toList = pre ++ x :: suf)
    (hpass : ∀ z ∈ pre, covers z pc = false ∨ (z.catchType ≠ 0 ∧ ∃ nm : String, (Cond.classLink own z.catchType nm).before args s = true ∧ va_Nc E nm s)) (hx : covers x pc = true) (h0 : x.catchType ≠ 0)
    (hlink : (Cond.classLink own x.catchType name).before args s = true) (hcast : va_Cs E name s) (hcell : H[q]? = some ce) (hv : ce.vm = .none) (hcl : s.vm.findClass E = some ce.cls)
    (kk : W p l e R s m args below meth c H locs cells slots Q (F0 m x.handlerPc ls [.ref q])) : vx_W p l e R s m args below meth c H locs cells slots Q (F0 m pc ls rest) q := by
  intro T hT X
  have hpl : e.platform.magicAccessors = ({} : Platform).magicAccessors := by rw [X.admits.platform]
  obtain ⟨c3, c4, hc3, hc4, hasg⟩ := hcast
  cases Option.some.inj (hc3.symm.trans hcl)
  obtain ⟨c5, hc5, hcl5⟩ := Cond.classLink_spec hown hlink e.platform hpl
  cases Option.some.inj (hc4.symm.trans hc5)
  obtain ⟨vm', X', st⟩ := X.thenCaughtThrough q (g := F0 m pc ls rest) rfl (Steps.refl _) (by rw [hT]; exact hcell) (by rw [hv]; rfl) (by obtain ⟨k9, h9, -⟩ := Vm.findClass_spec hcl; exact ⟨k9, h9⟩) pre x suf hsplit
    (fun z hz => by
      rcases hpass z hz with h | ⟨hz0, nm, hl1, hn1⟩
      · exact Or.inl h
      · obtain ⟨c6, hc6, hcl6⟩ := Cond.classLink_spec hown hl1 e.platform hpl
        obtain ⟨a8, b8, h1, h2, h3⟩ := hn1
        cases Option.some.inj (h1.symm.trans hcl)
        cases Option.some.inj (h2.symm.trans hc6)
        exact Or.inr ⟨hz0, _, hcl6, h3⟩) hx (Or.inr ⟨h0, c4, hcl5, hasg⟩)
  obtain ⟨t, a1, b1⟩ := kk (T.setVm vm') hT X'
  exact ⟨t, st.trans a1, b1⟩
end RowsC
theorem tl_gSH {own : String} {idx : Nat} {y : MethodName} {cc : ByteArray} {maxL : Nat} {ret : Option FieldType} {hh : List (Nat × Nat × Nat × Nat)} (h1 : Cond.methodLink own idx y ∈ tl_T) (h2 : Cond.static y ∈ tl_T) (h4 : Cond.initialized y.cls ∈ tl_T) (h5 : Cond.codeWith y cc maxL ret hh ∈ tl_T) : GoodIn tl_T (va_wsS own idx y (tl_wH y cc maxL ret hh)) := by
  intro w hw
  unfold va_wsS at hw
  rcases List.mem_append.mp hw with h | h
  · simp only [List.mem_cons, List.not_mem_nil, or_false] at h
    rcases h with rfl | rfl | rfl
    · exact tl_tgood h1
    · exact tl_tgood h2
    · exact tl_tgood h4
  · rcases List.mem_cons.mp h with rfl | h
    · exact tl_tgood h5
    · exact tl_tgood h
def lw_po (cy : Nat → ClassId) (a_out : Nat) (o : Nat → Int64) (st : Int32 → Int64) (lf : Nat → Int) (post : Option Value → va_W → Prop) (px : String → va_W → Prop) : Option Value → va_W → Prop := fun v w1 =>
  (∃ (r : Int) (w2 : va_W), post (some (.int (tl_I r))) w2 ∧ v = some (.int (tl_I 0)) ∧ w1 = tl_ja (cy 2) a_out 1 (va_up o 0 (st (tl_I r))) :: w2) ∨ ∃ (k : Nat) (w2 : va_W), px (tl_ex k) w2 ∧ 0 < lf k ∧ v = some (.int (tl_I (lf k))) ∧ w1 = tl_ja (cy 2) a_out 1 o :: w2
theorem lf_link_c {k : Nat} (h : 0 < lf_link k) : k = 0 ∨ k = 5 := by
  rcases k with _ | _ | _ | _ | _ | _ | k <;> first | omega | exact absurd h (by decide) | exact absurd h (by show ¬ (0 : Int) < 0; decide)
theorem lf_at_c {k : Nat} (h : 0 < lf_at k) : k = 0 ∨ k = 1 ∨ k = 2 ∨ k = 4 := by
  rcases k with _ | _ | _ | _ | _ | _ | k <;> first | omega | exact absurd h (by decide) | exact absurd h (by show ¬ (0 : Int) < 0; decide)
theorem lf_cut_c {k : Nat} (h : 0 < lf_cut k) : k = 0 ∨ k = 1 ∨ k = 2 := by
  rcases k with _ | _ | _ | _ | _ | _ | k <;> first | omega | exact absurd h (by decide) | exact absurd h (by show ¬ (0 : Int) < 0; decide)
theorem lf_ask_c {k : Nat} (h : 0 < lf_ask k) : k = 0 ∨ k = 1 := by
  rcases k with _ | _ | _ | _ | _ | _ | k <;> first | omega | exact absurd h (by decide) | exact absurd h (by show ¬ (0 : Int) < 0; decide)
theorem lf_path_c {k : Nat} (h : 0 < lf_path k) : k = 4 := by
  rcases k with _ | _ | _ | _ | _ | _ | k <;> first | omega | exact absurd h (by decide) | exact absurd h (by show ¬ (0 : Int) < 0; decide)
theorem lf_count_c {k : Nat} (h : 0 < lf_count k) : k = 0 := by
  rcases k with _ | _ | _ | _ | _ | _ | k <;> first | omega | exact absurd h (by decide) | exact absurd h (by show ¬ (0 : Int) < 0; decide)
theorem lf_way_c {k : Nat} (h : 0 < lf_way k) : k = 1 := by
  rcases k with _ | _ | _ | _ | _ | _ | k <;> first | omega | exact absurd h (by decide) | exact absurd h (by show ¬ (0 : Int) < 0; decide)
theorem lf_set_c {k : Nat} (h : 0 < lf_set k) : k = 0 ∨ k = 1 ∨ k = 2 ∨ k = 3 ∨ k = 4 ∨ k = 5 := by
  rcases k with _ | _ | _ | _ | _ | _ | k <;> first | omega | exact absurd h (by decide) | exact absurd h (by show ¬ (0 : Int) < 0; decide)
theorem lf_drop_c {k : Nat} (h : 0 < lf_drop k) : k = 1 ∨ k = 5 := by
  rcases k with _ | _ | _ | _ | _ | _ | k <;> first | omega | exact absurd h (by decide) | exact absurd h (by show ¬ (0 : Int) < 0; decide)
theorem lf_level_c {k : Nat} (h : 0 < lf_level k) : k = 5 := by
  rcases k with _ | _ | _ | _ | _ | _ | k <;> first | omega | exact absurd h (by decide) | exact absurd h (by show ¬ (0 : Int) < 0; decide)
theorem tw_299 : (.methodLink RL 80 yL_link : Cond) ∈ tl_T := tl_tin 299 (by decide +kernel) rfl
theorem tw_300 : (.static yL_link : Cond) ∈ tl_T := tl_tin 300 (by decide +kernel) rfl
theorem tw_301 : (.codeWith yL_link cL_link 7 (some .int) [(0, 14, 17, 13), (0, 14, 21, 15)] : Cond) ∈ tl_T := tl_tin 301 (by decide +kernel) rfl
theorem tw_304 : (.methodLink RL 7 yX9_link : Cond) ∈ tl_T := tl_tin 304 (by decide +kernel) rfl
theorem tw_305 : (.instanceMethod yX9_link : Cond) ∈ tl_T := tl_tin 305 (by decide +kernel) rfl
theorem tw_306 : (.selects RX9 yX9_link yX9_link : Cond) ∈ tl_T := tl_tin 306 (by decide +kernel) rfl
theorem tw_307 : (.code yX9_link cX9_link 5 (some .int) : Cond) ∈ tl_T := tl_tin 307 (by decide +kernel) rfl
theorem tw_59 : (.initialized RL : Cond) ∈ tl_T := tl_tin 59 (by decide +kernel) rfl
theorem td_L_link : yL_link.cls ≠ "java/lang/invoke/MethodHandle" ∧ yL_link.cls ≠ "java/lang/invoke/VarHandle" ∧ (parseMethodDescriptor yL_link.desc).map (fun d => d.parameters.length) = some 6 := by decide +kernel
theorem td_Lx_link : yX9_link.cls = RX9 ∧ yX9_link.cls ≠ "java/lang/invoke/MethodHandle" ∧ yX9_link.cls ≠ "java/lang/invoke/VarHandle" ∧ (parseMethodDescriptor yX9_link.desc).map (fun d => d.parameters.length) = some 4 := by decide +kernel
theorem tg_L_link : GoodIn tl_T (va_wsS RL 80 yL_link (tl_wH yL_link cL_link 7 (some .int) [(0, 14, 17, 13), (0, 14, 21, 15)])) := tl_gSH tw_299 tw_300 tw_59 tw_301
theorem tg_Lx_link : GoodIn tl_T (wsV RL 7 RX9 yX9_link (tl_w yX9_link cX9_link 5 (some .int))) := tl_gV tw_304 tw_305 tw_306 tw_60 tw_307
set_option maxHeartbeats 4000000 in
theorem kt_L_link (l : Launch) (D : va_G) (cy : Nat → ClassId) (sa : Nat → Nat) (a_x a_out : Nat) (p1 : Int) (p2 : Int) (p3 : Int) (p4 : Int) (o : Nat → Int64) (rm : Room) (wc : va_W) (fs : List Value) (mc ms : Nat) (post : Option Value → va_W → Prop) (px : String → va_W → Prop) (hw0 : wc[0]? = some (tl_ob a_x 10 fs)) (hM : tl_MX l D (tl_tys cy) sa yX9_link (tl_w yX9_link cX9_link 5 (some .int)) rm (.ref a_x :: [.int (tl_I p1), .int (tl_I p2), .int (tl_I p3), .int (tl_I p4)]) wc mc ms post px) (hrm : rm.cells = mc ∧ rm.slots = ms ∧ rm.frames ≤ 7 ∧ rm.locals ≤ 160) (hpo : ∀ v w1, post v w1 → ∃ r : Int, v = some (.int (tl_I r))) (hpx : ∀ E w1, px E w1 → ∃ k : Nat, E = tl_ex k ∧ 0 < lf_link k) :
    tl_MY l D (tl_tys cy) sa yL_link (tl_wH yL_link cL_link 7 (some .int) [(0, 14, 17, 13), (0, 14, 21, 15)]) { frames := 8, cells := mc, slots := ms, locals := 200 } [.ref a_x, .int (tl_I p1), .int (tl_I p2), .int (tl_I p3), .int (tl_I p4), .ref a_out] (tl_ja (cy 2) a_out 1 o :: wc) mc ms (lw_po cy a_out o (fun x => x.toInt64) lf_link post px) := by
  refine tl_ofY (cc := cL_link) (maxL := 7) (ret := (some .int)) (hh := [(0, 14, 17, 13), (0, 14, 21, 15)]) (by decide +kernel) (Nat.le_of_ble_eq_true rfl) ?_
  intro p e s m below meth c hx hb hr hml hts hown hlocks htab hE hN A hAe hA hP hK hD hS ls hl
  obtain ⟨hr1, hr2, hr3, hr4⟩ := hrm
  have hE : tl_E sa A s s.heap := by rw [hAe]; exact hE
  have hl : lv_has ls 7 [(0, .ref a_x), (1, .int (tl_I p1)), (2, .int (tl_I p2)), (3, .int (tl_I p3)), (4, .int (tl_I p4)), (5, .ref a_out)] := hl
  refine lv_aload hx hb dL_link_0 (lv_at hl 5 rfl) ?_
  refine lv_iconst (v := tl_I (0 : Int)) hx hb dL_link_2 rfl ?_
  refine lv_aload_n hx hb dL_link_3 rfl (lv_at hl 0 rfl) ?_
  refine lv_iload_n hx hb dL_link_4 rfl (lv_at hl 1 rfl) ?_
  refine lv_iload_n hx hb dL_link_5 rfl (lv_at hl 2 rfl) ?_
  refine lv_iload_n hx hb dL_link_6 rfl (lv_at hl 3 rfl) ?_
  refine lv_iload hx hb dL_link_7 (lv_at hl 4 rfl) ?_
  refine tl_callVXA (As := [.int (tl_I p1), .int (tl_I p2), .int (tl_I p3), .int (tl_I p4)]) (rest := [.int (tl_I (0 : Int)), .ref a_out]) (wc := wc) (wr := [tl_ja (cy 2) a_out 1 o]) ⟨hx, hb, hml, hown, hts⟩ hM (cwV 4 hts tg_Lx_link rfl hr1 hr2 td_Lx_link ⟨by show rm.frames + 1 ≤ 8; omega, by show 8 + (5 + 11) + rm.locals ≤ 200; omega⟩) hE hK (hP.perm (List.perm_append_singleton _ _).symm) (hD.perm (List.perm_append_singleton _ _).symm) hS hA 10 hw0 rfl rfl rfl hl.1 rfl (Nat.le_of_ble_eq_true rfl) dL_link_9 ⟨by show 0 + mc ≤ mc; omega, by show 0 + ms ≤ ms; omega⟩ (fun E ce q9 w1 H locs hp hP hD hS hce hcv hcl => ?_) (fun v w1 H locs hp hP hD hS => ?_)
  · have hP := hP.perm (List.perm_append_singleton _ _)
    have hD := hD.perm (List.perm_append_singleton _ _)
    refine vx_widen (k := mc) (n := ms) (by omega) (by omega) ?_
    obtain ⟨k, rfl, hk⟩ := hpx E w1 hp
    rcases lf_link_c hk with rfl | rfl
    · refine vx_catch2 (name := "java/lang/IllegalArgumentException") hown [] { startPc := 0, endPc := 14, handlerPc := 17, catchType := 13 } [{ startPc := 0, endPc := 14, handlerPc := 21, catchType := 15 }] (by rw [htab]; rfl) (fun z hz => absurd hz List.not_mem_nil) (by decide) (by decide) (hts _ tw_302) (hN.2 0 (by decide)) hce hcv hcl ?_
      refine W.eq (g2 := F0 m 17 ls [.ref q9]) rfl ?_
      refine lv_astore (lv' := [(6, .ref q9), (0, .ref a_x), (1, .int (tl_I p1)), (2, .int (tl_I p2)), (3, .int (tl_I p3)), (4, .int (tl_I p4)), (5, .ref a_out)]) hx hb dL_link_17 hl (by decide) rfl (fun ls hl => ?_)
      refine lv_iconst (v := tl_I (1 : Int)) hx hb dL_link_19 rfl ?_
      exact W.iret (v := tl_I (1 : Int)) hx hb hr (fun t ht hW => tl_fin hAe (Or.inr ⟨0, w1, hp, by decide, rfl, rfl⟩) hP hK hD hS ht hW) hS.2.2 dL_link_20
    · refine vx_catch2 (name := "java/lang/IllegalStateException") hown [{ startPc := 0, endPc := 14, handlerPc := 17, catchType := 13 }] { startPc := 0, endPc := 14, handlerPc := 21, catchType := 15 } [] (by rw [htab]; rfl) (List.forall_mem_cons.mpr ⟨Or.inr ⟨by decide, _, hts _ tw_302, hN.1 5 0 (by decide) (by decide) (by decide)⟩, (fun z hz => absurd hz List.not_mem_nil)⟩) (by decide) (by decide) (hts _ tw_303) (hN.2 5 (by decide)) hce hcv hcl ?_
      refine W.eq (g2 := F0 m 21 ls [.ref q9]) rfl ?_
      refine lv_astore (lv' := [(6, .ref q9), (0, .ref a_x), (1, .int (tl_I p1)), (2, .int (tl_I p2)), (3, .int (tl_I p3)), (4, .int (tl_I p4)), (5, .ref a_out)]) hx hb dL_link_21 hl (by decide) rfl (fun ls hl => ?_)
      refine lv_iconst (v := tl_I (2 : Int)) hx hb dL_link_23 rfl ?_
      exact W.iret (v := tl_I (2 : Int)) hx hb hr (fun t ht hW => tl_fin hAe (Or.inr ⟨5, w1, hp, by decide, rfl, rfl⟩) hP hK hD hS ht hW) hS.2.2 dL_link_24
  · have hP := hP.perm (List.perm_append_singleton _ _)
    have hD := hD.perm (List.perm_append_singleton _ _)
    refine W.widen (k := mc) (n := ms) (by omega) (by omega) ?_
    obtain ⟨r, rfl⟩ := hpo v w1 hp
    refine W.eq (g2 := F0 m 12 ls [.int (tl_I r), .int (tl_I (0 : Int)), .ref a_out]) rfl ?_
    refine lv_i2l (v := (tl_I r).toInt64) hx hb dL_link_12 rfl ?_
    refine ts_last hx hb ⟨by omega, by omega⟩ hK hP hD hS 0 2 rfl rfl (by decide) dL_link_13 (fun H locs hP hD hS => ?_)
    refine lv_goto (tgt := 25) hx hb dL_link_14 (by decide) ?_
    refine lv_iconst (v := tl_I (0 : Int)) hx hb dL_link_25 rfl ?_
    exact W.iret (v := tl_I (0 : Int)) hx hb hr (fun t ht hW => tl_fin hAe (Or.inl ⟨r, w1, hp, rfl, rfl⟩) hP hK hD hS ht hW) hS.2.2 dL_link_26
theorem tw_406 : (.methodLink RL 89 yL_make : Cond) ∈ tl_T := tl_tin 406 (by decide +kernel) rfl
theorem tw_407 : (.static yL_make : Cond) ∈ tl_T := tl_tin 407 (by decide +kernel) rfl
theorem tw_408 : (.codeWith yL_make cL_make 4 (some .int) [(0, 9, 12, 13), (0, 9, 15, 15)] : Cond) ∈ tl_T := tl_tin 408 (by decide +kernel) rfl
theorem tw_409 : (.methodLink RL 17 yX9_make : Cond) ∈ tl_T := tl_tin 409 (by decide +kernel) rfl
theorem tw_410 : (.instanceMethod yX9_make : Cond) ∈ tl_T := tl_tin 410 (by decide +kernel) rfl
theorem tw_411 : (.selects RX9 yX9_make yX9_make : Cond) ∈ tl_T := tl_tin 411 (by decide +kernel) rfl
theorem tw_412 : (.code yX9_make cX9_make 3 (some .int) : Cond) ∈ tl_T := tl_tin 412 (by decide +kernel) rfl
theorem td_L_make : yL_make.cls ≠ "java/lang/invoke/MethodHandle" ∧ yL_make.cls ≠ "java/lang/invoke/VarHandle" ∧ (parseMethodDescriptor yL_make.desc).map (fun d => d.parameters.length) = some 3 := by decide +kernel
theorem td_Lx_make : yX9_make.cls = RX9 ∧ yX9_make.cls ≠ "java/lang/invoke/MethodHandle" ∧ yX9_make.cls ≠ "java/lang/invoke/VarHandle" ∧ (parseMethodDescriptor yX9_make.desc).map (fun d => d.parameters.length) = some 1 := by decide +kernel
theorem tg_L_make : GoodIn tl_T (va_wsS RL 89 yL_make (tl_wH yL_make cL_make 4 (some .int) [(0, 9, 12, 13), (0, 9, 15, 15)])) := tl_gSH tw_406 tw_407 tw_59 tw_408
theorem tg_Lx_make : GoodIn tl_T (wsV RL 17 RX9 yX9_make (tl_w yX9_make cX9_make 3 (some .int))) := tl_gV tw_409 tw_410 tw_411 tw_60 tw_412
set_option maxHeartbeats 4000000 in
theorem kt_L_make (l : Launch) (D : va_G) (cy : Nat → ClassId) (sa : Nat → Nat) (a_x a_out : Nat) (p1 : Int) (o : Nat → Int64) (rm : Room) (wc : va_W) (fs : List Value) (mc ms : Nat) (post : Option Value → va_W → Prop) (px : String → va_W → Prop) (hw0 : wc[0]? = some (tl_ob a_x 10 fs)) (hM : tl_MX l D (tl_tys cy) sa yX9_make (tl_w yX9_make cX9_make 3 (some .int)) rm (.ref a_x :: [.int (tl_I p1)]) wc mc ms post px) (hrm : rm.cells = mc ∧ rm.slots = ms ∧ rm.frames ≤ 7 ∧ rm.locals ≤ 160) (hpo : ∀ v w1, post v w1 → ∃ r : Int, v = some (.int (tl_I r))) (hpx : ∀ E w1, px E w1 → ∃ k : Nat, E = tl_ex k ∧ 0 < lf_link k) :
    tl_MY l D (tl_tys cy) sa yL_make (tl_wH yL_make cL_make 4 (some .int) [(0, 9, 12, 13), (0, 9, 15, 15)]) { frames := 8, cells := mc, slots := ms, locals := 200 } [.ref a_x, .int (tl_I p1), .ref a_out] (tl_ja (cy 2) a_out 1 o :: wc) mc ms (lw_po cy a_out o (fun x => x.toInt64) lf_link post px) := by
  refine tl_ofY (cc := cL_make) (maxL := 4) (ret := (some .int)) (hh := [(0, 9, 12, 13), (0, 9, 15, 15)]) (by decide +kernel) (Nat.le_of_ble_eq_true rfl) ?_
  intro p e s m below meth c hx hb hr hml hts hown hlocks htab hE hN A hAe hA hP hK hD hS ls hl
  obtain ⟨hr1, hr2, hr3, hr4⟩ := hrm
  have hE : tl_E sa A s s.heap := by rw [hAe]; exact hE
  have hl : lv_has ls 4 [(0, .ref a_x), (1, .int (tl_I p1)), (2, .ref a_out)] := hl
  refine lv_aload_n hx hb dL_make_0 rfl (lv_at hl 2 rfl) ?_
  refine lv_iconst (v := tl_I (0 : Int)) hx hb dL_make_1 rfl ?_
  refine lv_aload_n hx hb dL_make_2 rfl (lv_at hl 0 rfl) ?_
  refine lv_iload_n hx hb dL_make_3 rfl (lv_at hl 1 rfl) ?_
  refine tl_callVXA (As := [.int (tl_I p1)]) (rest := [.int (tl_I (0 : Int)), .ref a_out]) (wc := wc) (wr := [tl_ja (cy 2) a_out 1 o]) ⟨hx, hb, hml, hown, hts⟩ hM (cwV 1 hts tg_Lx_make rfl hr1 hr2 td_Lx_make ⟨by show rm.frames + 1 ≤ 8; omega, by show 8 + (3 + 11) + rm.locals ≤ 200; omega⟩) hE hK (hP.perm (List.perm_append_singleton _ _).symm) (hD.perm (List.perm_append_singleton _ _).symm) hS hA 10 hw0 rfl rfl rfl hl.1 rfl (Nat.le_of_ble_eq_true rfl) dL_make_4 ⟨by show 0 + mc ≤ mc; omega, by show 0 + ms ≤ ms; omega⟩ (fun E ce q9 w1 H locs hp hP hD hS hce hcv hcl => ?_) (fun v w1 H locs hp hP hD hS => ?_)
  · have hP := hP.perm (List.perm_append_singleton _ _)
    have hD := hD.perm (List.perm_append_singleton _ _)
    refine vx_widen (k := mc) (n := ms) (by omega) (by omega) ?_
    obtain ⟨k, rfl, hk⟩ := hpx E w1 hp
    rcases lf_link_c hk with rfl | rfl
    · refine vx_catch2 (name := "java/lang/IllegalArgumentException") hown [] { startPc := 0, endPc := 9, handlerPc := 12, catchType := 13 } [{ startPc := 0, endPc := 9, handlerPc := 15, catchType := 15 }] (by rw [htab]; rfl) (fun z hz => absurd hz List.not_mem_nil) (by decide) (by decide) (hts _ tw_302) (hN.2 0 (by decide)) hce hcv hcl ?_
      refine W.eq (g2 := F0 m 12 ls [.ref q9]) rfl ?_
      refine lv_astore_n (lv' := [(3, .ref q9), (0, .ref a_x), (1, .int (tl_I p1)), (2, .ref a_out)]) hx hb dL_make_12 rfl hl (by decide) rfl (fun ls hl => ?_)
      refine lv_iconst (v := tl_I (1 : Int)) hx hb dL_make_13 rfl ?_
      exact W.iret (v := tl_I (1 : Int)) hx hb hr (fun t ht hW => tl_fin hAe (Or.inr ⟨0, w1, hp, by decide, rfl, rfl⟩) hP hK hD hS ht hW) hS.2.2 dL_make_14
    · refine vx_catch2 (name := "java/lang/IllegalStateException") hown [{ startPc := 0, endPc := 9, handlerPc := 12, catchType := 13 }] { startPc := 0, endPc := 9, handlerPc := 15, catchType := 15 } [] (by rw [htab]; rfl) (List.forall_mem_cons.mpr ⟨Or.inr ⟨by decide, _, hts _ tw_302, hN.1 5 0 (by decide) (by decide) (by decide)⟩, (fun z hz => absurd hz List.not_mem_nil)⟩) (by decide) (by decide) (hts _ tw_303) (hN.2 5 (by decide)) hce hcv hcl ?_
      refine W.eq (g2 := F0 m 15 ls [.ref q9]) rfl ?_
      refine lv_astore_n (lv' := [(3, .ref q9), (0, .ref a_x), (1, .int (tl_I p1)), (2, .ref a_out)]) hx hb dL_make_15 rfl hl (by decide) rfl (fun ls hl => ?_)
      refine lv_iconst (v := tl_I (2 : Int)) hx hb dL_make_16 rfl ?_
      exact W.iret (v := tl_I (2 : Int)) hx hb hr (fun t ht hW => tl_fin hAe (Or.inr ⟨5, w1, hp, by decide, rfl, rfl⟩) hP hK hD hS ht hW) hS.2.2 dL_make_17
  · have hP := hP.perm (List.perm_append_singleton _ _)
    have hD := hD.perm (List.perm_append_singleton _ _)
    refine W.widen (k := mc) (n := ms) (by omega) (by omega) ?_
    obtain ⟨r, rfl⟩ := hpo v w1 hp
    refine W.eq (g2 := F0 m 7 ls [.int (tl_I r), .int (tl_I (0 : Int)), .ref a_out]) rfl ?_
    refine lv_i2l (v := (tl_I r).toInt64) hx hb dL_make_7 rfl ?_
    refine ts_last hx hb ⟨by omega, by omega⟩ hK hP hD hS 0 2 rfl rfl (by decide) dL_make_8 (fun H locs hP hD hS => ?_)
    refine lv_goto (tgt := 18) hx hb dL_make_9 (by decide) ?_
    refine lv_iconst (v := tl_I (0 : Int)) hx hb dL_make_18 rfl ?_
    exact W.iret (v := tl_I (0 : Int)) hx hb hr (fun t ht hW => tl_fin hAe (Or.inl ⟨r, w1, hp, rfl, rfl⟩) hP hK hD hS ht hW) hS.2.2 dL_make_19
theorem tw_426 : (.methodLink RL 93 yL_set : Cond) ∈ tl_T := tl_tin 426 (by decide +kernel) rfl
theorem tw_427 : (.static yL_set : Cond) ∈ tl_T := tl_tin 427 (by decide +kernel) rfl
theorem tw_428 : (.codeWith yL_set cL_set 7 (some .int) [(0, 14, 17, 13), (0, 14, 21, 24), (0, 14, 25, 26), (0, 14, 29, 28), (0, 14, 33, 30), (0, 14, 37, 15)] : Cond) ∈ tl_T := tl_tin 428 (by decide +kernel) rfl
theorem tw_433 : (.methodLink RL 21 yX9_set : Cond) ∈ tl_T := tl_tin 433 (by decide +kernel) rfl
theorem tw_434 : (.instanceMethod yX9_set : Cond) ∈ tl_T := tl_tin 434 (by decide +kernel) rfl
theorem tw_435 : (.selects RX9 yX9_set yX9_set : Cond) ∈ tl_T := tl_tin 435 (by decide +kernel) rfl
theorem tw_436 : (.code yX9_set cX9_set 7 (some .int) : Cond) ∈ tl_T := tl_tin 436 (by decide +kernel) rfl
theorem td_L_set : yL_set.cls ≠ "java/lang/invoke/MethodHandle" ∧ yL_set.cls ≠ "java/lang/invoke/VarHandle" ∧ (parseMethodDescriptor yL_set.desc).map (fun d => d.parameters.length) = some 6 := by decide +kernel
theorem td_Lx_set : yX9_set.cls = RX9 ∧ yX9_set.cls ≠ "java/lang/invoke/MethodHandle" ∧ yX9_set.cls ≠ "java/lang/invoke/VarHandle" ∧ (parseMethodDescriptor yX9_set.desc).map (fun d => d.parameters.length) = some 4 := by decide +kernel
theorem tg_L_set : GoodIn tl_T (va_wsS RL 93 yL_set (tl_wH yL_set cL_set 7 (some .int) [(0, 14, 17, 13), (0, 14, 21, 24), (0, 14, 25, 26), (0, 14, 29, 28), (0, 14, 33, 30), (0, 14, 37, 15)])) := tl_gSH tw_426 tw_427 tw_59 tw_428
theorem tg_Lx_set : GoodIn tl_T (wsV RL 21 RX9 yX9_set (tl_w yX9_set cX9_set 7 (some .int))) := tl_gV tw_433 tw_434 tw_435 tw_60 tw_436
set_option maxHeartbeats 4000000 in
theorem kt_L_set (l : Launch) (D : va_G) (cy : Nat → ClassId) (sa : Nat → Nat) (a_x a_out : Nat) (p1 : Int) (p2 : Int) (p3 : Int) (p4 : Int) (o : Nat → Int64) (rm : Room) (wc : va_W) (fs : List Value) (mc ms : Nat) (post : Option Value → va_W → Prop) (px : String → va_W → Prop) (hw0 : wc[0]? = some (tl_ob a_x 10 fs)) (hM : tl_MX l D (tl_tys cy) sa yX9_set (tl_w yX9_set cX9_set 7 (some .int)) rm (.ref a_x :: [.int (tl_I p1), .int (tl_I p2), .int (tl_I p3), .int (tl_I p4)]) wc mc ms post px) (hrm : rm.cells = mc ∧ rm.slots = ms ∧ rm.frames ≤ 7 ∧ rm.locals ≤ 160) (hpo : ∀ v w1, post v w1 → ∃ r : Int, v = some (.int (tl_I r))) (hpx : ∀ E w1, px E w1 → ∃ k : Nat, E = tl_ex k ∧ 0 < lf_set k) :
    tl_MY l D (tl_tys cy) sa yL_set (tl_wH yL_set cL_set 7 (some .int) [(0, 14, 17, 13), (0, 14, 21, 24), (0, 14, 25, 26), (0, 14, 29, 28), (0, 14, 33, 30), (0, 14, 37, 15)]) { frames := 8, cells := mc, slots := ms, locals := 200 } [.ref a_x, .int (tl_I p1), .int (tl_I p2), .int (tl_I p3), .int (tl_I p4), .ref a_out] (tl_ja (cy 2) a_out 1 o :: wc) mc ms (lw_po cy a_out o (fun x => x.toInt64) lf_set post px) := by
  refine tl_ofY (cc := cL_set) (maxL := 7) (ret := (some .int)) (hh := [(0, 14, 17, 13), (0, 14, 21, 24), (0, 14, 25, 26), (0, 14, 29, 28), (0, 14, 33, 30), (0, 14, 37, 15)]) (by decide +kernel) (Nat.le_of_ble_eq_true rfl) ?_
  intro p e s m below meth c hx hb hr hml hts hown hlocks htab hE hN A hAe hA hP hK hD hS ls hl
  obtain ⟨hr1, hr2, hr3, hr4⟩ := hrm
  have hE : tl_E sa A s s.heap := by rw [hAe]; exact hE
  have hl : lv_has ls 7 [(0, .ref a_x), (1, .int (tl_I p1)), (2, .int (tl_I p2)), (3, .int (tl_I p3)), (4, .int (tl_I p4)), (5, .ref a_out)] := hl
  refine lv_aload hx hb dL_set_0 (lv_at hl 5 rfl) ?_
  refine lv_iconst (v := tl_I (0 : Int)) hx hb dL_set_2 rfl ?_
  refine lv_aload_n hx hb dL_set_3 rfl (lv_at hl 0 rfl) ?_
  refine lv_iload_n hx hb dL_set_4 rfl (lv_at hl 1 rfl) ?_
  refine lv_iload_n hx hb dL_set_5 rfl (lv_at hl 2 rfl) ?_
  refine lv_iload_n hx hb dL_set_6 rfl (lv_at hl 3 rfl) ?_
  refine lv_iload hx hb dL_set_7 (lv_at hl 4 rfl) ?_
  refine tl_callVXA (As := [.int (tl_I p1), .int (tl_I p2), .int (tl_I p3), .int (tl_I p4)]) (rest := [.int (tl_I (0 : Int)), .ref a_out]) (wc := wc) (wr := [tl_ja (cy 2) a_out 1 o]) ⟨hx, hb, hml, hown, hts⟩ hM (cwV 4 hts tg_Lx_set rfl hr1 hr2 td_Lx_set ⟨by show rm.frames + 1 ≤ 8; omega, by show 8 + (7 + 11) + rm.locals ≤ 200; omega⟩) hE hK (hP.perm (List.perm_append_singleton _ _).symm) (hD.perm (List.perm_append_singleton _ _).symm) hS hA 10 hw0 rfl rfl rfl hl.1 rfl (Nat.le_of_ble_eq_true rfl) dL_set_9 ⟨by show 0 + mc ≤ mc; omega, by show 0 + ms ≤ ms; omega⟩ (fun E ce q9 w1 H locs hp hP hD hS hce hcv hcl => ?_) (fun v w1 H locs hp hP hD hS => ?_)
  · have hP := hP.perm (List.perm_append_singleton _ _)
    have hD := hD.perm (List.perm_append_singleton _ _)
    refine vx_widen (k := mc) (n := ms) (by omega) (by omega) ?_
    obtain ⟨k, rfl, hk⟩ := hpx E w1 hp
    rcases lf_set_c hk with rfl | rfl | rfl | rfl | rfl | rfl
    · refine vx_catch2 (name := "java/lang/IllegalArgumentException") hown [] { startPc := 0, endPc := 14, handlerPc := 17, catchType := 13 } [{ startPc := 0, endPc := 14, handlerPc := 21, catchType := 24 }, { startPc := 0, endPc := 14, handlerPc := 25, catchType := 26 }, { startPc := 0, endPc := 14, handlerPc := 29, catchType := 28 }, { startPc := 0, endPc := 14, handlerPc := 33, catchType := 30 }, { startPc := 0, endPc := 14, handlerPc := 37, catchType := 15 }] (by rw [htab]; rfl) (fun z hz => absurd hz List.not_mem_nil) (by decide) (by decide) (hts _ tw_302) (hN.2 0 (by decide)) hce hcv hcl ?_
      refine W.eq (g2 := F0 m 17 ls [.ref q9]) rfl ?_
      refine lv_astore (lv' := [(6, .ref q9), (0, .ref a_x), (1, .int (tl_I p1)), (2, .int (tl_I p2)), (3, .int (tl_I p3)), (4, .int (tl_I p4)), (5, .ref a_out)]) hx hb dL_set_17 hl (by decide) rfl (fun ls hl => ?_)
      refine lv_iconst (v := tl_I (1 : Int)) hx hb dL_set_19 rfl ?_
      exact W.iret (v := tl_I (1 : Int)) hx hb hr (fun t ht hW => tl_fin hAe (Or.inr ⟨0, w1, hp, by decide, rfl, rfl⟩) hP hK hD hS ht hW) hS.2.2 dL_set_20
    · refine vx_catch2 (name := "java/util/NoSuchElementException") hown [{ startPc := 0, endPc := 14, handlerPc := 17, catchType := 13 }] { startPc := 0, endPc := 14, handlerPc := 21, catchType := 24 } [{ startPc := 0, endPc := 14, handlerPc := 25, catchType := 26 }, { startPc := 0, endPc := 14, handlerPc := 29, catchType := 28 }, { startPc := 0, endPc := 14, handlerPc := 33, catchType := 30 }, { startPc := 0, endPc := 14, handlerPc := 37, catchType := 15 }] (by rw [htab]; rfl) (List.forall_mem_cons.mpr ⟨Or.inr ⟨by decide, _, hts _ tw_302, hN.1 1 0 (by decide) (by decide) (by decide)⟩, (fun z hz => absurd hz List.not_mem_nil)⟩) (by decide) (by decide) (hts _ tw_429) (hN.2 1 (by decide)) hce hcv hcl ?_
      refine W.eq (g2 := F0 m 21 ls [.ref q9]) rfl ?_
      refine lv_astore (lv' := [(6, .ref q9), (0, .ref a_x), (1, .int (tl_I p1)), (2, .int (tl_I p2)), (3, .int (tl_I p3)), (4, .int (tl_I p4)), (5, .ref a_out)]) hx hb dL_set_21 hl (by decide) rfl (fun ls hl => ?_)
      refine lv_iconst (v := tl_I (2 : Int)) hx hb dL_set_23 rfl ?_
      exact W.iret (v := tl_I (2 : Int)) hx hb hr (fun t ht hW => tl_fin hAe (Or.inr ⟨1, w1, hp, by decide, rfl, rfl⟩) hP hK hD hS ht hW) hS.2.2 dL_set_24
    · refine vx_catch2 (name := "java/lang/ClassCastException") hown [{ startPc := 0, endPc := 14, handlerPc := 17, catchType := 13 }, { startPc := 0, endPc := 14, handlerPc := 21, catchType := 24 }] { startPc := 0, endPc := 14, handlerPc := 25, catchType := 26 } [{ startPc := 0, endPc := 14, handlerPc := 29, catchType := 28 }, { startPc := 0, endPc := 14, handlerPc := 33, catchType := 30 }, { startPc := 0, endPc := 14, handlerPc := 37, catchType := 15 }] (by rw [htab]; rfl) (List.forall_mem_cons.mpr ⟨Or.inr ⟨by decide, _, hts _ tw_302, hN.1 2 0 (by decide) (by decide) (by decide)⟩, (List.forall_mem_cons.mpr ⟨Or.inr ⟨by decide, _, hts _ tw_429, hN.1 2 1 (by decide) (by decide) (by decide)⟩, (fun z hz => absurd hz List.not_mem_nil)⟩)⟩) (by decide) (by decide) (hts _ tw_430) (hN.2 2 (by decide)) hce hcv hcl ?_
      refine W.eq (g2 := F0 m 25 ls [.ref q9]) rfl ?_
      refine lv_astore (lv' := [(6, .ref q9), (0, .ref a_x), (1, .int (tl_I p1)), (2, .int (tl_I p2)), (3, .int (tl_I p3)), (4, .int (tl_I p4)), (5, .ref a_out)]) hx hb dL_set_25 hl (by decide) rfl (fun ls hl => ?_)
      refine lv_iconst (v := tl_I (3 : Int)) hx hb dL_set_27 rfl ?_
      exact W.iret (v := tl_I (3 : Int)) hx hb hr (fun t ht hW => tl_fin hAe (Or.inr ⟨2, w1, hp, by decide, rfl, rfl⟩) hP hK hD hS ht hW) hS.2.2 dL_set_28
    · refine vx_catch2 (name := "java/lang/UnsupportedOperationException") hown [{ startPc := 0, endPc := 14, handlerPc := 17, catchType := 13 }, { startPc := 0, endPc := 14, handlerPc := 21, catchType := 24 }, { startPc := 0, endPc := 14, handlerPc := 25, catchType := 26 }] { startPc := 0, endPc := 14, handlerPc := 29, catchType := 28 } [{ startPc := 0, endPc := 14, handlerPc := 33, catchType := 30 }, { startPc := 0, endPc := 14, handlerPc := 37, catchType := 15 }] (by rw [htab]; rfl) (List.forall_mem_cons.mpr ⟨Or.inr ⟨by decide, _, hts _ tw_302, hN.1 3 0 (by decide) (by decide) (by decide)⟩, (List.forall_mem_cons.mpr ⟨Or.inr ⟨by decide, _, hts _ tw_429, hN.1 3 1 (by decide) (by decide) (by decide)⟩, (List.forall_mem_cons.mpr ⟨Or.inr ⟨by decide, _, hts _ tw_430, hN.1 3 2 (by decide) (by decide) (by decide)⟩, (fun z hz => absurd hz List.not_mem_nil)⟩)⟩)⟩) (by decide) (by decide) (hts _ tw_431) (hN.2 3 (by decide)) hce hcv hcl ?_
      refine W.eq (g2 := F0 m 29 ls [.ref q9]) rfl ?_
      refine lv_astore (lv' := [(6, .ref q9), (0, .ref a_x), (1, .int (tl_I p1)), (2, .int (tl_I p2)), (3, .int (tl_I p3)), (4, .int (tl_I p4)), (5, .ref a_out)]) hx hb dL_set_29 hl (by decide) rfl (fun ls hl => ?_)
      refine lv_iconst (v := tl_I (4 : Int)) hx hb dL_set_31 rfl ?_
      exact W.iret (v := tl_I (4 : Int)) hx hb hr (fun t ht hW => tl_fin hAe (Or.inr ⟨3, w1, hp, by decide, rfl, rfl⟩) hP hK hD hS ht hW) hS.2.2 dL_set_32
    · refine vx_catch2 (name := "java/lang/IndexOutOfBoundsException") hown [{ startPc := 0, endPc := 14, handlerPc := 17, catchType := 13 }, { startPc := 0, endPc := 14, handlerPc := 21, catchType := 24 }, { startPc := 0, endPc := 14, handlerPc := 25, catchType := 26 }, { startPc := 0, endPc := 14, handlerPc := 29, catchType := 28 }] { startPc := 0, endPc := 14, handlerPc := 33, catchType := 30 } [{ startPc := 0, endPc := 14, handlerPc := 37, catchType := 15 }] (by rw [htab]; rfl) (List.forall_mem_cons.mpr ⟨Or.inr ⟨by decide, _, hts _ tw_302, hN.1 4 0 (by decide) (by decide) (by decide)⟩, (List.forall_mem_cons.mpr ⟨Or.inr ⟨by decide, _, hts _ tw_429, hN.1 4 1 (by decide) (by decide) (by decide)⟩, (List.forall_mem_cons.mpr ⟨Or.inr ⟨by decide, _, hts _ tw_430, hN.1 4 2 (by decide) (by decide) (by decide)⟩, (List.forall_mem_cons.mpr ⟨Or.inr ⟨by decide, _, hts _ tw_431, hN.1 4 3 (by decide) (by decide) (by decide)⟩, (fun z hz => absurd hz List.not_mem_nil)⟩)⟩)⟩)⟩) (by decide) (by decide) (hts _ tw_432) (hN.2 4 (by decide)) hce hcv hcl ?_
      refine W.eq (g2 := F0 m 33 ls [.ref q9]) rfl ?_
      refine lv_astore (lv' := [(6, .ref q9), (0, .ref a_x), (1, .int (tl_I p1)), (2, .int (tl_I p2)), (3, .int (tl_I p3)), (4, .int (tl_I p4)), (5, .ref a_out)]) hx hb dL_set_33 hl (by decide) rfl (fun ls hl => ?_)
      refine lv_iconst (v := tl_I (5 : Int)) hx hb dL_set_35 rfl ?_
      exact W.iret (v := tl_I (5 : Int)) hx hb hr (fun t ht hW => tl_fin hAe (Or.inr ⟨4, w1, hp, by decide, rfl, rfl⟩) hP hK hD hS ht hW) hS.2.2 dL_set_36
    · refine vx_catch2 (name := "java/lang/IllegalStateException") hown [{ startPc := 0, endPc := 14, handlerPc := 17, catchType := 13 }, { startPc := 0, endPc := 14, handlerPc := 21, catchType := 24 }, { startPc := 0, endPc := 14, handlerPc := 25, catchType := 26 }, { startPc := 0, endPc := 14, handlerPc := 29, catchType := 28 }, { startPc := 0, endPc := 14, handlerPc := 33, catchType := 30 }] { startPc := 0, endPc := 14, handlerPc := 37, catchType := 15 } [] (by rw [htab]; rfl) (List.forall_mem_cons.mpr ⟨Or.inr ⟨by decide, _, hts _ tw_302, hN.1 5 0 (by decide) (by decide) (by decide)⟩, (List.forall_mem_cons.mpr ⟨Or.inr ⟨by decide, _, hts _ tw_429, hN.1 5 1 (by decide) (by decide) (by decide)⟩, (List.forall_mem_cons.mpr ⟨Or.inr ⟨by decide, _, hts _ tw_430, hN.1 5 2 (by decide) (by decide) (by decide)⟩, (List.forall_mem_cons.mpr ⟨Or.inr ⟨by decide, _, hts _ tw_431, hN.1 5 3 (by decide) (by decide) (by decide)⟩, (List.forall_mem_cons.mpr ⟨Or.inr ⟨by decide, _, hts _ tw_432, hN.1 5 4 (by decide) (by decide) (by decide)⟩, (fun z hz => absurd hz List.not_mem_nil)⟩)⟩)⟩)⟩)⟩) (by decide) (by decide) (hts _ tw_303) (hN.2 5 (by decide)) hce hcv hcl ?_
      refine W.eq (g2 := F0 m 37 ls [.ref q9]) rfl ?_
      refine lv_astore (lv' := [(6, .ref q9), (0, .ref a_x), (1, .int (tl_I p1)), (2, .int (tl_I p2)), (3, .int (tl_I p3)), (4, .int (tl_I p4)), (5, .ref a_out)]) hx hb dL_set_37 hl (by decide) rfl (fun ls hl => ?_)
      refine lv_bipush (v := tl_I (6 : Int)) hx hb dL_set_39 rfl ?_
      exact W.iret (v := tl_I (6 : Int)) hx hb hr (fun t ht hW => tl_fin hAe (Or.inr ⟨5, w1, hp, by decide, rfl, rfl⟩) hP hK hD hS ht hW) hS.2.2 dL_set_41
  · have hP := hP.perm (List.perm_append_singleton _ _)
    have hD := hD.perm (List.perm_append_singleton _ _)
    refine W.widen (k := mc) (n := ms) (by omega) (by omega) ?_
    obtain ⟨r, rfl⟩ := hpo v w1 hp
    refine W.eq (g2 := F0 m 12 ls [.int (tl_I r), .int (tl_I (0 : Int)), .ref a_out]) rfl ?_
    refine lv_i2l (v := (tl_I r).toInt64) hx hb dL_set_12 rfl ?_
    refine ts_last hx hb ⟨by omega, by omega⟩ hK hP hD hS 0 2 rfl rfl (by decide) dL_set_13 (fun H locs hP hD hS => ?_)
    refine lv_goto (tgt := 42) hx hb dL_set_14 (by decide) ?_
    refine lv_iconst (v := tl_I (0 : Int)) hx hb dL_set_42 rfl ?_
    exact W.iret (v := tl_I (0 : Int)) hx hb hr (fun t ht hW => tl_fin hAe (Or.inl ⟨r, w1, hp, rfl, rfl⟩) hP hK hD hS ht hW) hS.2.2 dL_set_43
theorem tw_688 : (.methodLink RL 96 yL_cut : Cond) ∈ tl_T := tl_tin 688 (by decide +kernel) rfl
theorem tw_689 : (.static yL_cut : Cond) ∈ tl_T := tl_tin 689 (by decide +kernel) rfl
theorem tw_690 : (.codeWith yL_cut cL_cut 6 (some .int) [(0, 12, 15, 13), (0, 12, 19, 24), (0, 12, 23, 26)] : Cond) ∈ tl_T := tl_tin 690 (by decide +kernel) rfl
theorem tw_691 : (.methodLink RL 32 yX9_cut : Cond) ∈ tl_T := tl_tin 691 (by decide +kernel) rfl
theorem tw_692 : (.instanceMethod yX9_cut : Cond) ∈ tl_T := tl_tin 692 (by decide +kernel) rfl
theorem tw_693 : (.selects RX9 yX9_cut yX9_cut : Cond) ∈ tl_T := tl_tin 693 (by decide +kernel) rfl
theorem tw_694 : (.code yX9_cut cX9_cut 6 (some .int) : Cond) ∈ tl_T := tl_tin 694 (by decide +kernel) rfl
theorem td_L_cut : yL_cut.cls ≠ "java/lang/invoke/MethodHandle" ∧ yL_cut.cls ≠ "java/lang/invoke/VarHandle" ∧ (parseMethodDescriptor yL_cut.desc).map (fun d => d.parameters.length) = some 5 := by decide +kernel
theorem td_Lx_cut : yX9_cut.cls = RX9 ∧ yX9_cut.cls ≠ "java/lang/invoke/MethodHandle" ∧ yX9_cut.cls ≠ "java/lang/invoke/VarHandle" ∧ (parseMethodDescriptor yX9_cut.desc).map (fun d => d.parameters.length) = some 3 := by decide +kernel
theorem tg_L_cut : GoodIn tl_T (va_wsS RL 96 yL_cut (tl_wH yL_cut cL_cut 6 (some .int) [(0, 12, 15, 13), (0, 12, 19, 24), (0, 12, 23, 26)])) := tl_gSH tw_688 tw_689 tw_59 tw_690
theorem tg_Lx_cut : GoodIn tl_T (wsV RL 32 RX9 yX9_cut (tl_w yX9_cut cX9_cut 6 (some .int))) := tl_gV tw_691 tw_692 tw_693 tw_60 tw_694
set_option maxHeartbeats 4000000 in
theorem kt_L_cut (l : Launch) (D : va_G) (cy : Nat → ClassId) (sa : Nat → Nat) (a_x a_out : Nat) (p1 : Int) (p2 : Int) (p3 : Int) (o : Nat → Int64) (rm : Room) (wc : va_W) (fs : List Value) (mc ms : Nat) (post : Option Value → va_W → Prop) (px : String → va_W → Prop) (hw0 : wc[0]? = some (tl_ob a_x 10 fs)) (hM : tl_MX l D (tl_tys cy) sa yX9_cut (tl_w yX9_cut cX9_cut 6 (some .int)) rm (.ref a_x :: [.int (tl_I p1), .int (tl_I p2), .int (tl_I p3)]) wc mc ms post px) (hrm : rm.cells = mc ∧ rm.slots = ms ∧ rm.frames ≤ 7 ∧ rm.locals ≤ 160) (hpo : ∀ v w1, post v w1 → ∃ r : Int, v = some (.int (tl_I r))) (hpx : ∀ E w1, px E w1 → ∃ k : Nat, E = tl_ex k ∧ 0 < lf_cut k) :
    tl_MY l D (tl_tys cy) sa yL_cut (tl_wH yL_cut cL_cut 6 (some .int) [(0, 12, 15, 13), (0, 12, 19, 24), (0, 12, 23, 26)]) { frames := 8, cells := mc, slots := ms, locals := 200 } [.ref a_x, .int (tl_I p1), .int (tl_I p2), .int (tl_I p3), .ref a_out] (tl_ja (cy 2) a_out 1 o :: wc) mc ms (lw_po cy a_out o (fun x => x.toInt64) lf_cut post px) := by
  refine tl_ofY (cc := cL_cut) (maxL := 6) (ret := (some .int)) (hh := [(0, 12, 15, 13), (0, 12, 19, 24), (0, 12, 23, 26)]) (by decide +kernel) (Nat.le_of_ble_eq_true rfl) ?_
  intro p e s m below meth c hx hb hr hml hts hown hlocks htab hE hN A hAe hA hP hK hD hS ls hl
  obtain ⟨hr1, hr2, hr3, hr4⟩ := hrm
  have hE : tl_E sa A s s.heap := by rw [hAe]; exact hE
  have hl : lv_has ls 6 [(0, .ref a_x), (1, .int (tl_I p1)), (2, .int (tl_I p2)), (3, .int (tl_I p3)), (4, .ref a_out)] := hl
  refine lv_aload hx hb dL_cut_0 (lv_at hl 4 rfl) ?_
  refine lv_iconst (v := tl_I (0 : Int)) hx hb dL_cut_2 rfl ?_
  refine lv_aload_n hx hb dL_cut_3 rfl (lv_at hl 0 rfl) ?_
  refine lv_iload_n hx hb dL_cut_4 rfl (lv_at hl 1 rfl) ?_
  refine lv_iload_n hx hb dL_cut_5 rfl (lv_at hl 2 rfl) ?_
  refine lv_iload_n hx hb dL_cut_6 rfl (lv_at hl 3 rfl) ?_
  refine tl_callVXA (As := [.int (tl_I p1), .int (tl_I p2), .int (tl_I p3)]) (rest := [.int (tl_I (0 : Int)), .ref a_out]) (wc := wc) (wr := [tl_ja (cy 2) a_out 1 o]) ⟨hx, hb, hml, hown, hts⟩ hM (cwV 3 hts tg_Lx_cut rfl hr1 hr2 td_Lx_cut ⟨by show rm.frames + 1 ≤ 8; omega, by show 8 + (6 + 11) + rm.locals ≤ 200; omega⟩) hE hK (hP.perm (List.perm_append_singleton _ _).symm) (hD.perm (List.perm_append_singleton _ _).symm) hS hA 10 hw0 rfl rfl rfl hl.1 rfl (Nat.le_of_ble_eq_true rfl) dL_cut_7 ⟨by show 0 + mc ≤ mc; omega, by show 0 + ms ≤ ms; omega⟩ (fun E ce q9 w1 H locs hp hP hD hS hce hcv hcl => ?_) (fun v w1 H locs hp hP hD hS => ?_)
  · have hP := hP.perm (List.perm_append_singleton _ _)
    have hD := hD.perm (List.perm_append_singleton _ _)
    refine vx_widen (k := mc) (n := ms) (by omega) (by omega) ?_
    obtain ⟨k, rfl, hk⟩ := hpx E w1 hp
    rcases lf_cut_c hk with rfl | rfl | rfl
    · refine vx_catch2 (name := "java/lang/IllegalArgumentException") hown [] { startPc := 0, endPc := 12, handlerPc := 15, catchType := 13 } [{ startPc := 0, endPc := 12, handlerPc := 19, catchType := 24 }, { startPc := 0, endPc := 12, handlerPc := 23, catchType := 26 }] (by rw [htab]; rfl) (fun z hz => absurd hz List.not_mem_nil) (by decide) (by decide) (hts _ tw_302) (hN.2 0 (by decide)) hce hcv hcl ?_
      refine W.eq (g2 := F0 m 15 ls [.ref q9]) rfl ?_
      refine lv_astore (lv' := [(5, .ref q9), (0, .ref a_x), (1, .int (tl_I p1)), (2, .int (tl_I p2)), (3, .int (tl_I p3)), (4, .ref a_out)]) hx hb dL_cut_15 hl (by decide) rfl (fun ls hl => ?_)
      refine lv_iconst (v := tl_I (1 : Int)) hx hb dL_cut_17 rfl ?_
      exact W.iret (v := tl_I (1 : Int)) hx hb hr (fun t ht hW => tl_fin hAe (Or.inr ⟨0, w1, hp, by decide, rfl, rfl⟩) hP hK hD hS ht hW) hS.2.2 dL_cut_18
    · refine vx_catch2 (name := "java/util/NoSuchElementException") hown [{ startPc := 0, endPc := 12, handlerPc := 15, catchType := 13 }] { startPc := 0, endPc := 12, handlerPc := 19, catchType := 24 } [{ startPc := 0, endPc := 12, handlerPc := 23, catchType := 26 }] (by rw [htab]; rfl) (List.forall_mem_cons.mpr ⟨Or.inr ⟨by decide, _, hts _ tw_302, hN.1 1 0 (by decide) (by decide) (by decide)⟩, (fun z hz => absurd hz List.not_mem_nil)⟩) (by decide) (by decide) (hts _ tw_429) (hN.2 1 (by decide)) hce hcv hcl ?_
      refine W.eq (g2 := F0 m 19 ls [.ref q9]) rfl ?_
      refine lv_astore (lv' := [(5, .ref q9), (0, .ref a_x), (1, .int (tl_I p1)), (2, .int (tl_I p2)), (3, .int (tl_I p3)), (4, .ref a_out)]) hx hb dL_cut_19 hl (by decide) rfl (fun ls hl => ?_)
      refine lv_iconst (v := tl_I (2 : Int)) hx hb dL_cut_21 rfl ?_
      exact W.iret (v := tl_I (2 : Int)) hx hb hr (fun t ht hW => tl_fin hAe (Or.inr ⟨1, w1, hp, by decide, rfl, rfl⟩) hP hK hD hS ht hW) hS.2.2 dL_cut_22
    · refine vx_catch2 (name := "java/lang/ClassCastException") hown [{ startPc := 0, endPc := 12, handlerPc := 15, catchType := 13 }, { startPc := 0, endPc := 12, handlerPc := 19, catchType := 24 }] { startPc := 0, endPc := 12, handlerPc := 23, catchType := 26 } [] (by rw [htab]; rfl) (List.forall_mem_cons.mpr ⟨Or.inr ⟨by decide, _, hts _ tw_302, hN.1 2 0 (by decide) (by decide) (by decide)⟩, (List.forall_mem_cons.mpr ⟨Or.inr ⟨by decide, _, hts _ tw_429, hN.1 2 1 (by decide) (by decide) (by decide)⟩, (fun z hz => absurd hz List.not_mem_nil)⟩)⟩) (by decide) (by decide) (hts _ tw_430) (hN.2 2 (by decide)) hce hcv hcl ?_
      refine W.eq (g2 := F0 m 23 ls [.ref q9]) rfl ?_
      refine lv_astore (lv' := [(5, .ref q9), (0, .ref a_x), (1, .int (tl_I p1)), (2, .int (tl_I p2)), (3, .int (tl_I p3)), (4, .ref a_out)]) hx hb dL_cut_23 hl (by decide) rfl (fun ls hl => ?_)
      refine lv_iconst (v := tl_I (3 : Int)) hx hb dL_cut_25 rfl ?_
      exact W.iret (v := tl_I (3 : Int)) hx hb hr (fun t ht hW => tl_fin hAe (Or.inr ⟨2, w1, hp, by decide, rfl, rfl⟩) hP hK hD hS ht hW) hS.2.2 dL_cut_26
  · have hP := hP.perm (List.perm_append_singleton _ _)
    have hD := hD.perm (List.perm_append_singleton _ _)
    refine W.widen (k := mc) (n := ms) (by omega) (by omega) ?_
    obtain ⟨r, rfl⟩ := hpo v w1 hp
    refine W.eq (g2 := F0 m 10 ls [.int (tl_I r), .int (tl_I (0 : Int)), .ref a_out]) rfl ?_
    refine lv_i2l (v := (tl_I r).toInt64) hx hb dL_cut_10 rfl ?_
    refine ts_last hx hb ⟨by omega, by omega⟩ hK hP hD hS 0 2 rfl rfl (by decide) dL_cut_11 (fun H locs hP hD hS => ?_)
    refine lv_goto (tgt := 27) hx hb dL_cut_12 (by decide) ?_
    refine lv_iconst (v := tl_I (0 : Int)) hx hb dL_cut_27 rfl ?_
    exact W.iret (v := tl_I (0 : Int)) hx hb hr (fun t ht hW => tl_fin hAe (Or.inl ⟨r, w1, hp, rfl, rfl⟩) hP hK hD hS ht hW) hS.2.2 dL_cut_28
theorem tw_695 : (.methodLink RL 100 yL_drop : Cond) ∈ tl_T := tl_tin 695 (by decide +kernel) rfl
theorem tw_696 : (.static yL_drop : Cond) ∈ tl_T := tl_tin 696 (by decide +kernel) rfl
theorem tw_697 : (.codeWith yL_drop cL_drop 4 (some .int) [(0, 9, 12, 24), (0, 9, 15, 15)] : Cond) ∈ tl_T := tl_tin 697 (by decide +kernel) rfl
theorem tw_698 : (.methodLink RL 36 yX9_drop : Cond) ∈ tl_T := tl_tin 698 (by decide +kernel) rfl
theorem tw_699 : (.instanceMethod yX9_drop : Cond) ∈ tl_T := tl_tin 699 (by decide +kernel) rfl
theorem tw_700 : (.selects RX9 yX9_drop yX9_drop : Cond) ∈ tl_T := tl_tin 700 (by decide +kernel) rfl
theorem tw_701 : (.code yX9_drop cX9_drop 4 (some .int) : Cond) ∈ tl_T := tl_tin 701 (by decide +kernel) rfl
theorem td_L_drop : yL_drop.cls ≠ "java/lang/invoke/MethodHandle" ∧ yL_drop.cls ≠ "java/lang/invoke/VarHandle" ∧ (parseMethodDescriptor yL_drop.desc).map (fun d => d.parameters.length) = some 3 := by decide +kernel
theorem td_Lx_drop : yX9_drop.cls = RX9 ∧ yX9_drop.cls ≠ "java/lang/invoke/MethodHandle" ∧ yX9_drop.cls ≠ "java/lang/invoke/VarHandle" ∧ (parseMethodDescriptor yX9_drop.desc).map (fun d => d.parameters.length) = some 1 := by decide +kernel
theorem tg_L_drop : GoodIn tl_T (va_wsS RL 100 yL_drop (tl_wH yL_drop cL_drop 4 (some .int) [(0, 9, 12, 24), (0, 9, 15, 15)])) := tl_gSH tw_695 tw_696 tw_59 tw_697
theorem tg_Lx_drop : GoodIn tl_T (wsV RL 36 RX9 yX9_drop (tl_w yX9_drop cX9_drop 4 (some .int))) := tl_gV tw_698 tw_699 tw_700 tw_60 tw_701
set_option maxHeartbeats 4000000 in
theorem kt_L_drop (l : Launch) (D : va_G) (cy : Nat → ClassId) (sa : Nat → Nat) (a_x a_out : Nat) (p1 : Int) (o : Nat → Int64) (rm : Room) (wc : va_W) (fs : List Value) (mc ms : Nat) (post : Option Value → va_W → Prop) (px : String → va_W → Prop) (hw0 : wc[0]? = some (tl_ob a_x 10 fs)) (hM : tl_MX l D (tl_tys cy) sa yX9_drop (tl_w yX9_drop cX9_drop 4 (some .int)) rm (.ref a_x :: [.int (tl_I p1)]) wc mc ms post px) (hrm : rm.cells = mc ∧ rm.slots = ms ∧ rm.frames ≤ 7 ∧ rm.locals ≤ 160) (hpo : ∀ v w1, post v w1 → ∃ r : Int, v = some (.int (tl_I r))) (hpx : ∀ E w1, px E w1 → ∃ k : Nat, E = tl_ex k ∧ 0 < lf_drop k) :
    tl_MY l D (tl_tys cy) sa yL_drop (tl_wH yL_drop cL_drop 4 (some .int) [(0, 9, 12, 24), (0, 9, 15, 15)]) { frames := 8, cells := mc, slots := ms, locals := 200 } [.ref a_x, .int (tl_I p1), .ref a_out] (tl_ja (cy 2) a_out 1 o :: wc) mc ms (lw_po cy a_out o (fun x => x.toInt64) lf_drop post px) := by
  refine tl_ofY (cc := cL_drop) (maxL := 4) (ret := (some .int)) (hh := [(0, 9, 12, 24), (0, 9, 15, 15)]) (by decide +kernel) (Nat.le_of_ble_eq_true rfl) ?_
  intro p e s m below meth c hx hb hr hml hts hown hlocks htab hE hN A hAe hA hP hK hD hS ls hl
  obtain ⟨hr1, hr2, hr3, hr4⟩ := hrm
  have hE : tl_E sa A s s.heap := by rw [hAe]; exact hE
  have hl : lv_has ls 4 [(0, .ref a_x), (1, .int (tl_I p1)), (2, .ref a_out)] := hl
  refine lv_aload_n hx hb dL_drop_0 rfl (lv_at hl 2 rfl) ?_
  refine lv_iconst (v := tl_I (0 : Int)) hx hb dL_drop_1 rfl ?_
  refine lv_aload_n hx hb dL_drop_2 rfl (lv_at hl 0 rfl) ?_
  refine lv_iload_n hx hb dL_drop_3 rfl (lv_at hl 1 rfl) ?_
  refine tl_callVXA (As := [.int (tl_I p1)]) (rest := [.int (tl_I (0 : Int)), .ref a_out]) (wc := wc) (wr := [tl_ja (cy 2) a_out 1 o]) ⟨hx, hb, hml, hown, hts⟩ hM (cwV 1 hts tg_Lx_drop rfl hr1 hr2 td_Lx_drop ⟨by show rm.frames + 1 ≤ 8; omega, by show 8 + (4 + 11) + rm.locals ≤ 200; omega⟩) hE hK (hP.perm (List.perm_append_singleton _ _).symm) (hD.perm (List.perm_append_singleton _ _).symm) hS hA 10 hw0 rfl rfl rfl hl.1 rfl (Nat.le_of_ble_eq_true rfl) dL_drop_4 ⟨by show 0 + mc ≤ mc; omega, by show 0 + ms ≤ ms; omega⟩ (fun E ce q9 w1 H locs hp hP hD hS hce hcv hcl => ?_) (fun v w1 H locs hp hP hD hS => ?_)
  · have hP := hP.perm (List.perm_append_singleton _ _)
    have hD := hD.perm (List.perm_append_singleton _ _)
    refine vx_widen (k := mc) (n := ms) (by omega) (by omega) ?_
    obtain ⟨k, rfl, hk⟩ := hpx E w1 hp
    rcases lf_drop_c hk with rfl | rfl
    · refine vx_catch2 (name := "java/util/NoSuchElementException") hown [] { startPc := 0, endPc := 9, handlerPc := 12, catchType := 24 } [{ startPc := 0, endPc := 9, handlerPc := 15, catchType := 15 }] (by rw [htab]; rfl) (fun z hz => absurd hz List.not_mem_nil) (by decide) (by decide) (hts _ tw_429) (hN.2 1 (by decide)) hce hcv hcl ?_
      refine W.eq (g2 := F0 m 12 ls [.ref q9]) rfl ?_
      refine lv_astore_n (lv' := [(3, .ref q9), (0, .ref a_x), (1, .int (tl_I p1)), (2, .ref a_out)]) hx hb dL_drop_12 rfl hl (by decide) rfl (fun ls hl => ?_)
      refine lv_iconst (v := tl_I (1 : Int)) hx hb dL_drop_13 rfl ?_
      exact W.iret (v := tl_I (1 : Int)) hx hb hr (fun t ht hW => tl_fin hAe (Or.inr ⟨1, w1, hp, by decide, rfl, rfl⟩) hP hK hD hS ht hW) hS.2.2 dL_drop_14
    · refine vx_catch2 (name := "java/lang/IllegalStateException") hown [{ startPc := 0, endPc := 9, handlerPc := 12, catchType := 24 }] { startPc := 0, endPc := 9, handlerPc := 15, catchType := 15 } [] (by rw [htab]; rfl) (List.forall_mem_cons.mpr ⟨Or.inr ⟨by decide, _, hts _ tw_429, hN.1 5 1 (by decide) (by decide) (by decide)⟩, (fun z hz => absurd hz List.not_mem_nil)⟩) (by decide) (by decide) (hts _ tw_303) (hN.2 5 (by decide)) hce hcv hcl ?_
      refine W.eq (g2 := F0 m 15 ls [.ref q9]) rfl ?_
      refine lv_astore_n (lv' := [(3, .ref q9), (0, .ref a_x), (1, .int (tl_I p1)), (2, .ref a_out)]) hx hb dL_drop_15 rfl hl (by decide) rfl (fun ls hl => ?_)
      refine lv_iconst (v := tl_I (2 : Int)) hx hb dL_drop_16 rfl ?_
      exact W.iret (v := tl_I (2 : Int)) hx hb hr (fun t ht hW => tl_fin hAe (Or.inr ⟨5, w1, hp, by decide, rfl, rfl⟩) hP hK hD hS ht hW) hS.2.2 dL_drop_17
  · have hP := hP.perm (List.perm_append_singleton _ _)
    have hD := hD.perm (List.perm_append_singleton _ _)
    refine W.widen (k := mc) (n := ms) (by omega) (by omega) ?_
    obtain ⟨r, rfl⟩ := hpo v w1 hp
    refine W.eq (g2 := F0 m 7 ls [.int (tl_I r), .int (tl_I (0 : Int)), .ref a_out]) rfl ?_
    refine lv_i2l (v := (tl_I r).toInt64) hx hb dL_drop_7 rfl ?_
    refine ts_last hx hb ⟨by omega, by omega⟩ hK hP hD hS 0 2 rfl rfl (by decide) dL_drop_8 (fun H locs hP hD hS => ?_)
    refine lv_goto (tgt := 18) hx hb dL_drop_9 (by decide) ?_
    refine lv_iconst (v := tl_I (0 : Int)) hx hb dL_drop_18 rfl ?_
    exact W.iret (v := tl_I (0 : Int)) hx hb hr (fun t ht hW => tl_fin hAe (Or.inl ⟨r, w1, hp, rfl, rfl⟩) hP hK hD hS ht hW) hS.2.2 dL_drop_19
theorem tw_761 : (.methodLink RL 103 yL_copy : Cond) ∈ tl_T := tl_tin 761 (by decide +kernel) rfl
theorem tw_762 : (.static yL_copy : Cond) ∈ tl_T := tl_tin 762 (by decide +kernel) rfl
theorem tw_763 : (.codeWith yL_copy cL_copy 4 (some .int) [(0, 9, 12, 24), (0, 9, 15, 15)] : Cond) ∈ tl_T := tl_tin 763 (by decide +kernel) rfl
theorem tw_764 : (.methodLink RL 39 yX9_copy : Cond) ∈ tl_T := tl_tin 764 (by decide +kernel) rfl
theorem tw_765 : (.instanceMethod yX9_copy : Cond) ∈ tl_T := tl_tin 765 (by decide +kernel) rfl
theorem tw_766 : (.selects RX9 yX9_copy yX9_copy : Cond) ∈ tl_T := tl_tin 766 (by decide +kernel) rfl
theorem tw_767 : (.code yX9_copy cX9_copy 3 (some .int) : Cond) ∈ tl_T := tl_tin 767 (by decide +kernel) rfl
theorem td_L_copy : yL_copy.cls ≠ "java/lang/invoke/MethodHandle" ∧ yL_copy.cls ≠ "java/lang/invoke/VarHandle" ∧ (parseMethodDescriptor yL_copy.desc).map (fun d => d.parameters.length) = some 3 := by decide +kernel
theorem td_Lx_copy : yX9_copy.cls = RX9 ∧ yX9_copy.cls ≠ "java/lang/invoke/MethodHandle" ∧ yX9_copy.cls ≠ "java/lang/invoke/VarHandle" ∧ (parseMethodDescriptor yX9_copy.desc).map (fun d => d.parameters.length) = some 1 := by decide +kernel
theorem tg_L_copy : GoodIn tl_T (va_wsS RL 103 yL_copy (tl_wH yL_copy cL_copy 4 (some .int) [(0, 9, 12, 24), (0, 9, 15, 15)])) := tl_gSH tw_761 tw_762 tw_59 tw_763
theorem tg_Lx_copy : GoodIn tl_T (wsV RL 39 RX9 yX9_copy (tl_w yX9_copy cX9_copy 3 (some .int))) := tl_gV tw_764 tw_765 tw_766 tw_60 tw_767
set_option maxHeartbeats 4000000 in
theorem kt_L_copy (l : Launch) (D : va_G) (cy : Nat → ClassId) (sa : Nat → Nat) (a_x a_out : Nat) (p1 : Int) (o : Nat → Int64) (rm : Room) (wc : va_W) (fs : List Value) (mc ms : Nat) (post : Option Value → va_W → Prop) (px : String → va_W → Prop) (hw0 : wc[0]? = some (tl_ob a_x 10 fs)) (hM : tl_MX l D (tl_tys cy) sa yX9_copy (tl_w yX9_copy cX9_copy 3 (some .int)) rm (.ref a_x :: [.int (tl_I p1)]) wc mc ms post px) (hrm : rm.cells = mc ∧ rm.slots = ms ∧ rm.frames ≤ 7 ∧ rm.locals ≤ 160) (hpo : ∀ v w1, post v w1 → ∃ r : Int, v = some (.int (tl_I r))) (hpx : ∀ E w1, px E w1 → ∃ k : Nat, E = tl_ex k ∧ 0 < lf_drop k) :
    tl_MY l D (tl_tys cy) sa yL_copy (tl_wH yL_copy cL_copy 4 (some .int) [(0, 9, 12, 24), (0, 9, 15, 15)]) { frames := 8, cells := mc, slots := ms, locals := 200 } [.ref a_x, .int (tl_I p1), .ref a_out] (tl_ja (cy 2) a_out 1 o :: wc) mc ms (lw_po cy a_out o (fun x => x.toInt64) lf_drop post px) := by
  refine tl_ofY (cc := cL_copy) (maxL := 4) (ret := (some .int)) (hh := [(0, 9, 12, 24), (0, 9, 15, 15)]) (by decide +kernel) (Nat.le_of_ble_eq_true rfl) ?_
  intro p e s m below meth c hx hb hr hml hts hown hlocks htab hE hN A hAe hA hP hK hD hS ls hl
  obtain ⟨hr1, hr2, hr3, hr4⟩ := hrm
  have hE : tl_E sa A s s.heap := by rw [hAe]; exact hE
  have hl : lv_has ls 4 [(0, .ref a_x), (1, .int (tl_I p1)), (2, .ref a_out)] := hl
  refine lv_aload_n hx hb dL_copy_0 rfl (lv_at hl 2 rfl) ?_
  refine lv_iconst (v := tl_I (0 : Int)) hx hb dL_copy_1 rfl ?_
  refine lv_aload_n hx hb dL_copy_2 rfl (lv_at hl 0 rfl) ?_
  refine lv_iload_n hx hb dL_copy_3 rfl (lv_at hl 1 rfl) ?_
  refine tl_callVXA (As := [.int (tl_I p1)]) (rest := [.int (tl_I (0 : Int)), .ref a_out]) (wc := wc) (wr := [tl_ja (cy 2) a_out 1 o]) ⟨hx, hb, hml, hown, hts⟩ hM (cwV 1 hts tg_Lx_copy rfl hr1 hr2 td_Lx_copy ⟨by show rm.frames + 1 ≤ 8; omega, by show 8 + (3 + 11) + rm.locals ≤ 200; omega⟩) hE hK (hP.perm (List.perm_append_singleton _ _).symm) (hD.perm (List.perm_append_singleton _ _).symm) hS hA 10 hw0 rfl rfl rfl hl.1 rfl (Nat.le_of_ble_eq_true rfl) dL_copy_4 ⟨by show 0 + mc ≤ mc; omega, by show 0 + ms ≤ ms; omega⟩ (fun E ce q9 w1 H locs hp hP hD hS hce hcv hcl => ?_) (fun v w1 H locs hp hP hD hS => ?_)
  · have hP := hP.perm (List.perm_append_singleton _ _)
    have hD := hD.perm (List.perm_append_singleton _ _)
    refine vx_widen (k := mc) (n := ms) (by omega) (by omega) ?_
    obtain ⟨k, rfl, hk⟩ := hpx E w1 hp
    rcases lf_drop_c hk with rfl | rfl
    · refine vx_catch2 (name := "java/util/NoSuchElementException") hown [] { startPc := 0, endPc := 9, handlerPc := 12, catchType := 24 } [{ startPc := 0, endPc := 9, handlerPc := 15, catchType := 15 }] (by rw [htab]; rfl) (fun z hz => absurd hz List.not_mem_nil) (by decide) (by decide) (hts _ tw_429) (hN.2 1 (by decide)) hce hcv hcl ?_
      refine W.eq (g2 := F0 m 12 ls [.ref q9]) rfl ?_
      refine lv_astore_n (lv' := [(3, .ref q9), (0, .ref a_x), (1, .int (tl_I p1)), (2, .ref a_out)]) hx hb dL_copy_12 rfl hl (by decide) rfl (fun ls hl => ?_)
      refine lv_iconst (v := tl_I (1 : Int)) hx hb dL_copy_13 rfl ?_
      exact W.iret (v := tl_I (1 : Int)) hx hb hr (fun t ht hW => tl_fin hAe (Or.inr ⟨1, w1, hp, by decide, rfl, rfl⟩) hP hK hD hS ht hW) hS.2.2 dL_copy_14
    · refine vx_catch2 (name := "java/lang/IllegalStateException") hown [{ startPc := 0, endPc := 9, handlerPc := 12, catchType := 24 }] { startPc := 0, endPc := 9, handlerPc := 15, catchType := 15 } [] (by rw [htab]; rfl) (List.forall_mem_cons.mpr ⟨Or.inr ⟨by decide, _, hts _ tw_429, hN.1 5 1 (by decide) (by decide) (by decide)⟩, (fun z hz => absurd hz List.not_mem_nil)⟩) (by decide) (by decide) (hts _ tw_303) (hN.2 5 (by decide)) hce hcv hcl ?_
      refine W.eq (g2 := F0 m 15 ls [.ref q9]) rfl ?_
      refine lv_astore_n (lv' := [(3, .ref q9), (0, .ref a_x), (1, .int (tl_I p1)), (2, .ref a_out)]) hx hb dL_copy_15 rfl hl (by decide) rfl (fun ls hl => ?_)
      refine lv_iconst (v := tl_I (2 : Int)) hx hb dL_copy_16 rfl ?_
      exact W.iret (v := tl_I (2 : Int)) hx hb hr (fun t ht hW => tl_fin hAe (Or.inr ⟨5, w1, hp, by decide, rfl, rfl⟩) hP hK hD hS ht hW) hS.2.2 dL_copy_17
  · have hP := hP.perm (List.perm_append_singleton _ _)
    have hD := hD.perm (List.perm_append_singleton _ _)
    refine W.widen (k := mc) (n := ms) (by omega) (by omega) ?_
    obtain ⟨r, rfl⟩ := hpo v w1 hp
    refine W.eq (g2 := F0 m 7 ls [.int (tl_I r), .int (tl_I (0 : Int)), .ref a_out]) rfl ?_
    refine lv_i2l (v := (tl_I r).toInt64) hx hb dL_copy_7 rfl ?_
    refine ts_last hx hb ⟨by omega, by omega⟩ hK hP hD hS 0 2 rfl rfl (by decide) dL_copy_8 (fun H locs hP hD hS => ?_)
    refine lv_goto (tgt := 18) hx hb dL_copy_9 (by decide) ?_
    refine lv_iconst (v := tl_I (0 : Int)) hx hb dL_copy_18 rfl ?_
    exact W.iret (v := tl_I (0 : Int)) hx hb hr (fun t ht hW => tl_fin hAe (Or.inl ⟨r, w1, hp, rfl, rfl⟩) hP hK hD hS ht hW) hS.2.2 dL_copy_19
theorem tw_836 : (.methodLink RL 106 yL_alike : Cond) ∈ tl_T := tl_tin 836 (by decide +kernel) rfl
theorem tw_837 : (.static yL_alike : Cond) ∈ tl_T := tl_tin 837 (by decide +kernel) rfl
theorem tw_838 : (.codeWith yL_alike cL_alike 5 (some .int) [(0, 17, 20, 24)] : Cond) ∈ tl_T := tl_tin 838 (by decide +kernel) rfl
theorem tw_839 : (.methodLink RL 42 yX9_alike : Cond) ∈ tl_T := tl_tin 839 (by decide +kernel) rfl
theorem tw_840 : (.instanceMethod yX9_alike : Cond) ∈ tl_T := tl_tin 840 (by decide +kernel) rfl
theorem tw_841 : (.selects RX9 yX9_alike yX9_alike : Cond) ∈ tl_T := tl_tin 841 (by decide +kernel) rfl
theorem tw_842 : (.code yX9_alike cX9_alike 5 (some .boolean) : Cond) ∈ tl_T := tl_tin 842 (by decide +kernel) rfl
theorem td_L_alike : yL_alike.cls ≠ "java/lang/invoke/MethodHandle" ∧ yL_alike.cls ≠ "java/lang/invoke/VarHandle" ∧ (parseMethodDescriptor yL_alike.desc).map (fun d => d.parameters.length) = some 4 := by decide +kernel
theorem td_Lx_alike : yX9_alike.cls = RX9 ∧ yX9_alike.cls ≠ "java/lang/invoke/MethodHandle" ∧ yX9_alike.cls ≠ "java/lang/invoke/VarHandle" ∧ (parseMethodDescriptor yX9_alike.desc).map (fun d => d.parameters.length) = some 2 := by decide +kernel
theorem tg_L_alike : GoodIn tl_T (va_wsS RL 106 yL_alike (tl_wH yL_alike cL_alike 5 (some .int) [(0, 17, 20, 24)])) := tl_gSH tw_836 tw_837 tw_59 tw_838
theorem tg_Lx_alike : GoodIn tl_T (wsV RL 42 RX9 yX9_alike (tl_w yX9_alike cX9_alike 5 (some .boolean))) := tl_gV tw_839 tw_840 tw_841 tw_60 tw_842
set_option maxHeartbeats 4000000 in
theorem kt_L_alike (l : Launch) (D : va_G) (cy : Nat → ClassId) (sa : Nat → Nat) (a_x a_out : Nat) (p1 : Int) (p2 : Int) (o : Nat → Int64) (rm : Room) (wc : va_W) (fs : List Value) (mc ms : Nat) (post : Option Value → va_W → Prop) (px : String → va_W → Prop) (hw0 : wc[0]? = some (tl_ob a_x 10 fs)) (hM : tl_MX l D (tl_tys cy) sa yX9_alike (tl_w yX9_alike cX9_alike 5 (some .boolean)) rm (.ref a_x :: [.int (tl_I p1), .int (tl_I p2)]) wc mc ms post px) (hrm : rm.cells = mc ∧ rm.slots = ms ∧ rm.frames ≤ 7 ∧ rm.locals ≤ 160) (hpo : ∀ v w1, post v w1 → ∃ r : Int, v = some (.int (tl_I r))) (hpx : ∀ E w1, px E w1 → ∃ k : Nat, E = tl_ex k ∧ 0 < lf_way k) :
    tl_MY l D (tl_tys cy) sa yL_alike (tl_wH yL_alike cL_alike 5 (some .int) [(0, 17, 20, 24)]) { frames := 8, cells := mc, slots := ms, locals := 200 } [.ref a_x, .int (tl_I p1), .int (tl_I p2), .ref a_out] (tl_ja (cy 2) a_out 1 o :: wc) mc ms (lw_po cy a_out o (fun x => if x = 0 then 0 else 1) lf_way post px) := by
  refine tl_ofY (cc := cL_alike) (maxL := 5) (ret := (some .int)) (hh := [(0, 17, 20, 24)]) (by decide +kernel) (Nat.le_of_ble_eq_true rfl) ?_
  intro p e s m below meth c hx hb hr hml hts hown hlocks htab hE hN A hAe hA hP hK hD hS ls hl
  obtain ⟨hr1, hr2, hr3, hr4⟩ := hrm
  have hE : tl_E sa A s s.heap := by rw [hAe]; exact hE
  have hl : lv_has ls 5 [(0, .ref a_x), (1, .int (tl_I p1)), (2, .int (tl_I p2)), (3, .ref a_out)] := hl
  refine lv_aload_n hx hb dL_alike_0 rfl (lv_at hl 3 rfl) ?_
  refine lv_iconst (v := tl_I (0 : Int)) hx hb dL_alike_1 rfl ?_
  refine lv_aload_n hx hb dL_alike_2 rfl (lv_at hl 0 rfl) ?_
  refine lv_iload_n hx hb dL_alike_3 rfl (lv_at hl 1 rfl) ?_
  refine lv_iload_n hx hb dL_alike_4 rfl (lv_at hl 2 rfl) ?_
  refine tl_callVXA (As := [.int (tl_I p1), .int (tl_I p2)]) (rest := [.int (tl_I (0 : Int)), .ref a_out]) (wc := wc) (wr := [tl_ja (cy 2) a_out 1 o]) ⟨hx, hb, hml, hown, hts⟩ hM (cwV 2 hts tg_Lx_alike rfl hr1 hr2 td_Lx_alike ⟨by show rm.frames + 1 ≤ 8; omega, by show 8 + (5 + 11) + rm.locals ≤ 200; omega⟩) hE hK (hP.perm (List.perm_append_singleton _ _).symm) (hD.perm (List.perm_append_singleton _ _).symm) hS hA 10 hw0 rfl rfl rfl hl.1 rfl (Nat.le_of_ble_eq_true rfl) dL_alike_5 ⟨by show 0 + mc ≤ mc; omega, by show 0 + ms ≤ ms; omega⟩ (fun E ce q9 w1 H locs hp hP hD hS hce hcv hcl => ?_) (fun v w1 H locs hp hP hD hS => ?_)
  · have hP := hP.perm (List.perm_append_singleton _ _)
    have hD := hD.perm (List.perm_append_singleton _ _)
    refine vx_widen (k := mc) (n := ms) (by omega) (by omega) ?_
    obtain ⟨k, rfl, hk⟩ := hpx E w1 hp
    rcases lf_way_c hk with rfl
    · refine vx_catch2 (name := "java/util/NoSuchElementException") hown [] { startPc := 0, endPc := 17, handlerPc := 20, catchType := 24 } [] (by rw [htab]; rfl) (fun z hz => absurd hz List.not_mem_nil) (by decide) (by decide) (hts _ tw_429) (hN.2 1 (by decide)) hce hcv hcl ?_
      refine W.eq (g2 := F0 m 20 ls [.ref q9]) rfl ?_
      refine lv_astore (lv' := [(4, .ref q9), (0, .ref a_x), (1, .int (tl_I p1)), (2, .int (tl_I p2)), (3, .ref a_out)]) hx hb dL_alike_20 hl (by decide) rfl (fun ls hl => ?_)
      refine lv_iconst (v := tl_I (1 : Int)) hx hb dL_alike_22 rfl ?_
      exact W.iret (v := tl_I (1 : Int)) hx hb hr (fun t ht hW => tl_fin hAe (Or.inr ⟨1, w1, hp, by decide, rfl, rfl⟩) hP hK hD hS ht hW) hS.2.2 dL_alike_23
  · have hP := hP.perm (List.perm_append_singleton _ _)
    have hD := hD.perm (List.perm_append_singleton _ _)
    refine W.widen (k := mc) (n := ms) (by omega) (by omega) ?_
    obtain ⟨r, rfl⟩ := hpo v w1 hp
    refine W.eq (g2 := F0 m 8 ls [.int (tl_I r), .int (tl_I (0 : Int)), .ref a_out]) rfl ?_
    refine lv_if_eq (tgt := 15) hx hb dL_alike_8 (by decide) (fun hz => ?_) (fun hz => ?_)
    · refine lv_lconst (v := 0) hx hb dL_alike_15 rfl ?_
      refine ts_last hx hb ⟨by omega, by omega⟩ hK hP hD hS 0 2 rfl rfl (by decide) dL_alike_16 (fun H locs hP hD hS => ?_)
      refine lv_goto (tgt := 24) hx hb dL_alike_17 (by decide) ?_
      refine lv_iconst (v := tl_I (0 : Int)) hx hb dL_alike_24 rfl ?_
      exact W.iret (v := tl_I (0 : Int)) hx hb hr (fun t ht hW => tl_fin hAe (Or.inl ⟨r, w1, hp, rfl, by show _ = tl_ja (cy 2) a_out 1 (va_up o 0 (if tl_I r = 0 then 0 else 1)) :: w1; rw [if_pos hz]; rfl⟩) hP hK hD hS ht hW) hS.2.2 dL_alike_25
    · refine lv_lconst (v := 1) hx hb dL_alike_11 rfl ?_
      refine lv_goto (tgt := 16) hx hb dL_alike_12 (by decide) ?_
      refine ts_last hx hb ⟨by omega, by omega⟩ hK hP hD hS 0 2 rfl rfl (by decide) dL_alike_16 (fun H locs hP hD hS => ?_)
      refine lv_goto (tgt := 24) hx hb dL_alike_17 (by decide) ?_
      refine lv_iconst (v := tl_I (0 : Int)) hx hb dL_alike_24 rfl ?_
      exact W.iret (v := tl_I (0 : Int)) hx hb hr (fun t ht hW => tl_fin hAe (Or.inl ⟨r, w1, hp, rfl, by show _ = tl_ja (cy 2) a_out 1 (va_up o 0 (if tl_I r = 0 then 0 else 1)) :: w1; rw [if_neg hz]; rfl⟩) hP hK hD hS ht hW) hS.2.2 dL_alike_25
theorem tw_866 : (.methodLink RL 110 yL_at : Cond) ∈ tl_T := tl_tin 866 (by decide +kernel) rfl
theorem tw_867 : (.static yL_at : Cond) ∈ tl_T := tl_tin 867 (by decide +kernel) rfl
theorem tw_868 : (.codeWith yL_at cL_at 6 (some .int) [(0, 12, 15, 13), (0, 12, 19, 24), (0, 12, 23, 26), (0, 12, 27, 30)] : Cond) ∈ tl_T := tl_tin 868 (by decide +kernel) rfl
theorem tw_869 : (.methodLink RL 46 yX9_at : Cond) ∈ tl_T := tl_tin 869 (by decide +kernel) rfl
theorem tw_870 : (.instanceMethod yX9_at : Cond) ∈ tl_T := tl_tin 870 (by decide +kernel) rfl
theorem tw_871 : (.selects RX9 yX9_at yX9_at : Cond) ∈ tl_T := tl_tin 871 (by decide +kernel) rfl
theorem tw_872 : (.code yX9_at cX9_at 5 (some .int) : Cond) ∈ tl_T := tl_tin 872 (by decide +kernel) rfl
theorem td_L_at : yL_at.cls ≠ "java/lang/invoke/MethodHandle" ∧ yL_at.cls ≠ "java/lang/invoke/VarHandle" ∧ (parseMethodDescriptor yL_at.desc).map (fun d => d.parameters.length) = some 5 := by decide +kernel
theorem td_Lx_at : yX9_at.cls = RX9 ∧ yX9_at.cls ≠ "java/lang/invoke/MethodHandle" ∧ yX9_at.cls ≠ "java/lang/invoke/VarHandle" ∧ (parseMethodDescriptor yX9_at.desc).map (fun d => d.parameters.length) = some 3 := by decide +kernel
theorem tg_L_at : GoodIn tl_T (va_wsS RL 110 yL_at (tl_wH yL_at cL_at 6 (some .int) [(0, 12, 15, 13), (0, 12, 19, 24), (0, 12, 23, 26), (0, 12, 27, 30)])) := tl_gSH tw_866 tw_867 tw_59 tw_868
theorem tg_Lx_at : GoodIn tl_T (wsV RL 46 RX9 yX9_at (tl_w yX9_at cX9_at 5 (some .int))) := tl_gV tw_869 tw_870 tw_871 tw_60 tw_872
set_option maxHeartbeats 4000000 in
theorem kt_L_at (l : Launch) (D : va_G) (cy : Nat → ClassId) (sa : Nat → Nat) (a_x a_out : Nat) (p1 : Int) (p2 : Int) (p3 : Int) (o : Nat → Int64) (rm : Room) (wc : va_W) (fs : List Value) (mc ms : Nat) (post : Option Value → va_W → Prop) (px : String → va_W → Prop) (hw0 : wc[0]? = some (tl_ob a_x 10 fs)) (hM : tl_MX l D (tl_tys cy) sa yX9_at (tl_w yX9_at cX9_at 5 (some .int)) rm (.ref a_x :: [.int (tl_I p1), .int (tl_I p2), .int (tl_I p3)]) wc mc ms post px) (hrm : rm.cells = mc ∧ rm.slots = ms ∧ rm.frames ≤ 7 ∧ rm.locals ≤ 160) (hpo : ∀ v w1, post v w1 → ∃ r : Int, v = some (.int (tl_I r))) (hpx : ∀ E w1, px E w1 → ∃ k : Nat, E = tl_ex k ∧ 0 < lf_at k) :
    tl_MY l D (tl_tys cy) sa yL_at (tl_wH yL_at cL_at 6 (some .int) [(0, 12, 15, 13), (0, 12, 19, 24), (0, 12, 23, 26), (0, 12, 27, 30)]) { frames := 8, cells := mc, slots := ms, locals := 200 } [.ref a_x, .int (tl_I p1), .int (tl_I p2), .int (tl_I p3), .ref a_out] (tl_ja (cy 2) a_out 1 o :: wc) mc ms (lw_po cy a_out o (fun x => x.toInt64) lf_at post px) := by
  refine tl_ofY (cc := cL_at) (maxL := 6) (ret := (some .int)) (hh := [(0, 12, 15, 13), (0, 12, 19, 24), (0, 12, 23, 26), (0, 12, 27, 30)]) (by decide +kernel) (Nat.le_of_ble_eq_true rfl) ?_
  intro p e s m below meth c hx hb hr hml hts hown hlocks htab hE hN A hAe hA hP hK hD hS ls hl
  obtain ⟨hr1, hr2, hr3, hr4⟩ := hrm
  have hE : tl_E sa A s s.heap := by rw [hAe]; exact hE
  have hl : lv_has ls 6 [(0, .ref a_x), (1, .int (tl_I p1)), (2, .int (tl_I p2)), (3, .int (tl_I p3)), (4, .ref a_out)] := hl
  refine lv_aload hx hb dL_at_0 (lv_at hl 4 rfl) ?_
  refine lv_iconst (v := tl_I (0 : Int)) hx hb dL_at_2 rfl ?_
  refine lv_aload_n hx hb dL_at_3 rfl (lv_at hl 0 rfl) ?_
  refine lv_iload_n hx hb dL_at_4 rfl (lv_at hl 1 rfl) ?_
  refine lv_iload_n hx hb dL_at_5 rfl (lv_at hl 2 rfl) ?_
  refine lv_iload_n hx hb dL_at_6 rfl (lv_at hl 3 rfl) ?_
  refine tl_callVXA (As := [.int (tl_I p1), .int (tl_I p2), .int (tl_I p3)]) (rest := [.int (tl_I (0 : Int)), .ref a_out]) (wc := wc) (wr := [tl_ja (cy 2) a_out 1 o]) ⟨hx, hb, hml, hown, hts⟩ hM (cwV 3 hts tg_Lx_at rfl hr1 hr2 td_Lx_at ⟨by show rm.frames + 1 ≤ 8; omega, by show 8 + (5 + 11) + rm.locals ≤ 200; omega⟩) hE hK (hP.perm (List.perm_append_singleton _ _).symm) (hD.perm (List.perm_append_singleton _ _).symm) hS hA 10 hw0 rfl rfl rfl hl.1 rfl (Nat.le_of_ble_eq_true rfl) dL_at_7 ⟨by show 0 + mc ≤ mc; omega, by show 0 + ms ≤ ms; omega⟩ (fun E ce q9 w1 H locs hp hP hD hS hce hcv hcl => ?_) (fun v w1 H locs hp hP hD hS => ?_)
  · have hP := hP.perm (List.perm_append_singleton _ _)
    have hD := hD.perm (List.perm_append_singleton _ _)
    refine vx_widen (k := mc) (n := ms) (by omega) (by omega) ?_
    obtain ⟨k, rfl, hk⟩ := hpx E w1 hp
    rcases lf_at_c hk with rfl | rfl | rfl | rfl
    · refine vx_catch2 (name := "java/lang/IllegalArgumentException") hown [] { startPc := 0, endPc := 12, handlerPc := 15, catchType := 13 } [{ startPc := 0, endPc := 12, handlerPc := 19, catchType := 24 }, { startPc := 0, endPc := 12, handlerPc := 23, catchType := 26 }, { startPc := 0, endPc := 12, handlerPc := 27, catchType := 30 }] (by rw [htab]; rfl) (fun z hz => absurd hz List.not_mem_nil) (by decide) (by decide) (hts _ tw_302) (hN.2 0 (by decide)) hce hcv hcl ?_
      refine W.eq (g2 := F0 m 15 ls [.ref q9]) rfl ?_
      refine lv_astore (lv' := [(5, .ref q9), (0, .ref a_x), (1, .int (tl_I p1)), (2, .int (tl_I p2)), (3, .int (tl_I p3)), (4, .ref a_out)]) hx hb dL_at_15 hl (by decide) rfl (fun ls hl => ?_)
      refine lv_iconst (v := tl_I (1 : Int)) hx hb dL_at_17 rfl ?_
      exact W.iret (v := tl_I (1 : Int)) hx hb hr (fun t ht hW => tl_fin hAe (Or.inr ⟨0, w1, hp, by decide, rfl, rfl⟩) hP hK hD hS ht hW) hS.2.2 dL_at_18
    · refine vx_catch2 (name := "java/util/NoSuchElementException") hown [{ startPc := 0, endPc := 12, handlerPc := 15, catchType := 13 }] { startPc := 0, endPc := 12, handlerPc := 19, catchType := 24 } [{ startPc := 0, endPc := 12, handlerPc := 23, catchType := 26 }, { startPc := 0, endPc := 12, handlerPc := 27, catchType := 30 }] (by rw [htab]; rfl) (List.forall_mem_cons.mpr ⟨Or.inr ⟨by decide, _, hts _ tw_302, hN.1 1 0 (by decide) (by decide) (by decide)⟩, (fun z hz => absurd hz List.not_mem_nil)⟩) (by decide) (by decide) (hts _ tw_429) (hN.2 1 (by decide)) hce hcv hcl ?_
      refine W.eq (g2 := F0 m 19 ls [.ref q9]) rfl ?_
      refine lv_astore (lv' := [(5, .ref q9), (0, .ref a_x), (1, .int (tl_I p1)), (2, .int (tl_I p2)), (3, .int (tl_I p3)), (4, .ref a_out)]) hx hb dL_at_19 hl (by decide) rfl (fun ls hl => ?_)
      refine lv_iconst (v := tl_I (2 : Int)) hx hb dL_at_21 rfl ?_
      exact W.iret (v := tl_I (2 : Int)) hx hb hr (fun t ht hW => tl_fin hAe (Or.inr ⟨1, w1, hp, by decide, rfl, rfl⟩) hP hK hD hS ht hW) hS.2.2 dL_at_22
    · refine vx_catch2 (name := "java/lang/ClassCastException") hown [{ startPc := 0, endPc := 12, handlerPc := 15, catchType := 13 }, { startPc := 0, endPc := 12, handlerPc := 19, catchType := 24 }] { startPc := 0, endPc := 12, handlerPc := 23, catchType := 26 } [{ startPc := 0, endPc := 12, handlerPc := 27, catchType := 30 }] (by rw [htab]; rfl) (List.forall_mem_cons.mpr ⟨Or.inr ⟨by decide, _, hts _ tw_302, hN.1 2 0 (by decide) (by decide) (by decide)⟩, (List.forall_mem_cons.mpr ⟨Or.inr ⟨by decide, _, hts _ tw_429, hN.1 2 1 (by decide) (by decide) (by decide)⟩, (fun z hz => absurd hz List.not_mem_nil)⟩)⟩) (by decide) (by decide) (hts _ tw_430) (hN.2 2 (by decide)) hce hcv hcl ?_
      refine W.eq (g2 := F0 m 23 ls [.ref q9]) rfl ?_
      refine lv_astore (lv' := [(5, .ref q9), (0, .ref a_x), (1, .int (tl_I p1)), (2, .int (tl_I p2)), (3, .int (tl_I p3)), (4, .ref a_out)]) hx hb dL_at_23 hl (by decide) rfl (fun ls hl => ?_)
      refine lv_iconst (v := tl_I (3 : Int)) hx hb dL_at_25 rfl ?_
      exact W.iret (v := tl_I (3 : Int)) hx hb hr (fun t ht hW => tl_fin hAe (Or.inr ⟨2, w1, hp, by decide, rfl, rfl⟩) hP hK hD hS ht hW) hS.2.2 dL_at_26
    · refine vx_catch2 (name := "java/lang/IndexOutOfBoundsException") hown [{ startPc := 0, endPc := 12, handlerPc := 15, catchType := 13 }, { startPc := 0, endPc := 12, handlerPc := 19, catchType := 24 }, { startPc := 0, endPc := 12, handlerPc := 23, catchType := 26 }] { startPc := 0, endPc := 12, handlerPc := 27, catchType := 30 } [] (by rw [htab]; rfl) (List.forall_mem_cons.mpr ⟨Or.inr ⟨by decide, _, hts _ tw_302, hN.1 4 0 (by decide) (by decide) (by decide)⟩, (List.forall_mem_cons.mpr ⟨Or.inr ⟨by decide, _, hts _ tw_429, hN.1 4 1 (by decide) (by decide) (by decide)⟩, (List.forall_mem_cons.mpr ⟨Or.inr ⟨by decide, _, hts _ tw_430, hN.1 4 2 (by decide) (by decide) (by decide)⟩, (fun z hz => absurd hz List.not_mem_nil)⟩)⟩)⟩) (by decide) (by decide) (hts _ tw_432) (hN.2 4 (by decide)) hce hcv hcl ?_
      refine W.eq (g2 := F0 m 27 ls [.ref q9]) rfl ?_
      refine lv_astore (lv' := [(5, .ref q9), (0, .ref a_x), (1, .int (tl_I p1)), (2, .int (tl_I p2)), (3, .int (tl_I p3)), (4, .ref a_out)]) hx hb dL_at_27 hl (by decide) rfl (fun ls hl => ?_)
      refine lv_iconst (v := tl_I (4 : Int)) hx hb dL_at_29 rfl ?_
      exact W.iret (v := tl_I (4 : Int)) hx hb hr (fun t ht hW => tl_fin hAe (Or.inr ⟨4, w1, hp, by decide, rfl, rfl⟩) hP hK hD hS ht hW) hS.2.2 dL_at_30
  · have hP := hP.perm (List.perm_append_singleton _ _)
    have hD := hD.perm (List.perm_append_singleton _ _)
    refine W.widen (k := mc) (n := ms) (by omega) (by omega) ?_
    obtain ⟨r, rfl⟩ := hpo v w1 hp
    refine W.eq (g2 := F0 m 10 ls [.int (tl_I r), .int (tl_I (0 : Int)), .ref a_out]) rfl ?_
    refine lv_i2l (v := (tl_I r).toInt64) hx hb dL_at_10 rfl ?_
    refine ts_last hx hb ⟨by omega, by omega⟩ hK hP hD hS 0 2 rfl rfl (by decide) dL_at_11 (fun H locs hP hD hS => ?_)
    refine lv_goto (tgt := 31) hx hb dL_at_12 (by decide) ?_
    refine lv_iconst (v := tl_I (0 : Int)) hx hb dL_at_31 rfl ?_
    exact W.iret (v := tl_I (0 : Int)) hx hb hr (fun t ht hW => tl_fin hAe (Or.inl ⟨r, w1, hp, rfl, rfl⟩) hP hK hD hS ht hW) hS.2.2 dL_at_32
theorem tw_878 : (.methodLink RL 113 yL_back : Cond) ∈ tl_T := tl_tin 878 (by decide +kernel) rfl
theorem tw_879 : (.static yL_back : Cond) ∈ tl_T := tl_tin 879 (by decide +kernel) rfl
theorem tw_880 : (.codeWith yL_back cL_back 6 (some .int) [(0, 12, 15, 13), (0, 12, 19, 24), (0, 12, 23, 26), (0, 12, 27, 30)] : Cond) ∈ tl_T := tl_tin 880 (by decide +kernel) rfl
theorem tw_881 : (.methodLink RL 49 yX9_back : Cond) ∈ tl_T := tl_tin 881 (by decide +kernel) rfl
theorem tw_882 : (.instanceMethod yX9_back : Cond) ∈ tl_T := tl_tin 882 (by decide +kernel) rfl
theorem tw_883 : (.selects RX9 yX9_back yX9_back : Cond) ∈ tl_T := tl_tin 883 (by decide +kernel) rfl
theorem tw_884 : (.code yX9_back cX9_back 5 (some .int) : Cond) ∈ tl_T := tl_tin 884 (by decide +kernel) rfl
theorem td_L_back : yL_back.cls ≠ "java/lang/invoke/MethodHandle" ∧ yL_back.cls ≠ "java/lang/invoke/VarHandle" ∧ (parseMethodDescriptor yL_back.desc).map (fun d => d.parameters.length) = some 5 := by decide +kernel
theorem td_Lx_back : yX9_back.cls = RX9 ∧ yX9_back.cls ≠ "java/lang/invoke/MethodHandle" ∧ yX9_back.cls ≠ "java/lang/invoke/VarHandle" ∧ (parseMethodDescriptor yX9_back.desc).map (fun d => d.parameters.length) = some 3 := by decide +kernel
theorem tg_L_back : GoodIn tl_T (va_wsS RL 113 yL_back (tl_wH yL_back cL_back 6 (some .int) [(0, 12, 15, 13), (0, 12, 19, 24), (0, 12, 23, 26), (0, 12, 27, 30)])) := tl_gSH tw_878 tw_879 tw_59 tw_880
theorem tg_Lx_back : GoodIn tl_T (wsV RL 49 RX9 yX9_back (tl_w yX9_back cX9_back 5 (some .int))) := tl_gV tw_881 tw_882 tw_883 tw_60 tw_884
set_option maxHeartbeats 4000000 in
theorem kt_L_back (l : Launch) (D : va_G) (cy : Nat → ClassId) (sa : Nat → Nat) (a_x a_out : Nat) (p1 : Int) (p2 : Int) (p3 : Int) (o : Nat → Int64) (rm : Room) (wc : va_W) (fs : List Value) (mc ms : Nat) (post : Option Value → va_W → Prop) (px : String → va_W → Prop) (hw0 : wc[0]? = some (tl_ob a_x 10 fs)) (hM : tl_MX l D (tl_tys cy) sa yX9_back (tl_w yX9_back cX9_back 5 (some .int)) rm (.ref a_x :: [.int (tl_I p1), .int (tl_I p2), .int (tl_I p3)]) wc mc ms post px) (hrm : rm.cells = mc ∧ rm.slots = ms ∧ rm.frames ≤ 7 ∧ rm.locals ≤ 160) (hpo : ∀ v w1, post v w1 → ∃ r : Int, v = some (.int (tl_I r))) (hpx : ∀ E w1, px E w1 → ∃ k : Nat, E = tl_ex k ∧ 0 < lf_at k) :
    tl_MY l D (tl_tys cy) sa yL_back (tl_wH yL_back cL_back 6 (some .int) [(0, 12, 15, 13), (0, 12, 19, 24), (0, 12, 23, 26), (0, 12, 27, 30)]) { frames := 8, cells := mc, slots := ms, locals := 200 } [.ref a_x, .int (tl_I p1), .int (tl_I p2), .int (tl_I p3), .ref a_out] (tl_ja (cy 2) a_out 1 o :: wc) mc ms (lw_po cy a_out o (fun x => x.toInt64) lf_at post px) := by
  refine tl_ofY (cc := cL_back) (maxL := 6) (ret := (some .int)) (hh := [(0, 12, 15, 13), (0, 12, 19, 24), (0, 12, 23, 26), (0, 12, 27, 30)]) (by decide +kernel) (Nat.le_of_ble_eq_true rfl) ?_
  intro p e s m below meth c hx hb hr hml hts hown hlocks htab hE hN A hAe hA hP hK hD hS ls hl
  obtain ⟨hr1, hr2, hr3, hr4⟩ := hrm
  have hE : tl_E sa A s s.heap := by rw [hAe]; exact hE
  have hl : lv_has ls 6 [(0, .ref a_x), (1, .int (tl_I p1)), (2, .int (tl_I p2)), (3, .int (tl_I p3)), (4, .ref a_out)] := hl
  refine lv_aload hx hb dL_back_0 (lv_at hl 4 rfl) ?_
  refine lv_iconst (v := tl_I (0 : Int)) hx hb dL_back_2 rfl ?_
  refine lv_aload_n hx hb dL_back_3 rfl (lv_at hl 0 rfl) ?_
  refine lv_iload_n hx hb dL_back_4 rfl (lv_at hl 1 rfl) ?_
  refine lv_iload_n hx hb dL_back_5 rfl (lv_at hl 2 rfl) ?_
  refine lv_iload_n hx hb dL_back_6 rfl (lv_at hl 3 rfl) ?_
  refine tl_callVXA (As := [.int (tl_I p1), .int (tl_I p2), .int (tl_I p3)]) (rest := [.int (tl_I (0 : Int)), .ref a_out]) (wc := wc) (wr := [tl_ja (cy 2) a_out 1 o]) ⟨hx, hb, hml, hown, hts⟩ hM (cwV 3 hts tg_Lx_back rfl hr1 hr2 td_Lx_back ⟨by show rm.frames + 1 ≤ 8; omega, by show 8 + (5 + 11) + rm.locals ≤ 200; omega⟩) hE hK (hP.perm (List.perm_append_singleton _ _).symm) (hD.perm (List.perm_append_singleton _ _).symm) hS hA 10 hw0 rfl rfl rfl hl.1 rfl (Nat.le_of_ble_eq_true rfl) dL_back_7 ⟨by show 0 + mc ≤ mc; omega, by show 0 + ms ≤ ms; omega⟩ (fun E ce q9 w1 H locs hp hP hD hS hce hcv hcl => ?_) (fun v w1 H locs hp hP hD hS => ?_)
  · have hP := hP.perm (List.perm_append_singleton _ _)
    have hD := hD.perm (List.perm_append_singleton _ _)
    refine vx_widen (k := mc) (n := ms) (by omega) (by omega) ?_
    obtain ⟨k, rfl, hk⟩ := hpx E w1 hp
    rcases lf_at_c hk with rfl | rfl | rfl | rfl
    · refine vx_catch2 (name := "java/lang/IllegalArgumentException") hown [] { startPc := 0, endPc := 12, handlerPc := 15, catchType := 13 } [{ startPc := 0, endPc := 12, handlerPc := 19, catchType := 24 }, { startPc := 0, endPc := 12, handlerPc := 23, catchType := 26 }, { startPc := 0, endPc := 12, handlerPc := 27, catchType := 30 }] (by rw [htab]; rfl) (fun z hz => absurd hz List.not_mem_nil) (by decide) (by decide) (hts _ tw_302) (hN.2 0 (by decide)) hce hcv hcl ?_
      refine W.eq (g2 := F0 m 15 ls [.ref q9]) rfl ?_
      refine lv_astore (lv' := [(5, .ref q9), (0, .ref a_x), (1, .int (tl_I p1)), (2, .int (tl_I p2)), (3, .int (tl_I p3)), (4, .ref a_out)]) hx hb dL_back_15 hl (by decide) rfl (fun ls hl => ?_)
      refine lv_iconst (v := tl_I (1 : Int)) hx hb dL_back_17 rfl ?_
      exact W.iret (v := tl_I (1 : Int)) hx hb hr (fun t ht hW => tl_fin hAe (Or.inr ⟨0, w1, hp, by decide, rfl, rfl⟩) hP hK hD hS ht hW) hS.2.2 dL_back_18
    · refine vx_catch2 (name := "java/util/NoSuchElementException") hown [{ startPc := 0, endPc := 12, handlerPc := 15, catchType := 13 }] { startPc := 0, endPc := 12, handlerPc := 19, catchType := 24 } [{ startPc := 0, endPc := 12, handlerPc := 23, catchType := 26 }, { startPc := 0, endPc := 12, handlerPc := 27, catchType := 30 }] (by rw [htab]; rfl) (List.forall_mem_cons.mpr ⟨Or.inr ⟨by decide, _, hts _ tw_302, hN.1 1 0 (by decide) (by decide) (by decide)⟩, (fun z hz => absurd hz List.not_mem_nil)⟩) (by decide) (by decide) (hts _ tw_429) (hN.2 1 (by decide)) hce hcv hcl ?_
      refine W.eq (g2 := F0 m 19 ls [.ref q9]) rfl ?_
      refine lv_astore (lv' := [(5, .ref q9), (0, .ref a_x), (1, .int (tl_I p1)), (2, .int (tl_I p2)), (3, .int (tl_I p3)), (4, .ref a_out)]) hx hb dL_back_19 hl (by decide) rfl (fun ls hl => ?_)
      refine lv_iconst (v := tl_I (2 : Int)) hx hb dL_back_21 rfl ?_
      exact W.iret (v := tl_I (2 : Int)) hx hb hr (fun t ht hW => tl_fin hAe (Or.inr ⟨1, w1, hp, by decide, rfl, rfl⟩) hP hK hD hS ht hW) hS.2.2 dL_back_22
    · refine vx_catch2 (name := "java/lang/ClassCastException") hown [{ startPc := 0, endPc := 12, handlerPc := 15, catchType := 13 }, { startPc := 0, endPc := 12, handlerPc := 19, catchType := 24 }] { startPc := 0, endPc := 12, handlerPc := 23, catchType := 26 } [{ startPc := 0, endPc := 12, handlerPc := 27, catchType := 30 }] (by rw [htab]; rfl) (List.forall_mem_cons.mpr ⟨Or.inr ⟨by decide, _, hts _ tw_302, hN.1 2 0 (by decide) (by decide) (by decide)⟩, (List.forall_mem_cons.mpr ⟨Or.inr ⟨by decide, _, hts _ tw_429, hN.1 2 1 (by decide) (by decide) (by decide)⟩, (fun z hz => absurd hz List.not_mem_nil)⟩)⟩) (by decide) (by decide) (hts _ tw_430) (hN.2 2 (by decide)) hce hcv hcl ?_
      refine W.eq (g2 := F0 m 23 ls [.ref q9]) rfl ?_
      refine lv_astore (lv' := [(5, .ref q9), (0, .ref a_x), (1, .int (tl_I p1)), (2, .int (tl_I p2)), (3, .int (tl_I p3)), (4, .ref a_out)]) hx hb dL_back_23 hl (by decide) rfl (fun ls hl => ?_)
      refine lv_iconst (v := tl_I (3 : Int)) hx hb dL_back_25 rfl ?_
      exact W.iret (v := tl_I (3 : Int)) hx hb hr (fun t ht hW => tl_fin hAe (Or.inr ⟨2, w1, hp, by decide, rfl, rfl⟩) hP hK hD hS ht hW) hS.2.2 dL_back_26
    · refine vx_catch2 (name := "java/lang/IndexOutOfBoundsException") hown [{ startPc := 0, endPc := 12, handlerPc := 15, catchType := 13 }, { startPc := 0, endPc := 12, handlerPc := 19, catchType := 24 }, { startPc := 0, endPc := 12, handlerPc := 23, catchType := 26 }] { startPc := 0, endPc := 12, handlerPc := 27, catchType := 30 } [] (by rw [htab]; rfl) (List.forall_mem_cons.mpr ⟨Or.inr ⟨by decide, _, hts _ tw_302, hN.1 4 0 (by decide) (by decide) (by decide)⟩, (List.forall_mem_cons.mpr ⟨Or.inr ⟨by decide, _, hts _ tw_429, hN.1 4 1 (by decide) (by decide) (by decide)⟩, (List.forall_mem_cons.mpr ⟨Or.inr ⟨by decide, _, hts _ tw_430, hN.1 4 2 (by decide) (by decide) (by decide)⟩, (fun z hz => absurd hz List.not_mem_nil)⟩)⟩)⟩) (by decide) (by decide) (hts _ tw_432) (hN.2 4 (by decide)) hce hcv hcl ?_
      refine W.eq (g2 := F0 m 27 ls [.ref q9]) rfl ?_
      refine lv_astore (lv' := [(5, .ref q9), (0, .ref a_x), (1, .int (tl_I p1)), (2, .int (tl_I p2)), (3, .int (tl_I p3)), (4, .ref a_out)]) hx hb dL_back_27 hl (by decide) rfl (fun ls hl => ?_)
      refine lv_iconst (v := tl_I (4 : Int)) hx hb dL_back_29 rfl ?_
      exact W.iret (v := tl_I (4 : Int)) hx hb hr (fun t ht hW => tl_fin hAe (Or.inr ⟨4, w1, hp, by decide, rfl, rfl⟩) hP hK hD hS ht hW) hS.2.2 dL_back_30
  · have hP := hP.perm (List.perm_append_singleton _ _)
    have hD := hD.perm (List.perm_append_singleton _ _)
    refine W.widen (k := mc) (n := ms) (by omega) (by omega) ?_
    obtain ⟨r, rfl⟩ := hpo v w1 hp
    refine W.eq (g2 := F0 m 10 ls [.int (tl_I r), .int (tl_I (0 : Int)), .ref a_out]) rfl ?_
    refine lv_i2l (v := (tl_I r).toInt64) hx hb dL_back_10 rfl ?_
    refine ts_last hx hb ⟨by omega, by omega⟩ hK hP hD hS 0 2 rfl rfl (by decide) dL_back_11 (fun H locs hP hD hS => ?_)
    refine lv_goto (tgt := 31) hx hb dL_back_12 (by decide) ?_
    refine lv_iconst (v := tl_I (0 : Int)) hx hb dL_back_31 rfl ?_
    exact W.iret (v := tl_I (0 : Int)) hx hb hr (fun t ht hW => tl_fin hAe (Or.inl ⟨r, w1, hp, rfl, rfl⟩) hP hK hD hS ht hW) hS.2.2 dL_back_32
theorem tw_885 : (.methodLink RL 116 yL_ask : Cond) ∈ tl_T := tl_tin 885 (by decide +kernel) rfl
theorem tw_886 : (.static yL_ask : Cond) ∈ tl_T := tl_tin 886 (by decide +kernel) rfl
theorem tw_887 : (.codeWith yL_ask cL_ask 5 (some .int) [(0, 10, 13, 13), (0, 10, 17, 24)] : Cond) ∈ tl_T := tl_tin 887 (by decide +kernel) rfl
theorem tw_888 : (.methodLink RL 52 yX9_ask : Cond) ∈ tl_T := tl_tin 888 (by decide +kernel) rfl
theorem tw_889 : (.instanceMethod yX9_ask : Cond) ∈ tl_T := tl_tin 889 (by decide +kernel) rfl
theorem tw_890 : (.selects RX9 yX9_ask yX9_ask : Cond) ∈ tl_T := tl_tin 890 (by decide +kernel) rfl
theorem tw_891 : (.code yX9_ask cX9_ask 4 (some .int) : Cond) ∈ tl_T := tl_tin 891 (by decide +kernel) rfl
theorem td_L_ask : yL_ask.cls ≠ "java/lang/invoke/MethodHandle" ∧ yL_ask.cls ≠ "java/lang/invoke/VarHandle" ∧ (parseMethodDescriptor yL_ask.desc).map (fun d => d.parameters.length) = some 4 := by decide +kernel
theorem td_Lx_ask : yX9_ask.cls = RX9 ∧ yX9_ask.cls ≠ "java/lang/invoke/MethodHandle" ∧ yX9_ask.cls ≠ "java/lang/invoke/VarHandle" ∧ (parseMethodDescriptor yX9_ask.desc).map (fun d => d.parameters.length) = some 2 := by decide +kernel
theorem tg_L_ask : GoodIn tl_T (va_wsS RL 116 yL_ask (tl_wH yL_ask cL_ask 5 (some .int) [(0, 10, 13, 13), (0, 10, 17, 24)])) := tl_gSH tw_885 tw_886 tw_59 tw_887
theorem tg_Lx_ask : GoodIn tl_T (wsV RL 52 RX9 yX9_ask (tl_w yX9_ask cX9_ask 4 (some .int))) := tl_gV tw_888 tw_889 tw_890 tw_60 tw_891
set_option maxHeartbeats 4000000 in
theorem kt_L_ask (l : Launch) (D : va_G) (cy : Nat → ClassId) (sa : Nat → Nat) (a_x a_out : Nat) (p1 : Int) (p2 : Int) (o : Nat → Int64) (rm : Room) (wc : va_W) (fs : List Value) (mc ms : Nat) (post : Option Value → va_W → Prop) (px : String → va_W → Prop) (hw0 : wc[0]? = some (tl_ob a_x 10 fs)) (hM : tl_MX l D (tl_tys cy) sa yX9_ask (tl_w yX9_ask cX9_ask 4 (some .int)) rm (.ref a_x :: [.int (tl_I p1), .int (tl_I p2)]) wc mc ms post px) (hrm : rm.cells = mc ∧ rm.slots = ms ∧ rm.frames ≤ 7 ∧ rm.locals ≤ 160) (hpo : ∀ v w1, post v w1 → ∃ r : Int, v = some (.int (tl_I r))) (hpx : ∀ E w1, px E w1 → ∃ k : Nat, E = tl_ex k ∧ 0 < lf_ask k) :
    tl_MY l D (tl_tys cy) sa yL_ask (tl_wH yL_ask cL_ask 5 (some .int) [(0, 10, 13, 13), (0, 10, 17, 24)]) { frames := 8, cells := mc, slots := ms, locals := 200 } [.ref a_x, .int (tl_I p1), .int (tl_I p2), .ref a_out] (tl_ja (cy 2) a_out 1 o :: wc) mc ms (lw_po cy a_out o (fun x => x.toInt64) lf_ask post px) := by
  refine tl_ofY (cc := cL_ask) (maxL := 5) (ret := (some .int)) (hh := [(0, 10, 13, 13), (0, 10, 17, 24)]) (by decide +kernel) (Nat.le_of_ble_eq_true rfl) ?_
  intro p e s m below meth c hx hb hr hml hts hown hlocks htab hE hN A hAe hA hP hK hD hS ls hl
  obtain ⟨hr1, hr2, hr3, hr4⟩ := hrm
  have hE : tl_E sa A s s.heap := by rw [hAe]; exact hE
  have hl : lv_has ls 5 [(0, .ref a_x), (1, .int (tl_I p1)), (2, .int (tl_I p2)), (3, .ref a_out)] := hl
  refine lv_aload_n hx hb dL_ask_0 rfl (lv_at hl 3 rfl) ?_
  refine lv_iconst (v := tl_I (0 : Int)) hx hb dL_ask_1 rfl ?_
  refine lv_aload_n hx hb dL_ask_2 rfl (lv_at hl 0 rfl) ?_
  refine lv_iload_n hx hb dL_ask_3 rfl (lv_at hl 1 rfl) ?_
  refine lv_iload_n hx hb dL_ask_4 rfl (lv_at hl 2 rfl) ?_
  refine tl_callVXA (As := [.int (tl_I p1), .int (tl_I p2)]) (rest := [.int (tl_I (0 : Int)), .ref a_out]) (wc := wc) (wr := [tl_ja (cy 2) a_out 1 o]) ⟨hx, hb, hml, hown, hts⟩ hM (cwV 2 hts tg_Lx_ask rfl hr1 hr2 td_Lx_ask ⟨by show rm.frames + 1 ≤ 8; omega, by show 8 + (4 + 11) + rm.locals ≤ 200; omega⟩) hE hK (hP.perm (List.perm_append_singleton _ _).symm) (hD.perm (List.perm_append_singleton _ _).symm) hS hA 10 hw0 rfl rfl rfl hl.1 rfl (Nat.le_of_ble_eq_true rfl) dL_ask_5 ⟨by show 0 + mc ≤ mc; omega, by show 0 + ms ≤ ms; omega⟩ (fun E ce q9 w1 H locs hp hP hD hS hce hcv hcl => ?_) (fun v w1 H locs hp hP hD hS => ?_)
  · have hP := hP.perm (List.perm_append_singleton _ _)
    have hD := hD.perm (List.perm_append_singleton _ _)
    refine vx_widen (k := mc) (n := ms) (by omega) (by omega) ?_
    obtain ⟨k, rfl, hk⟩ := hpx E w1 hp
    rcases lf_ask_c hk with rfl | rfl
    · refine vx_catch2 (name := "java/lang/IllegalArgumentException") hown [] { startPc := 0, endPc := 10, handlerPc := 13, catchType := 13 } [{ startPc := 0, endPc := 10, handlerPc := 17, catchType := 24 }] (by rw [htab]; rfl) (fun z hz => absurd hz List.not_mem_nil) (by decide) (by decide) (hts _ tw_302) (hN.2 0 (by decide)) hce hcv hcl ?_
      refine W.eq (g2 := F0 m 13 ls [.ref q9]) rfl ?_
      refine lv_astore (lv' := [(4, .ref q9), (0, .ref a_x), (1, .int (tl_I p1)), (2, .int (tl_I p2)), (3, .ref a_out)]) hx hb dL_ask_13 hl (by decide) rfl (fun ls hl => ?_)
      refine lv_iconst (v := tl_I (1 : Int)) hx hb dL_ask_15 rfl ?_
      exact W.iret (v := tl_I (1 : Int)) hx hb hr (fun t ht hW => tl_fin hAe (Or.inr ⟨0, w1, hp, by decide, rfl, rfl⟩) hP hK hD hS ht hW) hS.2.2 dL_ask_16
    · refine vx_catch2 (name := "java/util/NoSuchElementException") hown [{ startPc := 0, endPc := 10, handlerPc := 13, catchType := 13 }] { startPc := 0, endPc := 10, handlerPc := 17, catchType := 24 } [] (by rw [htab]; rfl) (List.forall_mem_cons.mpr ⟨Or.inr ⟨by decide, _, hts _ tw_302, hN.1 1 0 (by decide) (by decide) (by decide)⟩, (fun z hz => absurd hz List.not_mem_nil)⟩) (by decide) (by decide) (hts _ tw_429) (hN.2 1 (by decide)) hce hcv hcl ?_
      refine W.eq (g2 := F0 m 17 ls [.ref q9]) rfl ?_
      refine lv_astore (lv' := [(4, .ref q9), (0, .ref a_x), (1, .int (tl_I p1)), (2, .int (tl_I p2)), (3, .ref a_out)]) hx hb dL_ask_17 hl (by decide) rfl (fun ls hl => ?_)
      refine lv_iconst (v := tl_I (2 : Int)) hx hb dL_ask_19 rfl ?_
      exact W.iret (v := tl_I (2 : Int)) hx hb hr (fun t ht hW => tl_fin hAe (Or.inr ⟨1, w1, hp, by decide, rfl, rfl⟩) hP hK hD hS ht hW) hS.2.2 dL_ask_20
  · have hP := hP.perm (List.perm_append_singleton _ _)
    have hD := hD.perm (List.perm_append_singleton _ _)
    refine W.widen (k := mc) (n := ms) (by omega) (by omega) ?_
    obtain ⟨r, rfl⟩ := hpo v w1 hp
    refine W.eq (g2 := F0 m 8 ls [.int (tl_I r), .int (tl_I (0 : Int)), .ref a_out]) rfl ?_
    refine lv_i2l (v := (tl_I r).toInt64) hx hb dL_ask_8 rfl ?_
    refine ts_last hx hb ⟨by omega, by omega⟩ hK hP hD hS 0 2 rfl rfl (by decide) dL_ask_9 (fun H locs hP hD hS => ?_)
    refine lv_goto (tgt := 21) hx hb dL_ask_10 (by decide) ?_
    refine lv_iconst (v := tl_I (0 : Int)) hx hb dL_ask_21 rfl ?_
    exact W.iret (v := tl_I (0 : Int)) hx hb hr (fun t ht hW => tl_fin hAe (Or.inl ⟨r, w1, hp, rfl, rfl⟩) hP hK hD hS ht hW) hS.2.2 dL_ask_22
theorem tw_908 : (.methodLink RL 119 yL_size : Cond) ∈ tl_T := tl_tin 908 (by decide +kernel) rfl
theorem tw_909 : (.static yL_size : Cond) ∈ tl_T := tl_tin 909 (by decide +kernel) rfl
theorem tw_910 : (.codeWith yL_size cL_size 6 (some .int) [(0, 12, 15, 13), (0, 12, 19, 24), (0, 12, 23, 26)] : Cond) ∈ tl_T := tl_tin 910 (by decide +kernel) rfl
theorem tw_911 : (.methodLink RL 56 yX9_size : Cond) ∈ tl_T := tl_tin 911 (by decide +kernel) rfl
theorem tw_912 : (.instanceMethod yX9_size : Cond) ∈ tl_T := tl_tin 912 (by decide +kernel) rfl
theorem tw_913 : (.selects RX9 yX9_size yX9_size : Cond) ∈ tl_T := tl_tin 913 (by decide +kernel) rfl
theorem tw_914 : (.code yX9_size cX9_size 6 (some .int) : Cond) ∈ tl_T := tl_tin 914 (by decide +kernel) rfl
theorem td_L_size : yL_size.cls ≠ "java/lang/invoke/MethodHandle" ∧ yL_size.cls ≠ "java/lang/invoke/VarHandle" ∧ (parseMethodDescriptor yL_size.desc).map (fun d => d.parameters.length) = some 5 := by decide +kernel
theorem td_Lx_size : yX9_size.cls = RX9 ∧ yX9_size.cls ≠ "java/lang/invoke/MethodHandle" ∧ yX9_size.cls ≠ "java/lang/invoke/VarHandle" ∧ (parseMethodDescriptor yX9_size.desc).map (fun d => d.parameters.length) = some 3 := by decide +kernel
theorem tg_L_size : GoodIn tl_T (va_wsS RL 119 yL_size (tl_wH yL_size cL_size 6 (some .int) [(0, 12, 15, 13), (0, 12, 19, 24), (0, 12, 23, 26)])) := tl_gSH tw_908 tw_909 tw_59 tw_910
theorem tg_Lx_size : GoodIn tl_T (wsV RL 56 RX9 yX9_size (tl_w yX9_size cX9_size 6 (some .int))) := tl_gV tw_911 tw_912 tw_913 tw_60 tw_914
set_option maxHeartbeats 4000000 in
theorem kt_L_size (l : Launch) (D : va_G) (cy : Nat → ClassId) (sa : Nat → Nat) (a_x a_out : Nat) (p1 : Int) (p2 : Int) (p3 : Int) (o : Nat → Int64) (rm : Room) (wc : va_W) (fs : List Value) (mc ms : Nat) (post : Option Value → va_W → Prop) (px : String → va_W → Prop) (hw0 : wc[0]? = some (tl_ob a_x 10 fs)) (hM : tl_MX l D (tl_tys cy) sa yX9_size (tl_w yX9_size cX9_size 6 (some .int)) rm (.ref a_x :: [.int (tl_I p1), .int (tl_I p2), .int (tl_I p3)]) wc mc ms post px) (hrm : rm.cells = mc ∧ rm.slots = ms ∧ rm.frames ≤ 7 ∧ rm.locals ≤ 160) (hpo : ∀ v w1, post v w1 → ∃ r : Int, v = some (.int (tl_I r))) (hpx : ∀ E w1, px E w1 → ∃ k : Nat, E = tl_ex k ∧ 0 < lf_cut k) :
    tl_MY l D (tl_tys cy) sa yL_size (tl_wH yL_size cL_size 6 (some .int) [(0, 12, 15, 13), (0, 12, 19, 24), (0, 12, 23, 26)]) { frames := 8, cells := mc, slots := ms, locals := 200 } [.ref a_x, .int (tl_I p1), .int (tl_I p2), .int (tl_I p3), .ref a_out] (tl_ja (cy 2) a_out 1 o :: wc) mc ms (lw_po cy a_out o (fun x => x.toInt64) lf_cut post px) := by
  refine tl_ofY (cc := cL_size) (maxL := 6) (ret := (some .int)) (hh := [(0, 12, 15, 13), (0, 12, 19, 24), (0, 12, 23, 26)]) (by decide +kernel) (Nat.le_of_ble_eq_true rfl) ?_
  intro p e s m below meth c hx hb hr hml hts hown hlocks htab hE hN A hAe hA hP hK hD hS ls hl
  obtain ⟨hr1, hr2, hr3, hr4⟩ := hrm
  have hE : tl_E sa A s s.heap := by rw [hAe]; exact hE
  have hl : lv_has ls 6 [(0, .ref a_x), (1, .int (tl_I p1)), (2, .int (tl_I p2)), (3, .int (tl_I p3)), (4, .ref a_out)] := hl
  refine lv_aload hx hb dL_size_0 (lv_at hl 4 rfl) ?_
  refine lv_iconst (v := tl_I (0 : Int)) hx hb dL_size_2 rfl ?_
  refine lv_aload_n hx hb dL_size_3 rfl (lv_at hl 0 rfl) ?_
  refine lv_iload_n hx hb dL_size_4 rfl (lv_at hl 1 rfl) ?_
  refine lv_iload_n hx hb dL_size_5 rfl (lv_at hl 2 rfl) ?_
  refine lv_iload_n hx hb dL_size_6 rfl (lv_at hl 3 rfl) ?_
  refine tl_callVXA (As := [.int (tl_I p1), .int (tl_I p2), .int (tl_I p3)]) (rest := [.int (tl_I (0 : Int)), .ref a_out]) (wc := wc) (wr := [tl_ja (cy 2) a_out 1 o]) ⟨hx, hb, hml, hown, hts⟩ hM (cwV 3 hts tg_Lx_size rfl hr1 hr2 td_Lx_size ⟨by show rm.frames + 1 ≤ 8; omega, by show 8 + (6 + 11) + rm.locals ≤ 200; omega⟩) hE hK (hP.perm (List.perm_append_singleton _ _).symm) (hD.perm (List.perm_append_singleton _ _).symm) hS hA 10 hw0 rfl rfl rfl hl.1 rfl (Nat.le_of_ble_eq_true rfl) dL_size_7 ⟨by show 0 + mc ≤ mc; omega, by show 0 + ms ≤ ms; omega⟩ (fun E ce q9 w1 H locs hp hP hD hS hce hcv hcl => ?_) (fun v w1 H locs hp hP hD hS => ?_)
  · have hP := hP.perm (List.perm_append_singleton _ _)
    have hD := hD.perm (List.perm_append_singleton _ _)
    refine vx_widen (k := mc) (n := ms) (by omega) (by omega) ?_
    obtain ⟨k, rfl, hk⟩ := hpx E w1 hp
    rcases lf_cut_c hk with rfl | rfl | rfl
    · refine vx_catch2 (name := "java/lang/IllegalArgumentException") hown [] { startPc := 0, endPc := 12, handlerPc := 15, catchType := 13 } [{ startPc := 0, endPc := 12, handlerPc := 19, catchType := 24 }, { startPc := 0, endPc := 12, handlerPc := 23, catchType := 26 }] (by rw [htab]; rfl) (fun z hz => absurd hz List.not_mem_nil) (by decide) (by decide) (hts _ tw_302) (hN.2 0 (by decide)) hce hcv hcl ?_
      refine W.eq (g2 := F0 m 15 ls [.ref q9]) rfl ?_
      refine lv_astore (lv' := [(5, .ref q9), (0, .ref a_x), (1, .int (tl_I p1)), (2, .int (tl_I p2)), (3, .int (tl_I p3)), (4, .ref a_out)]) hx hb dL_size_15 hl (by decide) rfl (fun ls hl => ?_)
      refine lv_iconst (v := tl_I (1 : Int)) hx hb dL_size_17 rfl ?_
      exact W.iret (v := tl_I (1 : Int)) hx hb hr (fun t ht hW => tl_fin hAe (Or.inr ⟨0, w1, hp, by decide, rfl, rfl⟩) hP hK hD hS ht hW) hS.2.2 dL_size_18
    · refine vx_catch2 (name := "java/util/NoSuchElementException") hown [{ startPc := 0, endPc := 12, handlerPc := 15, catchType := 13 }] { startPc := 0, endPc := 12, handlerPc := 19, catchType := 24 } [{ startPc := 0, endPc := 12, handlerPc := 23, catchType := 26 }] (by rw [htab]; rfl) (List.forall_mem_cons.mpr ⟨Or.inr ⟨by decide, _, hts _ tw_302, hN.1 1 0 (by decide) (by decide) (by decide)⟩, (fun z hz => absurd hz List.not_mem_nil)⟩) (by decide) (by decide) (hts _ tw_429) (hN.2 1 (by decide)) hce hcv hcl ?_
      refine W.eq (g2 := F0 m 19 ls [.ref q9]) rfl ?_
      refine lv_astore (lv' := [(5, .ref q9), (0, .ref a_x), (1, .int (tl_I p1)), (2, .int (tl_I p2)), (3, .int (tl_I p3)), (4, .ref a_out)]) hx hb dL_size_19 hl (by decide) rfl (fun ls hl => ?_)
      refine lv_iconst (v := tl_I (2 : Int)) hx hb dL_size_21 rfl ?_
      exact W.iret (v := tl_I (2 : Int)) hx hb hr (fun t ht hW => tl_fin hAe (Or.inr ⟨1, w1, hp, by decide, rfl, rfl⟩) hP hK hD hS ht hW) hS.2.2 dL_size_22
    · refine vx_catch2 (name := "java/lang/ClassCastException") hown [{ startPc := 0, endPc := 12, handlerPc := 15, catchType := 13 }, { startPc := 0, endPc := 12, handlerPc := 19, catchType := 24 }] { startPc := 0, endPc := 12, handlerPc := 23, catchType := 26 } [] (by rw [htab]; rfl) (List.forall_mem_cons.mpr ⟨Or.inr ⟨by decide, _, hts _ tw_302, hN.1 2 0 (by decide) (by decide) (by decide)⟩, (List.forall_mem_cons.mpr ⟨Or.inr ⟨by decide, _, hts _ tw_429, hN.1 2 1 (by decide) (by decide) (by decide)⟩, (fun z hz => absurd hz List.not_mem_nil)⟩)⟩) (by decide) (by decide) (hts _ tw_430) (hN.2 2 (by decide)) hce hcv hcl ?_
      refine W.eq (g2 := F0 m 23 ls [.ref q9]) rfl ?_
      refine lv_astore (lv' := [(5, .ref q9), (0, .ref a_x), (1, .int (tl_I p1)), (2, .int (tl_I p2)), (3, .int (tl_I p3)), (4, .ref a_out)]) hx hb dL_size_23 hl (by decide) rfl (fun ls hl => ?_)
      refine lv_iconst (v := tl_I (3 : Int)) hx hb dL_size_25 rfl ?_
      exact W.iret (v := tl_I (3 : Int)) hx hb hr (fun t ht hW => tl_fin hAe (Or.inr ⟨2, w1, hp, by decide, rfl, rfl⟩) hP hK hD hS ht hW) hS.2.2 dL_size_26
  · have hP := hP.perm (List.perm_append_singleton _ _)
    have hD := hD.perm (List.perm_append_singleton _ _)
    refine W.widen (k := mc) (n := ms) (by omega) (by omega) ?_
    obtain ⟨r, rfl⟩ := hpo v w1 hp
    refine W.eq (g2 := F0 m 10 ls [.int (tl_I r), .int (tl_I (0 : Int)), .ref a_out]) rfl ?_
    refine lv_i2l (v := (tl_I r).toInt64) hx hb dL_size_10 rfl ?_
    refine ts_last hx hb ⟨by omega, by omega⟩ hK hP hD hS 0 2 rfl rfl (by decide) dL_size_11 (fun H locs hP hD hS => ?_)
    refine lv_goto (tgt := 27) hx hb dL_size_12 (by decide) ?_
    refine lv_iconst (v := tl_I (0 : Int)) hx hb dL_size_27 rfl ?_
    exact W.iret (v := tl_I (0 : Int)) hx hb hr (fun t ht hW => tl_fin hAe (Or.inl ⟨r, w1, hp, rfl, rfl⟩) hP hK hD hS ht hW) hS.2.2 dL_size_28
theorem tw_915 : (.methodLink RL 122 yL_way : Cond) ∈ tl_T := tl_tin 915 (by decide +kernel) rfl
theorem tw_916 : (.static yL_way : Cond) ∈ tl_T := tl_tin 916 (by decide +kernel) rfl
theorem tw_917 : (.codeWith yL_way cL_way 5 (some .int) [(0, 10, 13, 24)] : Cond) ∈ tl_T := tl_tin 917 (by decide +kernel) rfl
theorem tw_918 : (.methodLink RL 59 yX9_way : Cond) ∈ tl_T := tl_tin 918 (by decide +kernel) rfl
theorem tw_919 : (.instanceMethod yX9_way : Cond) ∈ tl_T := tl_tin 919 (by decide +kernel) rfl
theorem tw_920 : (.selects RX9 yX9_way yX9_way : Cond) ∈ tl_T := tl_tin 920 (by decide +kernel) rfl
theorem tw_921 : (.code yX9_way cX9_way 5 (some .int) : Cond) ∈ tl_T := tl_tin 921 (by decide +kernel) rfl
theorem td_L_way : yL_way.cls ≠ "java/lang/invoke/MethodHandle" ∧ yL_way.cls ≠ "java/lang/invoke/VarHandle" ∧ (parseMethodDescriptor yL_way.desc).map (fun d => d.parameters.length) = some 4 := by decide +kernel
theorem td_Lx_way : yX9_way.cls = RX9 ∧ yX9_way.cls ≠ "java/lang/invoke/MethodHandle" ∧ yX9_way.cls ≠ "java/lang/invoke/VarHandle" ∧ (parseMethodDescriptor yX9_way.desc).map (fun d => d.parameters.length) = some 2 := by decide +kernel
theorem tg_L_way : GoodIn tl_T (va_wsS RL 122 yL_way (tl_wH yL_way cL_way 5 (some .int) [(0, 10, 13, 24)])) := tl_gSH tw_915 tw_916 tw_59 tw_917
theorem tg_Lx_way : GoodIn tl_T (wsV RL 59 RX9 yX9_way (tl_w yX9_way cX9_way 5 (some .int))) := tl_gV tw_918 tw_919 tw_920 tw_60 tw_921
set_option maxHeartbeats 4000000 in
theorem kt_L_way (l : Launch) (D : va_G) (cy : Nat → ClassId) (sa : Nat → Nat) (a_x a_out : Nat) (p1 : Int) (p2 : Int) (o : Nat → Int64) (rm : Room) (wc : va_W) (fs : List Value) (mc ms : Nat) (post : Option Value → va_W → Prop) (px : String → va_W → Prop) (hw0 : wc[0]? = some (tl_ob a_x 10 fs)) (hM : tl_MX l D (tl_tys cy) sa yX9_way (tl_w yX9_way cX9_way 5 (some .int)) rm (.ref a_x :: [.int (tl_I p1), .int (tl_I p2)]) wc mc ms post px) (hrm : rm.cells = mc ∧ rm.slots = ms ∧ rm.frames ≤ 7 ∧ rm.locals ≤ 160) (hpo : ∀ v w1, post v w1 → ∃ r : Int, v = some (.int (tl_I r))) (hpx : ∀ E w1, px E w1 → ∃ k : Nat, E = tl_ex k ∧ 0 < lf_way k) :
    tl_MY l D (tl_tys cy) sa yL_way (tl_wH yL_way cL_way 5 (some .int) [(0, 10, 13, 24)]) { frames := 8, cells := mc, slots := ms, locals := 200 } [.ref a_x, .int (tl_I p1), .int (tl_I p2), .ref a_out] (tl_ja (cy 2) a_out 1 o :: wc) mc ms (lw_po cy a_out o (fun x => x.toInt64) lf_way post px) := by
  refine tl_ofY (cc := cL_way) (maxL := 5) (ret := (some .int)) (hh := [(0, 10, 13, 24)]) (by decide +kernel) (Nat.le_of_ble_eq_true rfl) ?_
  intro p e s m below meth c hx hb hr hml hts hown hlocks htab hE hN A hAe hA hP hK hD hS ls hl
  obtain ⟨hr1, hr2, hr3, hr4⟩ := hrm
  have hE : tl_E sa A s s.heap := by rw [hAe]; exact hE
  have hl : lv_has ls 5 [(0, .ref a_x), (1, .int (tl_I p1)), (2, .int (tl_I p2)), (3, .ref a_out)] := hl
  refine lv_aload_n hx hb dL_way_0 rfl (lv_at hl 3 rfl) ?_
  refine lv_iconst (v := tl_I (0 : Int)) hx hb dL_way_1 rfl ?_
  refine lv_aload_n hx hb dL_way_2 rfl (lv_at hl 0 rfl) ?_
  refine lv_iload_n hx hb dL_way_3 rfl (lv_at hl 1 rfl) ?_
  refine lv_iload_n hx hb dL_way_4 rfl (lv_at hl 2 rfl) ?_
  refine tl_callVXA (As := [.int (tl_I p1), .int (tl_I p2)]) (rest := [.int (tl_I (0 : Int)), .ref a_out]) (wc := wc) (wr := [tl_ja (cy 2) a_out 1 o]) ⟨hx, hb, hml, hown, hts⟩ hM (cwV 2 hts tg_Lx_way rfl hr1 hr2 td_Lx_way ⟨by show rm.frames + 1 ≤ 8; omega, by show 8 + (5 + 11) + rm.locals ≤ 200; omega⟩) hE hK (hP.perm (List.perm_append_singleton _ _).symm) (hD.perm (List.perm_append_singleton _ _).symm) hS hA 10 hw0 rfl rfl rfl hl.1 rfl (Nat.le_of_ble_eq_true rfl) dL_way_5 ⟨by show 0 + mc ≤ mc; omega, by show 0 + ms ≤ ms; omega⟩ (fun E ce q9 w1 H locs hp hP hD hS hce hcv hcl => ?_) (fun v w1 H locs hp hP hD hS => ?_)
  · have hP := hP.perm (List.perm_append_singleton _ _)
    have hD := hD.perm (List.perm_append_singleton _ _)
    refine vx_widen (k := mc) (n := ms) (by omega) (by omega) ?_
    obtain ⟨k, rfl, hk⟩ := hpx E w1 hp
    rcases lf_way_c hk with rfl
    · refine vx_catch2 (name := "java/util/NoSuchElementException") hown [] { startPc := 0, endPc := 10, handlerPc := 13, catchType := 24 } [] (by rw [htab]; rfl) (fun z hz => absurd hz List.not_mem_nil) (by decide) (by decide) (hts _ tw_429) (hN.2 1 (by decide)) hce hcv hcl ?_
      refine W.eq (g2 := F0 m 13 ls [.ref q9]) rfl ?_
      refine lv_astore (lv' := [(4, .ref q9), (0, .ref a_x), (1, .int (tl_I p1)), (2, .int (tl_I p2)), (3, .ref a_out)]) hx hb dL_way_13 hl (by decide) rfl (fun ls hl => ?_)
      refine lv_iconst (v := tl_I (1 : Int)) hx hb dL_way_15 rfl ?_
      exact W.iret (v := tl_I (1 : Int)) hx hb hr (fun t ht hW => tl_fin hAe (Or.inr ⟨1, w1, hp, by decide, rfl, rfl⟩) hP hK hD hS ht hW) hS.2.2 dL_way_16
  · have hP := hP.perm (List.perm_append_singleton _ _)
    have hD := hD.perm (List.perm_append_singleton _ _)
    refine W.widen (k := mc) (n := ms) (by omega) (by omega) ?_
    obtain ⟨r, rfl⟩ := hpo v w1 hp
    refine W.eq (g2 := F0 m 8 ls [.int (tl_I r), .int (tl_I (0 : Int)), .ref a_out]) rfl ?_
    refine lv_i2l (v := (tl_I r).toInt64) hx hb dL_way_8 rfl ?_
    refine ts_last hx hb ⟨by omega, by omega⟩ hK hP hD hS 0 2 rfl rfl (by decide) dL_way_9 (fun H locs hP hD hS => ?_)
    refine lv_goto (tgt := 17) hx hb dL_way_10 (by decide) ?_
    refine lv_iconst (v := tl_I (0 : Int)) hx hb dL_way_17 rfl ?_
    exact W.iret (v := tl_I (0 : Int)) hx hb hr (fun t ht hW => tl_fin hAe (Or.inl ⟨r, w1, hp, rfl, rfl⟩) hP hK hD hS ht hW) hS.2.2 dL_way_18
theorem tw_927 : (.methodLink RL 125 yL_path : Cond) ∈ tl_T := tl_tin 927 (by decide +kernel) rfl
theorem tw_928 : (.static yL_path : Cond) ∈ tl_T := tl_tin 928 (by decide +kernel) rfl
theorem tw_929 : (.codeWith yL_path cL_path 4 (some .int) [(0, 9, 12, 30)] : Cond) ∈ tl_T := tl_tin 929 (by decide +kernel) rfl
theorem tw_930 : (.methodLink RL 62 yX9_path : Cond) ∈ tl_T := tl_tin 930 (by decide +kernel) rfl
theorem tw_931 : (.instanceMethod yX9_path : Cond) ∈ tl_T := tl_tin 931 (by decide +kernel) rfl
theorem tw_932 : (.selects RX9 yX9_path yX9_path : Cond) ∈ tl_T := tl_tin 932 (by decide +kernel) rfl
theorem tw_933 : (.code yX9_path cX9_path 2 (some .int) : Cond) ∈ tl_T := tl_tin 933 (by decide +kernel) rfl
theorem td_L_path : yL_path.cls ≠ "java/lang/invoke/MethodHandle" ∧ yL_path.cls ≠ "java/lang/invoke/VarHandle" ∧ (parseMethodDescriptor yL_path.desc).map (fun d => d.parameters.length) = some 3 := by decide +kernel
theorem td_Lx_path : yX9_path.cls = RX9 ∧ yX9_path.cls ≠ "java/lang/invoke/MethodHandle" ∧ yX9_path.cls ≠ "java/lang/invoke/VarHandle" ∧ (parseMethodDescriptor yX9_path.desc).map (fun d => d.parameters.length) = some 1 := by decide +kernel
theorem tg_L_path : GoodIn tl_T (va_wsS RL 125 yL_path (tl_wH yL_path cL_path 4 (some .int) [(0, 9, 12, 30)])) := tl_gSH tw_927 tw_928 tw_59 tw_929
theorem tg_Lx_path : GoodIn tl_T (wsV RL 62 RX9 yX9_path (tl_w yX9_path cX9_path 2 (some .int))) := tl_gV tw_930 tw_931 tw_932 tw_60 tw_933
set_option maxHeartbeats 4000000 in
theorem kt_L_path (l : Launch) (D : va_G) (cy : Nat → ClassId) (sa : Nat → Nat) (a_x a_out : Nat) (p1 : Int) (o : Nat → Int64) (rm : Room) (wc : va_W) (fs : List Value) (mc ms : Nat) (post : Option Value → va_W → Prop) (px : String → va_W → Prop) (hw0 : wc[0]? = some (tl_ob a_x 10 fs)) (hM : tl_MX l D (tl_tys cy) sa yX9_path (tl_w yX9_path cX9_path 2 (some .int)) rm (.ref a_x :: [.int (tl_I p1)]) wc mc ms post px) (hrm : rm.cells = mc ∧ rm.slots = ms ∧ rm.frames ≤ 7 ∧ rm.locals ≤ 160) (hpo : ∀ v w1, post v w1 → ∃ r : Int, v = some (.int (tl_I r))) (hpx : ∀ E w1, px E w1 → ∃ k : Nat, E = tl_ex k ∧ 0 < lf_path k) :
    tl_MY l D (tl_tys cy) sa yL_path (tl_wH yL_path cL_path 4 (some .int) [(0, 9, 12, 30)]) { frames := 8, cells := mc, slots := ms, locals := 200 } [.ref a_x, .int (tl_I p1), .ref a_out] (tl_ja (cy 2) a_out 1 o :: wc) mc ms (lw_po cy a_out o (fun x => x.toInt64) lf_path post px) := by
  refine tl_ofY (cc := cL_path) (maxL := 4) (ret := (some .int)) (hh := [(0, 9, 12, 30)]) (by decide +kernel) (Nat.le_of_ble_eq_true rfl) ?_
  intro p e s m below meth c hx hb hr hml hts hown hlocks htab hE hN A hAe hA hP hK hD hS ls hl
  obtain ⟨hr1, hr2, hr3, hr4⟩ := hrm
  have hE : tl_E sa A s s.heap := by rw [hAe]; exact hE
  have hl : lv_has ls 4 [(0, .ref a_x), (1, .int (tl_I p1)), (2, .ref a_out)] := hl
  refine lv_aload_n hx hb dL_path_0 rfl (lv_at hl 2 rfl) ?_
  refine lv_iconst (v := tl_I (0 : Int)) hx hb dL_path_1 rfl ?_
  refine lv_aload_n hx hb dL_path_2 rfl (lv_at hl 0 rfl) ?_
  refine lv_iload_n hx hb dL_path_3 rfl (lv_at hl 1 rfl) ?_
  refine tl_callVXA (As := [.int (tl_I p1)]) (rest := [.int (tl_I (0 : Int)), .ref a_out]) (wc := wc) (wr := [tl_ja (cy 2) a_out 1 o]) ⟨hx, hb, hml, hown, hts⟩ hM (cwV 1 hts tg_Lx_path rfl hr1 hr2 td_Lx_path ⟨by show rm.frames + 1 ≤ 8; omega, by show 8 + (2 + 11) + rm.locals ≤ 200; omega⟩) hE hK (hP.perm (List.perm_append_singleton _ _).symm) (hD.perm (List.perm_append_singleton _ _).symm) hS hA 10 hw0 rfl rfl rfl hl.1 rfl (Nat.le_of_ble_eq_true rfl) dL_path_4 ⟨by show 0 + mc ≤ mc; omega, by show 0 + ms ≤ ms; omega⟩ (fun E ce q9 w1 H locs hp hP hD hS hce hcv hcl => ?_) (fun v w1 H locs hp hP hD hS => ?_)
  · have hP := hP.perm (List.perm_append_singleton _ _)
    have hD := hD.perm (List.perm_append_singleton _ _)
    refine vx_widen (k := mc) (n := ms) (by omega) (by omega) ?_
    obtain ⟨k, rfl, hk⟩ := hpx E w1 hp
    rcases lf_path_c hk with rfl
    · refine vx_catch2 (name := "java/lang/IndexOutOfBoundsException") hown [] { startPc := 0, endPc := 9, handlerPc := 12, catchType := 30 } [] (by rw [htab]; rfl) (fun z hz => absurd hz List.not_mem_nil) (by decide) (by decide) (hts _ tw_432) (hN.2 4 (by decide)) hce hcv hcl ?_
      refine W.eq (g2 := F0 m 12 ls [.ref q9]) rfl ?_
      refine lv_astore_n (lv' := [(3, .ref q9), (0, .ref a_x), (1, .int (tl_I p1)), (2, .ref a_out)]) hx hb dL_path_12 rfl hl (by decide) rfl (fun ls hl => ?_)
      refine lv_iconst (v := tl_I (1 : Int)) hx hb dL_path_13 rfl ?_
      exact W.iret (v := tl_I (1 : Int)) hx hb hr (fun t ht hW => tl_fin hAe (Or.inr ⟨4, w1, hp, by decide, rfl, rfl⟩) hP hK hD hS ht hW) hS.2.2 dL_path_14
  · have hP := hP.perm (List.perm_append_singleton _ _)
    have hD := hD.perm (List.perm_append_singleton _ _)
    refine W.widen (k := mc) (n := ms) (by omega) (by omega) ?_
    obtain ⟨r, rfl⟩ := hpo v w1 hp
    refine W.eq (g2 := F0 m 7 ls [.int (tl_I r), .int (tl_I (0 : Int)), .ref a_out]) rfl ?_
    refine lv_i2l (v := (tl_I r).toInt64) hx hb dL_path_7 rfl ?_
    refine ts_last hx hb ⟨by omega, by omega⟩ hK hP hD hS 0 2 rfl rfl (by decide) dL_path_8 (fun H locs hP hD hS => ?_)
    refine lv_goto (tgt := 15) hx hb dL_path_9 (by decide) ?_
    refine lv_iconst (v := tl_I (0 : Int)) hx hb dL_path_15 rfl ?_
    exact W.iret (v := tl_I (0 : Int)) hx hb hr (fun t ht hW => tl_fin hAe (Or.inl ⟨r, w1, hp, rfl, rfl⟩) hP hK hD hS ht hW) hS.2.2 dL_path_16
theorem tw_939 : (.methodLink RL 128 yL_begin : Cond) ∈ tl_T := tl_tin 939 (by decide +kernel) rfl
theorem tw_940 : (.static yL_begin : Cond) ∈ tl_T := tl_tin 940 (by decide +kernel) rfl
theorem tw_941 : (.codeWith yL_begin cL_begin 3 (some .int) [(0, 8, 11, 15)] : Cond) ∈ tl_T := tl_tin 941 (by decide +kernel) rfl
theorem tw_942 : (.methodLink RL 65 yX9_begin : Cond) ∈ tl_T := tl_tin 942 (by decide +kernel) rfl
theorem tw_943 : (.instanceMethod yX9_begin : Cond) ∈ tl_T := tl_tin 943 (by decide +kernel) rfl
theorem tw_944 : (.selects RX9 yX9_begin yX9_begin : Cond) ∈ tl_T := tl_tin 944 (by decide +kernel) rfl
theorem tw_945 : (.code yX9_begin cX9_begin 2 (some .int) : Cond) ∈ tl_T := tl_tin 945 (by decide +kernel) rfl
theorem td_L_begin : yL_begin.cls ≠ "java/lang/invoke/MethodHandle" ∧ yL_begin.cls ≠ "java/lang/invoke/VarHandle" ∧ (parseMethodDescriptor yL_begin.desc).map (fun d => d.parameters.length) = some 2 := by decide +kernel
theorem td_Lx_begin : yX9_begin.cls = RX9 ∧ yX9_begin.cls ≠ "java/lang/invoke/MethodHandle" ∧ yX9_begin.cls ≠ "java/lang/invoke/VarHandle" ∧ (parseMethodDescriptor yX9_begin.desc).map (fun d => d.parameters.length) = some 0 := by decide +kernel
theorem tg_L_begin : GoodIn tl_T (va_wsS RL 128 yL_begin (tl_wH yL_begin cL_begin 3 (some .int) [(0, 8, 11, 15)])) := tl_gSH tw_939 tw_940 tw_59 tw_941
theorem tg_Lx_begin : GoodIn tl_T (wsV RL 65 RX9 yX9_begin (tl_w yX9_begin cX9_begin 2 (some .int))) := tl_gV tw_942 tw_943 tw_944 tw_60 tw_945
set_option maxHeartbeats 4000000 in
theorem kt_L_begin (l : Launch) (D : va_G) (cy : Nat → ClassId) (sa : Nat → Nat) (a_x a_out : Nat) (o : Nat → Int64) (rm : Room) (wc : va_W) (fs : List Value) (mc ms : Nat) (post : Option Value → va_W → Prop) (px : String → va_W → Prop) (hw0 : wc[0]? = some (tl_ob a_x 10 fs)) (hM : tl_MX l D (tl_tys cy) sa yX9_begin (tl_w yX9_begin cX9_begin 2 (some .int)) rm (.ref a_x :: []) wc mc ms post px) (hrm : rm.cells = mc ∧ rm.slots = ms ∧ rm.frames ≤ 7 ∧ rm.locals ≤ 160) (hpo : ∀ v w1, post v w1 → ∃ r : Int, v = some (.int (tl_I r))) (hpx : ∀ E w1, px E w1 → ∃ k : Nat, E = tl_ex k ∧ 0 < lf_level k) :
    tl_MY l D (tl_tys cy) sa yL_begin (tl_wH yL_begin cL_begin 3 (some .int) [(0, 8, 11, 15)]) { frames := 8, cells := mc, slots := ms, locals := 200 } [.ref a_x, .ref a_out] (tl_ja (cy 2) a_out 1 o :: wc) mc ms (lw_po cy a_out o (fun x => x.toInt64) lf_level post px) := by
  refine tl_ofY (cc := cL_begin) (maxL := 3) (ret := (some .int)) (hh := [(0, 8, 11, 15)]) (by decide +kernel) (Nat.le_of_ble_eq_true rfl) ?_
  intro p e s m below meth c hx hb hr hml hts hown hlocks htab hE hN A hAe hA hP hK hD hS ls hl
  obtain ⟨hr1, hr2, hr3, hr4⟩ := hrm
  have hE : tl_E sa A s s.heap := by rw [hAe]; exact hE
  have hl : lv_has ls 3 [(0, .ref a_x), (1, .ref a_out)] := hl
  refine lv_aload_n hx hb dL_begin_0 rfl (lv_at hl 1 rfl) ?_
  refine lv_iconst (v := tl_I (0 : Int)) hx hb dL_begin_1 rfl ?_
  refine lv_aload_n hx hb dL_begin_2 rfl (lv_at hl 0 rfl) ?_
  refine tl_callVXA (As := []) (rest := [.int (tl_I (0 : Int)), .ref a_out]) (wc := wc) (wr := [tl_ja (cy 2) a_out 1 o]) ⟨hx, hb, hml, hown, hts⟩ hM (cwV 0 hts tg_Lx_begin rfl hr1 hr2 td_Lx_begin ⟨by show rm.frames + 1 ≤ 8; omega, by show 8 + (2 + 11) + rm.locals ≤ 200; omega⟩) hE hK (hP.perm (List.perm_append_singleton _ _).symm) (hD.perm (List.perm_append_singleton _ _).symm) hS hA 10 hw0 rfl rfl rfl hl.1 rfl (Nat.le_of_ble_eq_true rfl) dL_begin_3 ⟨by show 0 + mc ≤ mc; omega, by show 0 + ms ≤ ms; omega⟩ (fun E ce q9 w1 H locs hp hP hD hS hce hcv hcl => ?_) (fun v w1 H locs hp hP hD hS => ?_)
  · have hP := hP.perm (List.perm_append_singleton _ _)
    have hD := hD.perm (List.perm_append_singleton _ _)
    refine vx_widen (k := mc) (n := ms) (by omega) (by omega) ?_
    obtain ⟨k, rfl, hk⟩ := hpx E w1 hp
    rcases lf_level_c hk with rfl
    · refine vx_catch2 (name := "java/lang/IllegalStateException") hown [] { startPc := 0, endPc := 8, handlerPc := 11, catchType := 15 } [] (by rw [htab]; rfl) (fun z hz => absurd hz List.not_mem_nil) (by decide) (by decide) (hts _ tw_303) (hN.2 5 (by decide)) hce hcv hcl ?_
      refine W.eq (g2 := F0 m 11 ls [.ref q9]) rfl ?_
      refine lv_astore_n (lv' := [(2, .ref q9), (0, .ref a_x), (1, .ref a_out)]) hx hb dL_begin_11 rfl hl (by decide) rfl (fun ls hl => ?_)
      refine lv_iconst (v := tl_I (1 : Int)) hx hb dL_begin_12 rfl ?_
      exact W.iret (v := tl_I (1 : Int)) hx hb hr (fun t ht hW => tl_fin hAe (Or.inr ⟨5, w1, hp, by decide, rfl, rfl⟩) hP hK hD hS ht hW) hS.2.2 dL_begin_13
  · have hP := hP.perm (List.perm_append_singleton _ _)
    have hD := hD.perm (List.perm_append_singleton _ _)
    refine W.widen (k := mc) (n := ms) (by omega) (by omega) ?_
    obtain ⟨r, rfl⟩ := hpo v w1 hp
    refine W.eq (g2 := F0 m 6 ls [.int (tl_I r), .int (tl_I (0 : Int)), .ref a_out]) rfl ?_
    refine lv_i2l (v := (tl_I r).toInt64) hx hb dL_begin_6 rfl ?_
    refine ts_last hx hb ⟨by omega, by omega⟩ hK hP hD hS 0 2 rfl rfl (by decide) dL_begin_7 (fun H locs hP hD hS => ?_)
    refine lv_goto (tgt := 14) hx hb dL_begin_8 (by decide) ?_
    refine lv_iconst (v := tl_I (0 : Int)) hx hb dL_begin_14 rfl ?_
    exact W.iret (v := tl_I (0 : Int)) hx hb hr (fun t ht hW => tl_fin hAe (Or.inl ⟨r, w1, hp, rfl, rfl⟩) hP hK hD hS ht hW) hS.2.2 dL_begin_15
theorem tw_959 : (.methodLink RL 132 yL_end : Cond) ∈ tl_T := tl_tin 959 (by decide +kernel) rfl
theorem tw_960 : (.static yL_end : Cond) ∈ tl_T := tl_tin 960 (by decide +kernel) rfl
theorem tw_961 : (.codeWith yL_end cL_end 4 (some .int) [(0, 9, 12, 15)] : Cond) ∈ tl_T := tl_tin 961 (by decide +kernel) rfl
theorem tw_962 : (.methodLink RL 69 yX9_end : Cond) ∈ tl_T := tl_tin 962 (by decide +kernel) rfl
theorem tw_963 : (.instanceMethod yX9_end : Cond) ∈ tl_T := tl_tin 963 (by decide +kernel) rfl
theorem tw_964 : (.selects RX9 yX9_end yX9_end : Cond) ∈ tl_T := tl_tin 964 (by decide +kernel) rfl
theorem tw_965 : (.code yX9_end cX9_end 3 (some .int) : Cond) ∈ tl_T := tl_tin 965 (by decide +kernel) rfl
theorem td_L_end : yL_end.cls ≠ "java/lang/invoke/MethodHandle" ∧ yL_end.cls ≠ "java/lang/invoke/VarHandle" ∧ (parseMethodDescriptor yL_end.desc).map (fun d => d.parameters.length) = some 3 := by decide +kernel
theorem td_Lx_end : yX9_end.cls = RX9 ∧ yX9_end.cls ≠ "java/lang/invoke/MethodHandle" ∧ yX9_end.cls ≠ "java/lang/invoke/VarHandle" ∧ (parseMethodDescriptor yX9_end.desc).map (fun d => d.parameters.length) = some 1 := by decide +kernel
theorem tg_L_end : GoodIn tl_T (va_wsS RL 132 yL_end (tl_wH yL_end cL_end 4 (some .int) [(0, 9, 12, 15)])) := tl_gSH tw_959 tw_960 tw_59 tw_961
theorem tg_Lx_end : GoodIn tl_T (wsV RL 69 RX9 yX9_end (tl_w yX9_end cX9_end 3 (some .int))) := tl_gV tw_962 tw_963 tw_964 tw_60 tw_965
set_option maxHeartbeats 4000000 in
theorem kt_L_end (l : Launch) (D : va_G) (cy : Nat → ClassId) (sa : Nat → Nat) (a_x a_out : Nat) (p1 : Int) (o : Nat → Int64) (rm : Room) (wc : va_W) (fs : List Value) (mc ms : Nat) (post : Option Value → va_W → Prop) (px : String → va_W → Prop) (hw0 : wc[0]? = some (tl_ob a_x 10 fs)) (hM : tl_MX l D (tl_tys cy) sa yX9_end (tl_w yX9_end cX9_end 3 (some .int)) rm (.ref a_x :: [.int (tl_I p1)]) wc mc ms post px) (hrm : rm.cells = mc ∧ rm.slots = ms ∧ rm.frames ≤ 7 ∧ rm.locals ≤ 160) (hpo : ∀ v w1, post v w1 → ∃ r : Int, v = some (.int (tl_I r))) (hpx : ∀ E w1, px E w1 → ∃ k : Nat, E = tl_ex k ∧ 0 < lf_level k) :
    tl_MY l D (tl_tys cy) sa yL_end (tl_wH yL_end cL_end 4 (some .int) [(0, 9, 12, 15)]) { frames := 8, cells := mc, slots := ms, locals := 200 } [.ref a_x, .int (tl_I p1), .ref a_out] (tl_ja (cy 2) a_out 1 o :: wc) mc ms (lw_po cy a_out o (fun x => x.toInt64) lf_level post px) := by
  refine tl_ofY (cc := cL_end) (maxL := 4) (ret := (some .int)) (hh := [(0, 9, 12, 15)]) (by decide +kernel) (Nat.le_of_ble_eq_true rfl) ?_
  intro p e s m below meth c hx hb hr hml hts hown hlocks htab hE hN A hAe hA hP hK hD hS ls hl
  obtain ⟨hr1, hr2, hr3, hr4⟩ := hrm
  have hE : tl_E sa A s s.heap := by rw [hAe]; exact hE
  have hl : lv_has ls 4 [(0, .ref a_x), (1, .int (tl_I p1)), (2, .ref a_out)] := hl
  refine lv_aload_n hx hb dL_end_0 rfl (lv_at hl 2 rfl) ?_
  refine lv_iconst (v := tl_I (0 : Int)) hx hb dL_end_1 rfl ?_
  refine lv_aload_n hx hb dL_end_2 rfl (lv_at hl 0 rfl) ?_
  refine lv_iload_n hx hb dL_end_3 rfl (lv_at hl 1 rfl) ?_
  refine tl_callVXA (As := [.int (tl_I p1)]) (rest := [.int (tl_I (0 : Int)), .ref a_out]) (wc := wc) (wr := [tl_ja (cy 2) a_out 1 o]) ⟨hx, hb, hml, hown, hts⟩ hM (cwV 1 hts tg_Lx_end rfl hr1 hr2 td_Lx_end ⟨by show rm.frames + 1 ≤ 8; omega, by show 8 + (3 + 11) + rm.locals ≤ 200; omega⟩) hE hK (hP.perm (List.perm_append_singleton _ _).symm) (hD.perm (List.perm_append_singleton _ _).symm) hS hA 10 hw0 rfl rfl rfl hl.1 rfl (Nat.le_of_ble_eq_true rfl) dL_end_4 ⟨by show 0 + mc ≤ mc; omega, by show 0 + ms ≤ ms; omega⟩ (fun E ce q9 w1 H locs hp hP hD hS hce hcv hcl => ?_) (fun v w1 H locs hp hP hD hS => ?_)
  · have hP := hP.perm (List.perm_append_singleton _ _)
    have hD := hD.perm (List.perm_append_singleton _ _)
    refine vx_widen (k := mc) (n := ms) (by omega) (by omega) ?_
    obtain ⟨k, rfl, hk⟩ := hpx E w1 hp
    rcases lf_level_c hk with rfl
    · refine vx_catch2 (name := "java/lang/IllegalStateException") hown [] { startPc := 0, endPc := 9, handlerPc := 12, catchType := 15 } [] (by rw [htab]; rfl) (fun z hz => absurd hz List.not_mem_nil) (by decide) (by decide) (hts _ tw_303) (hN.2 5 (by decide)) hce hcv hcl ?_
      refine W.eq (g2 := F0 m 12 ls [.ref q9]) rfl ?_
      refine lv_astore_n (lv' := [(3, .ref q9), (0, .ref a_x), (1, .int (tl_I p1)), (2, .ref a_out)]) hx hb dL_end_12 rfl hl (by decide) rfl (fun ls hl => ?_)
      refine lv_iconst (v := tl_I (1 : Int)) hx hb dL_end_13 rfl ?_
      exact W.iret (v := tl_I (1 : Int)) hx hb hr (fun t ht hW => tl_fin hAe (Or.inr ⟨5, w1, hp, by decide, rfl, rfl⟩) hP hK hD hS ht hW) hS.2.2 dL_end_14
  · have hP := hP.perm (List.perm_append_singleton _ _)
    have hD := hD.perm (List.perm_append_singleton _ _)
    refine W.widen (k := mc) (n := ms) (by omega) (by omega) ?_
    obtain ⟨r, rfl⟩ := hpo v w1 hp
    refine W.eq (g2 := F0 m 7 ls [.int (tl_I r), .int (tl_I (0 : Int)), .ref a_out]) rfl ?_
    refine lv_i2l (v := (tl_I r).toInt64) hx hb dL_end_7 rfl ?_
    refine ts_last hx hb ⟨by omega, by omega⟩ hK hP hD hS 0 2 rfl rfl (by decide) dL_end_8 (fun H locs hP hD hS => ?_)
    refine lv_goto (tgt := 15) hx hb dL_end_9 (by decide) ?_
    refine lv_iconst (v := tl_I (0 : Int)) hx hb dL_end_15 rfl ?_
    exact W.iret (v := tl_I (0 : Int)) hx hb hr (fun t ht hW => tl_fin hAe (Or.inl ⟨r, w1, hp, rfl, rfl⟩) hP hK hD hS ht hW) hS.2.2 dL_end_16
theorem tw_967 : (.methodLink RL 136 yL_count : Cond) ∈ tl_T := tl_tin 967 (by decide +kernel) rfl
theorem tw_968 : (.static yL_count : Cond) ∈ tl_T := tl_tin 968 (by decide +kernel) rfl
theorem tw_969 : (.codeWith yL_count cL_count 4 (some .int) [(0, 9, 12, 13)] : Cond) ∈ tl_T := tl_tin 969 (by decide +kernel) rfl
theorem tw_970 : (.methodLink RL 73 yX9_count : Cond) ∈ tl_T := tl_tin 970 (by decide +kernel) rfl
theorem tw_971 : (.instanceMethod yX9_count : Cond) ∈ tl_T := tl_tin 971 (by decide +kernel) rfl
theorem tw_972 : (.selects RX9 yX9_count yX9_count : Cond) ∈ tl_T := tl_tin 972 (by decide +kernel) rfl
theorem tw_973 : (.code yX9_count cX9_count 2 (some .int) : Cond) ∈ tl_T := tl_tin 973 (by decide +kernel) rfl
theorem td_L_count : yL_count.cls ≠ "java/lang/invoke/MethodHandle" ∧ yL_count.cls ≠ "java/lang/invoke/VarHandle" ∧ (parseMethodDescriptor yL_count.desc).map (fun d => d.parameters.length) = some 3 := by decide +kernel
theorem td_Lx_count : yX9_count.cls = RX9 ∧ yX9_count.cls ≠ "java/lang/invoke/MethodHandle" ∧ yX9_count.cls ≠ "java/lang/invoke/VarHandle" ∧ (parseMethodDescriptor yX9_count.desc).map (fun d => d.parameters.length) = some 1 := by decide +kernel
theorem tg_L_count : GoodIn tl_T (va_wsS RL 136 yL_count (tl_wH yL_count cL_count 4 (some .int) [(0, 9, 12, 13)])) := tl_gSH tw_967 tw_968 tw_59 tw_969
theorem tg_Lx_count : GoodIn tl_T (wsV RL 73 RX9 yX9_count (tl_w yX9_count cX9_count 2 (some .int))) := tl_gV tw_970 tw_971 tw_972 tw_60 tw_973
set_option maxHeartbeats 4000000 in
theorem kt_L_count (l : Launch) (D : va_G) (cy : Nat → ClassId) (sa : Nat → Nat) (a_x a_out : Nat) (p1 : Int) (o : Nat → Int64) (rm : Room) (wc : va_W) (fs : List Value) (mc ms : Nat) (post : Option Value → va_W → Prop) (px : String → va_W → Prop) (hw0 : wc[0]? = some (tl_ob a_x 10 fs)) (hM : tl_MX l D (tl_tys cy) sa yX9_count (tl_w yX9_count cX9_count 2 (some .int)) rm (.ref a_x :: [.int (tl_I p1)]) wc mc ms post px) (hrm : rm.cells = mc ∧ rm.slots = ms ∧ rm.frames ≤ 7 ∧ rm.locals ≤ 160) (hpo : ∀ v w1, post v w1 → ∃ r : Int, v = some (.int (tl_I r))) (hpx : ∀ E w1, px E w1 → ∃ k : Nat, E = tl_ex k ∧ 0 < lf_count k) :
    tl_MY l D (tl_tys cy) sa yL_count (tl_wH yL_count cL_count 4 (some .int) [(0, 9, 12, 13)]) { frames := 8, cells := mc, slots := ms, locals := 200 } [.ref a_x, .int (tl_I p1), .ref a_out] (tl_ja (cy 2) a_out 1 o :: wc) mc ms (lw_po cy a_out o (fun x => x.toInt64) lf_count post px) := by
  refine tl_ofY (cc := cL_count) (maxL := 4) (ret := (some .int)) (hh := [(0, 9, 12, 13)]) (by decide +kernel) (Nat.le_of_ble_eq_true rfl) ?_
  intro p e s m below meth c hx hb hr hml hts hown hlocks htab hE hN A hAe hA hP hK hD hS ls hl
  obtain ⟨hr1, hr2, hr3, hr4⟩ := hrm
  have hE : tl_E sa A s s.heap := by rw [hAe]; exact hE
  have hl : lv_has ls 4 [(0, .ref a_x), (1, .int (tl_I p1)), (2, .ref a_out)] := hl
  refine lv_aload_n hx hb dL_count_0 rfl (lv_at hl 2 rfl) ?_
  refine lv_iconst (v := tl_I (0 : Int)) hx hb dL_count_1 rfl ?_
  refine lv_aload_n hx hb dL_count_2 rfl (lv_at hl 0 rfl) ?_
  refine lv_iload_n hx hb dL_count_3 rfl (lv_at hl 1 rfl) ?_
  refine tl_callVXA (As := [.int (tl_I p1)]) (rest := [.int (tl_I (0 : Int)), .ref a_out]) (wc := wc) (wr := [tl_ja (cy 2) a_out 1 o]) ⟨hx, hb, hml, hown, hts⟩ hM (cwV 1 hts tg_Lx_count rfl hr1 hr2 td_Lx_count ⟨by show rm.frames + 1 ≤ 8; omega, by show 8 + (2 + 11) + rm.locals ≤ 200; omega⟩) hE hK (hP.perm (List.perm_append_singleton _ _).symm) (hD.perm (List.perm_append_singleton _ _).symm) hS hA 10 hw0 rfl rfl rfl hl.1 rfl (Nat.le_of_ble_eq_true rfl) dL_count_4 ⟨by show 0 + mc ≤ mc; omega, by show 0 + ms ≤ ms; omega⟩ (fun E ce q9 w1 H locs hp hP hD hS hce hcv hcl => ?_) (fun v w1 H locs hp hP hD hS => ?_)
  · have hP := hP.perm (List.perm_append_singleton _ _)
    have hD := hD.perm (List.perm_append_singleton _ _)
    refine vx_widen (k := mc) (n := ms) (by omega) (by omega) ?_
    obtain ⟨k, rfl, hk⟩ := hpx E w1 hp
    rcases lf_count_c hk with rfl
    · refine vx_catch2 (name := "java/lang/IllegalArgumentException") hown [] { startPc := 0, endPc := 9, handlerPc := 12, catchType := 13 } [] (by rw [htab]; rfl) (fun z hz => absurd hz List.not_mem_nil) (by decide) (by decide) (hts _ tw_302) (hN.2 0 (by decide)) hce hcv hcl ?_
      refine W.eq (g2 := F0 m 12 ls [.ref q9]) rfl ?_
      refine lv_astore_n (lv' := [(3, .ref q9), (0, .ref a_x), (1, .int (tl_I p1)), (2, .ref a_out)]) hx hb dL_count_12 rfl hl (by decide) rfl (fun ls hl => ?_)
      refine lv_iconst (v := tl_I (1 : Int)) hx hb dL_count_13 rfl ?_
      exact W.iret (v := tl_I (1 : Int)) hx hb hr (fun t ht hW => tl_fin hAe (Or.inr ⟨0, w1, hp, by decide, rfl, rfl⟩) hP hK hD hS ht hW) hS.2.2 dL_count_14
  · have hP := hP.perm (List.perm_append_singleton _ _)
    have hD := hD.perm (List.perm_append_singleton _ _)
    refine W.widen (k := mc) (n := ms) (by omega) (by omega) ?_
    obtain ⟨r, rfl⟩ := hpo v w1 hp
    refine W.eq (g2 := F0 m 7 ls [.int (tl_I r), .int (tl_I (0 : Int)), .ref a_out]) rfl ?_
    refine lv_i2l (v := (tl_I r).toInt64) hx hb dL_count_7 rfl ?_
    refine ts_last hx hb ⟨by omega, by omega⟩ hK hP hD hS 0 2 rfl rfl (by decide) dL_count_8 (fun H locs hP hD hS => ?_)
    refine lv_goto (tgt := 15) hx hb dL_count_9 (by decide) ?_
    refine lv_iconst (v := tl_I (0 : Int)) hx hb dL_count_15 rfl ?_
    exact W.iret (v := tl_I (0 : Int)) hx hb hr (fun t ht hW => tl_fin hAe (Or.inl ⟨r, w1, hp, rfl, rfl⟩) hP hK hD hS ht hW) hS.2.2 dL_count_16
