/-! array rows over whole numbers; contracts over worlds; calls -/
section TLB
variable {p : Program} {l : Launch} {e : Env} {R : Room} {s : State} {m : MethodId} {args : Array Value} {below : List Frame} {meth : Method} {c : Code} {H : Heap} {locs : List Loc} {cells slots : Nat} {Q : State → Prop}
variable {cc : ByteArray} {pc : Nat} {ls : Array Slot} {rest : List Value} {D : va_G} {cl : List vw_C} {A : Nat → Prop} {a n : Nat} {tys : List (ClassId × FieldType)} {ws : va_W} {H0 : Heap} {α : Type} {F G : Option α} {r : α} {x y i : Int} {cA : ClassId} {f : Nat → Int} {fl : Nat → Int64}
theorem tr_iald (hexec : p.tables.exec = Jvm.exec) (hb : c.code = cc) (hf : tl_gd (tl_in i n) F = some r) (hK : va_K D cl tys s) (hP : va_P D cl ws H) (q0 t0 : Nat) (ha : ws[q0]? = some (tl_ia cA a n f)) (ht : tys[t0]? = some (cA, .int)) (hn : n ≤ 2147483647) (hdg : decode cc pc = .ok (.iaload, 1))
    (kk : F = some r → W p l e R s m args below meth c H locs cells slots Q (F0 m (pc + 1) ls (.int (tl_I (f i.toNat)) :: rest))) : W p l e R s m args below meth c H locs cells slots Q (F0 m pc ls (.int (tl_I i) :: .ref a :: rest)) := by
  obtain ⟨h1, hf⟩ := tl_gs hf
  refine va_iald hexec hb hK hP q0 t0 ha ht (tl_vin h1 hn) hdg ?_
  rw [tl_cl h1.1 (by omega)]
  exact kk hf
theorem tr_zald (hexec : p.tables.exec = Jvm.exec) (hb : c.code = cc) (hf : tl_gd (tl_in i n) F = some r) (hK : va_K D cl tys s) (hP : va_P D cl ws H) (q0 t0 : Nat) (ha : ws[q0]? = some (tl_ia cA a n f)) (ht : tys[t0]? = some (cA, .boolean)) (hn : n ≤ 2147483647) (hdg : decode cc pc = .ok (.baload, 1))
    (kk : F = some r → W p l e R s m args below meth c H locs cells slots Q (F0 m (pc + 1) ls (.int (tl_I (f i.toNat)) :: rest))) : W p l e R s m args below meth c H locs cells slots Q (F0 m pc ls (.int (tl_I i) :: .ref a :: rest)) := by
  obtain ⟨h1, hf⟩ := tl_gs hf
  refine va_zald hexec hb hK hP q0 t0 ha ht (tl_vin h1 hn) hdg ?_
  rw [tl_cl h1.1 (by omega)]
  exact kk hf
theorem tr_bald (hexec : p.tables.exec = Jvm.exec) (hb : c.code = cc) (hf : tl_gd (tl_in i n) F = some r) (hK : va_K D cl tys s) (hP : va_P D cl ws H) (q0 t0 : Nat) (ha : ws[q0]? = some (tl_ia cA a n f)) (ht : tys[t0]? = some (cA, .byte)) (hn : n ≤ 2147483647) (hdg : decode cc pc = .ok (.baload, 1))
    (kk : F = some r → W p l e R s m args below meth c H locs cells slots Q (F0 m (pc + 1) ls (.int (tl_I (f i.toNat)) :: rest))) : W p l e R s m args below meth c H locs cells slots Q (F0 m pc ls (.int (tl_I i) :: .ref a :: rest)) := by
  obtain ⟨h1, hf⟩ := tl_gs hf
  refine va_bald hexec hb hK hP q0 t0 ha ht (tl_vin h1 hn) hdg ?_
  rw [tl_cl h1.1 (by omega)]
  exact kk hf
theorem tr_lald (hexec : p.tables.exec = Jvm.exec) (hb : c.code = cc) (hf : tl_gd (tl_in i n) F = some r) (hK : va_K D cl tys s) (hP : va_P D cl ws H) (q0 t0 : Nat) (ha : ws[q0]? = some (tl_ja cA a n fl)) (ht : tys[t0]? = some (cA, .long)) (hn : n ≤ 2147483647) (hdg : decode cc pc = .ok (.laload, 1))
    (kk : F = some r → W p l e R s m args below meth c H locs cells slots Q (F0 m (pc + 1) ls (.long (fl i.toNat) :: rest))) : W p l e R s m args below meth c H locs cells slots Q (F0 m pc ls (.int (tl_I i) :: .ref a :: rest)) := by
  obtain ⟨h1, hf⟩ := tl_gs hf
  refine va_lald hexec hb hK hP q0 t0 ha ht (tl_vin h1 hn) hdg ?_
  rw [tl_cl h1.1 (by omega)]
  exact kk hf
theorem tr_iast (hexec : p.tables.exec = Jvm.exec) (hb : c.code = cc) (hf : tl_gd (tl_in i n) F = some r) (hK : va_K D cl tys s) (hP : va_P D cl ws H) (hD : va_D A ws) (hS : va_S A H0 H locs) (q0 t0 : Nat) (ha : ws[q0]? = some (tl_ia cA a n f)) (ht : tys[t0]? = some (cA, .int)) (hn : n ≤ 2147483647) (hdg : decode cc pc = .ok (.iastore, 1))
    (kk : F = some r → ∀ (H1 : Heap) (locs1 : List Loc), va_P D cl (ws.set q0 (tl_ia cA a n (va_up f i.toNat x))) H1 → va_D A (ws.set q0 (tl_ia cA a n (va_up f i.toNat x))) → va_S A H0 H1 locs1 → W p l e R s m args below meth c H1 locs1 cells slots Q (F0 m (pc + 1) ls rest)) : W p l e R s m args below meth c H locs cells slots Q (F0 m pc ls (.int (tl_I x) :: .int (tl_I i) :: .ref a :: rest)) := by
  obtain ⟨h1, hf⟩ := tl_gs hf
  refine va_iast hexec hb hK hP hD hS q0 t0 ha ht (tl_vin h1 hn) hdg ?_
  rw [tl_cl h1.1 (by omega), tl_upd]
  exact kk hf
theorem tr_zast (hexec : p.tables.exec = Jvm.exec) (hb : c.code = cc) (hf : tl_gd (tl_in i n ∧ (x = 0 ∨ x = 1)) F = some r) (hK : va_K D cl tys s) (hP : va_P D cl ws H) (hD : va_D A ws) (hS : va_S A H0 H locs) (q0 t0 : Nat) (ha : ws[q0]? = some (tl_ia cA a n f)) (ht : tys[t0]? = some (cA, .boolean)) (hn : n ≤ 2147483647) (hdg : decode cc pc = .ok (.bastore, 1))
    (kk : F = some r → ∀ (H1 : Heap) (locs1 : List Loc), va_P D cl (ws.set q0 (tl_ia cA a n (va_up f i.toNat x))) H1 → va_D A (ws.set q0 (tl_ia cA a n (va_up f i.toNat x))) → va_S A H0 H1 locs1 → W p l e R s m args below meth c H1 locs1 cells slots Q (F0 m (pc + 1) ls rest)) : W p l e R s m args below meth c H locs cells slots Q (F0 m pc ls (.int (tl_I x) :: .int (tl_I i) :: .ref a :: rest)) := by
  obtain ⟨⟨h1, h2⟩, hf⟩ := tl_gs hf
  refine va_zast hexec hb hK hP hD hS q0 t0 ha ht (tl_vin h1 hn) hdg ?_
  rw [tl_nz h2, tl_cl h1.1 (by omega), tl_upd]
  exact kk hf
theorem tr_bast (hexec : p.tables.exec = Jvm.exec) (hb : c.code = cc) (hf : tl_gd (tl_in i n ∧ (-128 ≤ x ∧ x ≤ 127)) F = some r) (hK : va_K D cl tys s) (hP : va_P D cl ws H) (hD : va_D A ws) (hS : va_S A H0 H locs) (q0 t0 : Nat) (ha : ws[q0]? = some (tl_ia cA a n f)) (ht : tys[t0]? = some (cA, .byte)) (hn : n ≤ 2147483647) (hdg : decode cc pc = .ok (.bastore, 1))
    (kk : F = some r → ∀ (H1 : Heap) (locs1 : List Loc), va_P D cl (ws.set q0 (tl_ia cA a n (va_up f i.toNat x))) H1 → va_D A (ws.set q0 (tl_ia cA a n (va_up f i.toNat x))) → va_S A H0 H1 locs1 → W p l e R s m args below meth c H1 locs1 cells slots Q (F0 m (pc + 1) ls rest)) : W p l e R s m args below meth c H locs cells slots Q (F0 m pc ls (.int (tl_I x) :: .int (tl_I i) :: .ref a :: rest)) := by
  obtain ⟨⟨h1, h2⟩, hf⟩ := tl_gs hf
  refine va_bast hexec hb hK hP hD hS q0 t0 ha ht (tl_vin h1 hn) hdg ?_
  rw [tl_nb h2, tl_cl h1.1 (by omega), tl_upd]
  exact kk hf
theorem tr_last {xl : Int64} (hexec : p.tables.exec = Jvm.exec) (hb : c.code = cc) (hf : tl_gd (tl_in i n) F = some r) (hK : va_K D cl tys s) (hP : va_P D cl ws H) (hD : va_D A ws) (hS : va_S A H0 H locs) (q0 t0 : Nat) (ha : ws[q0]? = some (tl_ja cA a n fl)) (ht : tys[t0]? = some (cA, .long)) (hn : n ≤ 2147483647) (hdg : decode cc pc = .ok (.lastore, 1))
    (kk : F = some r → ∀ (H1 : Heap) (locs1 : List Loc), va_P D cl (ws.set q0 (tl_ja cA a n (va_up fl i.toNat xl))) H1 → va_D A (ws.set q0 (tl_ja cA a n (va_up fl i.toNat xl))) → va_S A H0 H1 locs1 → W p l e R s m args below meth c H1 locs1 cells slots Q (F0 m (pc + 1) ls rest)) : W p l e R s m args below meth c H locs cells slots Q (F0 m pc ls (.long xl :: .int (tl_I i) :: .ref a :: rest)) := by
  obtain ⟨h1, hf⟩ := tl_gs hf
  refine va_last hexec hb hK hP hD hS q0 t0 ha ht (tl_vin h1 hn) hdg ?_
  rw [tl_cl h1.1 (by omega), tl_updL]
  exact kk hf
end TLB
/-- a method's start: its world -/
def tl_Pre (D : va_G) (tys : List (ClassId × FieldType)) (w : va_W) (sz : Nat) : State → Prop := fun U => U.heap.size = sz ∧ va_P D vwCl w U.heap ∧ va_K D vwCl tys U ∧ va_D (fun _ => True) w
/-- its end: an answer and the world behind it -/
def tl_Q (D : va_G) (tys : List (ClassId × FieldType)) (w : va_W) (sz : Nat) (post : Option Value → va_W → Prop) : Array Value → State → Outcome → State → Prop := fun _ st oc t =>
  (∃ (v : Option Value) (w1 : va_W), oc = .returned v ∧ post v w1 ∧ va_P D vwCl w1 t.heap ∧ va_K D vwCl tys t ∧ va_D (va_A w sz) w1) ∧ va_F (va_A w sz) st t
def tl_MC (l : Launch) (D : va_G) (tys : List (ClassId × FieldType)) (y : MethodName) (ws : List Cond) (rm : Room) (As : List Value) (w : va_W) (mc ms : Nat) (post : Option Value → va_W → Prop) : Prop :=
  ∀ sz : Nat, Met l y ws rm (va_Pc As (tl_Pre D tys w sz)) (tl_Q D tys w sz post) mc ms (va_A w sz)
theorem tl_blind {D : va_G} {tys : List (ClassId × FieldType)} {w : va_W} {sz : Nat} {As : List Value} : FrameBlind (va_Pc As (tl_Pre D tys w sz)) := by
  intro a U g mk q
  obtain ⟨q0, q1, qP, qK, qD⟩ := q
  exact ⟨q0, q1, qP, va_K.moved (u := U) (U := U.calling g mk a) (Vm.Alike.refl U.vm) qK, qD⟩
section TLC
variable {p : Program} {l : Launch} {e : Env} {R : Room} {s : State} {m : MethodId} {args : Array Value} {below : List Frame} {meth : Method} {c : Code} {H : Heap} {locs : List Loc} {cells slots : Nat} {Q : State → Prop}
variable {cc bytes : ByteArray} {pc nL n index maxL mc ms : Nat} {ls : Array Slot} {rest st0 As : List Value} {D : va_G} {A : Nat → Prop} {b : Nat} {tys : List (ClassId × FieldType)} {ws wc wr : va_W} {a : Array Value} {post : Option Value → va_W → Prop} {y : MethodName} {wsc Ts : List Cond} {rm : Room} {ret : Option FieldType} {own C : String}
theorem tl_behind (hr : va_Run p l e R s m args below meth c H locs cells slots mc ms (F0 m pc ls st0) rest (tl_Q D tys wc H.size post a) (va_A wc H.size)) (hP : va_P D vwCl ws H) (hD : va_D A ws) (hS : va_S A s.heap H locs) (hA : ∀ q, s.heap.size ≤ q → A q) (isC isR : List Nat)
    (hC : isC.map (fun i => ws[i]?) = wc.map some) (hR : isR.map (fun i => ws[i]?) = wr.map some) (hn : va_nd isR = true) (hdis : ∀ i ∈ isR, i ∉ isC)
    (kk : ∀ (v : Option Value) (w1 : va_W) (H1 : Heap) (locs1 : List Loc), post v w1 → va_P D vwCl (wr ++ w1) H1 → va_D A (wr ++ w1) → va_S A s.heap H1 locs1 → W p l e R s m args below meth c H1 locs1 (cells + mc) (slots + ms) Q (F0 m (pc + 3) ls (v.toList ++ rest))) :
    W p l e R s m args below meth c H locs cells slots Q (F0 m pc ls st0) := by
  intro T hT X
  have hF := va_free (wc := wc) hD hS hA isC hC
  obtain ⟨v, st₀, t, T', L, h0, X', hL, e1, e2, ⟨⟨v', w1, hv, hp, hP1, -, hD1⟩, hz, hk⟩, st⟩ := hr T hT X
  cases hv
  rw [h0] at hz hk
  rw [← e1] at hz hk hP1
  obtain ⟨hP2, hD2⟩ := va_join (wr := wr) hP hD isC isR hC hR hn hdis hk hF hP1 hD1
  obtain ⟨t2, a1, b1⟩ := kk v w1 T'.heap (locs ++ L) hp hP2 hD2
    ⟨Nat.le_trans hS.1 hz, fun q h1 h2 => by rw [hk q (Nat.lt_of_lt_of_le h1 hS.1) (fun z => h2 (hF q z))]; exact hS.2.1 q h1 h2, fun q hq => by
      rcases List.mem_append.mp hq with h | h
      · exact hS.2.2 q h
      · exact hF _ (hL q h)⟩ T' rfl X'
  exact ⟨t2, st t2 a1, b1⟩
theorem tl_pre (hK : va_K D vwCl tys s) (hP : va_P D vwCl ws H) (hD : va_D A ws) (isC : List Nat) (hn : va_nd isC = true) (hC : isC.map (fun i => ws[i]?) = wc.map some) {U : State} (hU : U.heap = H) (hW : s.WarmedH U.vm) : tl_Pre D tys wc H.size U := by
  refine ⟨by rw [hU], ?_, va_K.moved hW.alike hK, (hD.sub isC hn hC).weaken (fun _ _ _ _ => trivial)⟩
  rw [hU]
  intro k q hk
  have h1 : (isC.map (fun i => ws[i]?))[k]? = some (some q) := by rw [hC, List.getElem?_map, hk]; rfl
  rw [List.getElem?_map] at h1
  cases hi : isC[k]? with
  | none => rw [hi] at h1; cases h1
  | some i => rw [hi] at h1; exact hP i q (Option.some.inj h1)
theorem tl_callV (S : CallFix p m c cc nL s args Ts own) (hM : tl_MC l D tys y wsc rm (.ref b :: As) wc mc ms post) (cw : CallW R s args own C index y bytes maxL ret wsc rm mc ms n)
    (hK : va_K D vwCl tys s) (hP : va_P D vwCl ws H) (hD : va_D A ws) (hS : va_S A s.heap H locs) (hA : ∀ q, s.heap.size ≤ q → A q) (isC isR : List Nat) (hnC : va_nd isC = true)
    (hC : isC.map (fun i => ws[i]?) = wc.map some) (hR : isR.map (fun i => ws[i]?) = wr.map some) (hnR : va_nd isR = true) (hdis : ∀ i ∈ isR, i ∉ isC)
    (q0 ci : Nat) {fs : List Value} {qq : vw_C} (he : ws[q0]? = some (tl_ob b ci fs)) (hc : vwCl[ci]? = some qq) (hq : qq.1 = C)
    (hn : As.length = n) (hsize : ls.size = nL) (hstack : st0 = As.reverse ++ .ref b :: rest) (hrm : (rest.map fun v => v.category).sum ≤ 8) (hdg : decode cc pc = .ok (.invokevirtual index, 3)) (hf : cells + mc ≤ R.cells ∧ slots + ms ≤ R.slots)
    (kk : ∀ (v : Option Value) (w1 : va_W) (H1 : Heap) (locs1 : List Loc), post v w1 → va_P D vwCl (wr ++ w1) H1 → va_D A (wr ++ w1) → va_S A s.heap H1 locs1 → W p l e R s m args below meth c H1 locs1 (cells + mc) (slots + ms) Q (F0 m (pc + 3) ls (v.toList ++ rest))) :
    W p l e R s m args below meth c H locs cells slots Q (F0 m pc ls st0) := by
  subst hstack
  subst hq
  exact tl_behind (va_runV (As := As) (rest := rest) S (hM H.size) cw ⟨tl_blind, va_recv hK hP hc he, fun U hU hW => ⟨rfl, tl_pre hK hP hD isC hnC hC hU hW⟩⟩ rfl hn hsize rfl (lv_room hrm) hdg hf) hP hD hS hA isC isR hC hR hnR hdis kk
theorem tl_callS (S : CallFix p m c cc nL s args Ts own) (hM : tl_MC l D tys y wsc rm As wc mc ms post) (cw : CallB R s args own index y bytes maxL ret wsc rm mc ms n ∧ (Cond.static y).before args s = true)
    (hK : va_K D vwCl tys s) (hP : va_P D vwCl ws H) (hD : va_D A ws) (hS : va_S A s.heap H locs) (hA : ∀ q, s.heap.size ≤ q → A q) (isC isR : List Nat) (hnC : va_nd isC = true)
    (hC : isC.map (fun i => ws[i]?) = wc.map some) (hR : isR.map (fun i => ws[i]?) = wr.map some) (hnR : va_nd isR = true) (hdis : ∀ i ∈ isR, i ∉ isC)
    (hn : As.length = n) (hsize : ls.size = nL) (hstack : st0 = As.reverse ++ rest) (hrm : (rest.map fun v => v.category).sum ≤ 8) (hdg : decode cc pc = .ok (.invokestatic index, 3)) (hf : cells + mc ≤ R.cells ∧ slots + ms ≤ R.slots)
    (kk : ∀ (v : Option Value) (w1 : va_W) (H1 : Heap) (locs1 : List Loc), post v w1 → va_P D vwCl (wr ++ w1) H1 → va_D A (wr ++ w1) → va_S A s.heap H1 locs1 → W p l e R s m args below meth c H1 locs1 (cells + mc) (slots + ms) Q (F0 m (pc + 3) ls (v.toList ++ rest))) :
    W p l e R s m args below meth c H locs cells slots Q (F0 m pc ls st0) := by
  subst hstack
  exact tl_behind (va_runS (As := As) (rest := rest) S (hM H.size) cw ⟨tl_blind, fun U hU hW => ⟨rfl, tl_pre hK hP hD isC hnC hC hU hW⟩⟩ rfl hn hsize rfl (lv_room hrm) hdg hf) hP hD hS hA isC isR hC hR hnR hdis kk
theorem tl_callI (S : CallFix p m c cc nL s args Ts own) (hM : tl_MC l D tys y wsc rm (.ref b :: As) wc mc ms post) (cw : CallB R s args own index y bytes maxL none wsc rm mc ms n ∧ y.name = "<init>" ∧ (Cond.instanceMethod y).before args s = true)
    (hK : va_K D vwCl tys s) (hP : va_P D vwCl ws H) (hD : va_D A ws) (hS : va_S A s.heap H locs) (hA : ∀ q, s.heap.size ≤ q → A q) (isC isR : List Nat) (hnC : va_nd isC = true)
    (hC : isC.map (fun i => ws[i]?) = wc.map some) (hR : isR.map (fun i => ws[i]?) = wr.map some) (hnR : va_nd isR = true) (hdis : ∀ i ∈ isR, i ∉ isC)
    (hn : As.length = n) (hsize : ls.size = nL) (hstack : st0 = As.reverse ++ .ref b :: rest) (hrm : (rest.map fun v => v.category).sum ≤ 8) (hdg : decode cc pc = .ok (.invokespecial index, 3)) (hf : cells + mc ≤ R.cells ∧ slots + ms ≤ R.slots)
    (kk : ∀ (v : Option Value) (w1 : va_W) (H1 : Heap) (locs1 : List Loc), post v w1 → va_P D vwCl (wr ++ w1) H1 → va_D A (wr ++ w1) → va_S A s.heap H1 locs1 → W p l e R s m args below meth c H1 locs1 (cells + mc) (slots + ms) Q (F0 m (pc + 3) ls (v.toList ++ rest))) :
    W p l e R s m args below meth c H locs cells slots Q (F0 m pc ls st0) := by
  subst hstack
  exact tl_behind (va_runI (As := As) (rest := rest) S (hM H.size) cw ⟨tl_blind, fun U hU hW => ⟨rfl, tl_pre hK hP hD isC hnC hC hU hW⟩⟩ rfl hn hsize rfl (lv_room hrm) hdg hf) hP hD hS hA isC isR hC hR hnR hdis kk
theorem tl_callV0 (S : CallFix p m c cc nL s args Ts own) (hM : tl_MC l D tys y wsc rm (.ref b :: As) wc 0 0 post) (cw : CallW R s args own C index y bytes maxL ret wsc rm 0 0 n)
    (hK : va_K D vwCl tys s) (hP : va_P D vwCl ws H) (hD : va_D A ws) (hS : va_S A s.heap H locs) (hA : ∀ q, s.heap.size ≤ q → A q) (isC isR : List Nat) (hnC : va_nd isC = true)
    (hC : isC.map (fun i => ws[i]?) = wc.map some) (hR : isR.map (fun i => ws[i]?) = wr.map some) (hnR : va_nd isR = true) (hdis : ∀ i ∈ isR, i ∉ isC)
    (q0 ci : Nat) {fs : List Value} {qq : vw_C} (he : ws[q0]? = some (tl_ob b ci fs)) (hc : vwCl[ci]? = some qq) (hq : qq.1 = C)
    (hn : As.length = n) (hsize : ls.size = nL) (hstack : st0 = As.reverse ++ .ref b :: rest) (hrm : (rest.map fun v => v.category).sum ≤ 8) (hdg : decode cc pc = .ok (.invokevirtual index, 3)) (hf : cells ≤ R.cells ∧ slots ≤ R.slots)
    (kk : ∀ (v : Option Value) (w1 : va_W) (H1 : Heap) (locs1 : List Loc), post v w1 → va_P D vwCl (wr ++ w1) H1 → va_D A (wr ++ w1) → va_S A s.heap H1 locs1 → W p l e R s m args below meth c H1 locs1 cells slots Q (F0 m (pc + 3) ls (v.toList ++ rest))) :
    W p l e R s m args below meth c H locs cells slots Q (F0 m pc ls st0) := tl_callV S hM cw hK hP hD hS hA isC isR hnC hC hR hnR hdis q0 ci he hc hq hn hsize hstack hrm hdg hf kk
theorem tl_callS0 (S : CallFix p m c cc nL s args Ts own) (hM : tl_MC l D tys y wsc rm As wc 0 0 post) (cw : CallB R s args own index y bytes maxL ret wsc rm 0 0 n ∧ (Cond.static y).before args s = true)
    (hK : va_K D vwCl tys s) (hP : va_P D vwCl ws H) (hD : va_D A ws) (hS : va_S A s.heap H locs) (hA : ∀ q, s.heap.size ≤ q → A q) (isC isR : List Nat) (hnC : va_nd isC = true)
    (hC : isC.map (fun i => ws[i]?) = wc.map some) (hR : isR.map (fun i => ws[i]?) = wr.map some) (hnR : va_nd isR = true) (hdis : ∀ i ∈ isR, i ∉ isC)
    (hn : As.length = n) (hsize : ls.size = nL) (hstack : st0 = As.reverse ++ rest) (hrm : (rest.map fun v => v.category).sum ≤ 8) (hdg : decode cc pc = .ok (.invokestatic index, 3)) (hf : cells ≤ R.cells ∧ slots ≤ R.slots)
    (kk : ∀ (v : Option Value) (w1 : va_W) (H1 : Heap) (locs1 : List Loc), post v w1 → va_P D vwCl (wr ++ w1) H1 → va_D A (wr ++ w1) → va_S A s.heap H1 locs1 → W p l e R s m args below meth c H1 locs1 cells slots Q (F0 m (pc + 3) ls (v.toList ++ rest))) :
    W p l e R s m args below meth c H locs cells slots Q (F0 m pc ls st0) := tl_callS S hM cw hK hP hD hS hA isC isR hnC hC hR hnR hdis hn hsize hstack hrm hdg hf kk
theorem tl_fin {w w1 : va_W} {v : Option Value} {t : State} (hAe : A = va_A w s.heap.size) (hp : post v w1) (hP : va_P D vwCl w1 H) (hK : va_K D vwCl tys s) (hD : va_D A w1) (hS : va_S A s.heap H locs) (ht : t.heap = H) (hW : s.WarmedH t.vm) : tl_Q D tys w s.heap.size post args s (.returned v) t := by
  subst hAe
  exact ⟨⟨v, w1, rfl, hp, by rw [ht]; exact hP, va_K.moved hW.alike hK, hD⟩, hS.F ht⟩
end TLC
abbrev tl_tys (cy : Nat → ClassId) : List (ClassId × FieldType) := [(cy 0, .byte), (cy 1, .int), (cy 2, .long), (cy 3, .boolean), (cy 4, .object "TwinLinks$House")]
def tl_N : Nat := 1000000
