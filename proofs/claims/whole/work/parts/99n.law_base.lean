/-! worlds as lists: their order does not matter; calls over a part of a world -/
theorem wd_P {D : va_G} {cl : List vw_C} {a : va_W} {H : Heap} : va_P D cl a H ↔ ∀ q ∈ a, va_at D cl q H := by
  constructor
  · intro h q hq
    obtain ⟨k, hk⟩ := List.mem_iff_getElem?.mp hq
    exact h k q hk
  · intro h k q hk
    exact h q (List.mem_iff_getElem?.mpr ⟨k, hk⟩)
theorem wd_D {A : Nat → Prop} {a : va_W} : va_D A a ↔ a.Pairwise (fun p q => p.1 ≠ q.1) ∧ ∀ q ∈ a, A q.1 := by
  constructor
  · intro h
    refine ⟨List.pairwise_iff_getElem.mpr (fun i j hi hj hij e => ?_), fun q hq => ?_⟩
    · have := h.1 i j a[i] a[j] (List.getElem?_eq_getElem hi) (List.getElem?_eq_getElem hj) e
      omega
    · obtain ⟨k, hk⟩ := List.mem_iff_getElem?.mp hq
      exact h.2 k q hk
  · intro h
    refine ⟨fun i j p q hp hq e => ?_, fun k q hk => h.2 q (List.mem_iff_getElem?.mpr ⟨k, hk⟩)⟩
    obtain ⟨hi, rfl⟩ := List.getElem?_eq_some_iff.mp hp
    obtain ⟨hj, rfl⟩ := List.getElem?_eq_some_iff.mp hq
    have hw := List.pairwise_iff_getElem.mp h.1
    rcases Nat.lt_trichotomy i j with z | z | z
    · exact absurd e (hw i j hi hj z)
    · exact z
    · exact absurd e.symm (hw j i hj hi z)
theorem va_P.perm {D : va_G} {cl : List vw_C} {a b : va_W} {H : Heap} (h : a.Perm b) (hP : va_P D cl a H) : va_P D cl b H := wd_P.mpr (fun q hq => wd_P.mp hP q (h.mem_iff.mpr hq))
theorem va_D.perm {A : Nat → Prop} {a b : va_W} (h : a.Perm b) (hD : va_D A a) : va_D A b :=
  wd_D.mpr ⟨(h.pairwise_iff (fun {x y} e => Ne.symm e)).mp (wd_D.mp hD).1, fun q hq => (wd_D.mp hD).2 q (h.mem_iff.mpr hq)⟩
theorem wd_nd : ∀ (l : List Nat), l.Nodup → va_nd l = true
  | [], _ => rfl
  | a :: l, h => by
    have h2 := List.nodup_cons.mp h
    simp only [va_nd, Bool.and_eq_true, decide_eq_true_eq]
    exact ⟨h2.1, wd_nd l h2.2⟩
theorem wd_C (a b : va_W) : (List.range a.length).map (fun i => (a ++ b)[i]?) = a.map some := by
  refine List.ext_getElem (by simp) (fun i h1 h2 => ?_)
  simp only [List.length_map, List.length_range] at h1
  simp only [List.getElem_map, List.getElem_range]
  rw [List.getElem?_append_left h1, List.getElem?_eq_getElem h1]
theorem wd_R (a b : va_W) : (List.range' a.length b.length).map (fun i => (a ++ b)[i]?) = b.map some := by
  refine List.ext_getElem (by simp) (fun i h1 h2 => ?_)
  simp only [List.length_map, List.length_range'] at h1
  simp only [List.getElem_map, List.getElem_range', Nat.one_mul]
  rw [List.getElem?_append_right (by omega), Nat.add_sub_cancel_left, List.getElem?_eq_getElem h1]
theorem wd_dis (a b : va_W) : ∀ i ∈ List.range' a.length b.length, i ∉ List.range a.length := by
  intro i h1 h2
  have h3 := (List.mem_range'_1.mp h1).1
  have h4 := List.mem_range.mp h2
  omega
/-- a list and the same things in another order -/
theorem wd_is (a : va_W) (is : List Nat) (h : is.isPerm (List.range a.length) = true) : (is.filterMap (fun i => a[i]?)).Perm a := by
  have h1 := List.isPerm_iff.mp h
  have h2 := h1.filterMap (fun i => a[i]?)
  have h3 : (List.range a.length).filterMap (fun i => a[i]?) = a := by
    have : ∀ (b : va_W), (List.range b.length).filterMap (fun i => b[i]?) = b := by
      intro b
      induction b with
      | nil => rfl
      | cons x b ih =>
        rw [List.length_cons, List.range_succ_eq_map, List.filterMap_cons, List.filterMap_map]
        simp only [List.getElem?_cons_zero]
        congr 1
    exact this a
  rw [h3] at h2
  exact h2
def va_Cs (C T : String) (U : State) : Prop := ∃ c t : ClassId, U.vm.findClass C = some c ∧ U.vm.findClass T = some t ∧ U.vm.assignable c t = true
theorem va_Cs.moved {C T : String} {u U : State} (hvm : u.vm.Alike U.vm) (h : va_Cs C T u) : va_Cs C T U := by
  obtain ⟨c, t, h1, h2, h3⟩ := h
  exact ⟨c, t, by rw [hvm.findClass]; exact h1, by rw [hvm.findClass]; exact h2, by rw [hvm.assignable]; exact h3⟩
def tl_NC (U : State) : Prop := (∀ i j : Nat, i < 6 → j < 6 → i ≠ j → va_Nc (tl_ex i) (tl_ex j) U) ∧ ∀ i : Nat, i < 6 → va_Cs (tl_ex i) (tl_ex i) U
theorem tl_NC.moved {u U : State} (hvm : u.vm.Alike U.vm) (h : tl_NC u) : tl_NC U := ⟨fun i j h1 h2 h3 => (h.1 i j h1 h2 h3).moved hvm, fun i h1 => (h.2 i h1).moved hvm⟩
def tl_wH (y : MethodName) (cc : ByteArray) (maxL : Nat) (ret : Option FieldType) (hh : List (Nat × Nat × Nat × Nat)) : List Cond := Cond.codeWith y cc maxL ret hh :: tl_T
/-- a method that catches what is thrown below it -/
def tl_MY (l : Launch) (D : va_G) (tys : List (ClassId × FieldType)) (sa : Nat → Nat) (y : MethodName) (ws : List Cond) (rm : Room) (As : List Value) (w : va_W) (mc ms : Nat) (post : Option Value → va_W → Prop) : Prop :=
  ∀ sz : Nat, Met l y ws rm (va_Pc As (fun U => (tl_Pre D tys w sz U ∧ tl_E sa (va_A w sz) U U.heap) ∧ tl_NC U)) (tl_Q D tys w sz post) mc ms (va_A w sz)
theorem tl_blindY {D : va_G} {tys : List (ClassId × FieldType)} {w : va_W} {sz : Nat} {As : List Value} {sa : Nat → Nat} : FrameBlind (va_Pc As (fun U => (tl_Pre D tys w sz U ∧ tl_E sa (va_A w sz) U U.heap) ∧ tl_NC U)) := by
  intro a U g mk q
  obtain ⟨q0, ⟨⟨q1, qP, qK, qD⟩, qE⟩, qN⟩ := q
  exact ⟨q0, ⟨⟨q1, qP, va_K.moved (u := U) (U := U.calling g mk a) (Vm.Alike.refl U.vm) qK, qD⟩, tl_E.same (U := U) (V := U.calling g mk a) rfl qE⟩, tl_NC.moved (u := U) (U := U.calling g mk a) (Vm.Alike.refl U.vm) qN⟩
theorem tl_ofY {l : Launch} {D : va_G} {tys : List (ClassId × FieldType)} {sa : Nat → Nat} {y : MethodName} {rm : Room} {As : List Value} {w : va_W} {mc ms : Nat} {post : Option Value → va_W → Prop} {cc : ByteArray} {maxL : Nat} {ret : Option FieldType} {hh : List (Nat × Nat × Nat × Nat)}
    (hy : plainName y.cls = true) (hlen : (lg_sl As).length ≤ maxL)
    (body : ∀ (p : Program) (e : Env) (s : State) (m : MethodId) (below : List Frame) (meth : Method) (c : Code), p.tables.exec = Jvm.exec → c.code = cc → meth.sig.returnType = ret → c.maxLocals = maxL → (∀ w ∈ tl_T, w.before As.toArray s = true) → s.vm.findClass y.cls = some m.cls → meth.locks = false → c.exceptionTable.toList = tableOf hh → tl_E sa (va_A w s.heap.size) s s.heap → tl_NC s →
      ∀ A : Nat → Prop, A = va_A w s.heap.size → (∀ q, s.heap.size ≤ q → A q) → va_P D vwCl w s.heap → va_K D vwCl tys s → va_D A w → va_S A s.heap s.heap [] → ∀ ls : Array Slot, lv_has ls maxL (lv_args 0 As) →
      W p l e rm s m As.toArray below meth c s.heap [] 0 0 (MQ below (tl_Q D tys w s.heap.size post) As.toArray s mc ms A) (F0 m 0 ls [])) : tl_MY l D tys sa y (tl_wH y cc maxL ret hh) rm As w mc ms post := by
  intro sz
  refine va_MetW (cc := cc) (maxL := maxL) (ret := ret) (hh := hh) hy rfl ?_
  intro p e s m args below meth c s₁ B hml hv
  obtain ⟨rfl, ⟨⟨hsz, hP, hK, hD0⟩, hE⟩, hN⟩ := hv
  subst hsz
  have hl := lv_entry As (n := maxL) hlen
  rw [lg_entry_eq]
  have hts : ∀ w ∈ tl_wH y cc maxL ret hh, w.before As.toArray s = true := atoms_spec (ws := tl_wH y cc maxL ret hh) B.pre
  exact body p e s m below meth c B.exec B.bytes B.returns hml (fun w h => hts w (List.mem_cons_of_mem _ h)) (findClass_of_methodNamed B.named) B.notSynchronized (vx_table (x := y) B (hts _ List.mem_cons_self)) hE hN _ rfl (fun q h => Or.inr h) hP hK (hD0.self (sz := s.heap.size)) va_S.rf _ hl
section TLZ
variable {p : Program} {l : Launch} {e : Env} {R : Room} {s : State} {m : MethodId} {args : Array Value} {below : List Frame} {meth : Method} {c : Code} {H : Heap} {locs : List Loc} {cells slots : Nat} {Q : State → Prop}
variable {cc bytes : ByteArray} {pc nL n index maxL mc ms : Nat} {ls : Array Slot} {rest st0 As : List Value} {D : va_G} {A : Nat → Prop} {b : Nat} {tys : List (ClassId × FieldType)} {wc wr : va_W} {post : Option Value → va_W → Prop} {px : String → va_W → Prop} {y : MethodName} {wsc Ts : List Cond} {rm : Room} {ret : Option FieldType} {own C : String} {sa : Nat → Nat} {hh : List (Nat × Nat × Nat × Nat)}
theorem tl_callYA (S : CallFix p m c cc nL s args Ts own) (hM : tl_MY l D tys sa y wsc rm As wc mc ms post) (cw : vx_CSW R s args own index y bytes maxL ret hh wsc rm mc ms n) (hE : tl_E sa A s s.heap) (hN : tl_NC s)
    (hK : va_K D vwCl tys s) (hP : va_P D vwCl (wc ++ wr) H) (hD : va_D A (wc ++ wr)) (hS : va_S A s.heap H locs) (hA : ∀ q, s.heap.size ≤ q → A q)
    (hn : As.length = n) (hsize : ls.size = nL) (hstack : st0 = As.reverse ++ rest) (hrm : (rest.map fun v => v.category).sum ≤ 8) (hdg : decode cc pc = .ok (.invokestatic index, 3)) (hf : cells + mc ≤ R.cells ∧ slots + ms ≤ R.slots)
    (kk : ∀ (v : Option Value) (w1 : va_W) (H1 : Heap) (locs1 : List Loc), post v w1 → va_P D vwCl (w1 ++ wr) H1 → va_D A (w1 ++ wr) → va_S A s.heap H1 locs1 → W p l e R s m args below meth c H1 locs1 (cells + mc) (slots + ms) Q (F0 m (pc + 3) ls (v.toList ++ rest))) :
    W p l e R s m args below meth c H locs cells slots Q (F0 m pc ls st0) := by
  subst hstack
  refine tl_behind (wr := wr) (vx_runSW (As := As) (rest := rest) S (hM H.size) cw ⟨tl_blindY, fun U hU hW => ⟨rfl, tl_preX hK hP hD hS hA hE (List.range wc.length) (wd_nd _ List.nodup_range) (wd_C wc wr) hU hW, hN.moved hW.alike⟩⟩ rfl hn hsize rfl (lv_room hrm) hdg hf) hP hD hS hA (List.range wc.length) (List.range' wc.length wr.length) (wd_C wc wr) (wd_R wc wr) (wd_nd _ (List.nodup_range' (h := by decide))) (wd_dis wc wr) (fun v w1 H1 locs1 h1 h2 h3 h4 => ?_)
  exact kk v w1 H1 locs1 h1 (h2.perm List.perm_append_comm) (h3.perm List.perm_append_comm) h4
theorem tl_callVA (S : CallFix p m c cc nL s args Ts own) (hM : tl_MC l D tys y wsc rm (.ref b :: As) wc mc ms post) (cw : CallW R s args own C index y bytes maxL ret wsc rm mc ms n)
    (hK : va_K D vwCl tys s) (hP : va_P D vwCl (wc ++ wr) H) (hD : va_D A (wc ++ wr)) (hS : va_S A s.heap H locs) (hA : ∀ q, s.heap.size ≤ q → A q)
    (ci : Nat) {fs : List Value} {qq : vw_C} (he : wc[0]? = some (tl_ob b ci fs)) (hc : vwCl[ci]? = some qq) (hq : qq.1 = C)
    (hn : As.length = n) (hsize : ls.size = nL) (hstack : st0 = As.reverse ++ .ref b :: rest) (hrm : (rest.map fun v => v.category).sum ≤ 8) (hdg : decode cc pc = .ok (.invokevirtual index, 3)) (hf : cells + mc ≤ R.cells ∧ slots + ms ≤ R.slots)
    (kk : ∀ (v : Option Value) (w1 : va_W) (H1 : Heap) (locs1 : List Loc), post v w1 → va_P D vwCl (w1 ++ wr) H1 → va_D A (w1 ++ wr) → va_S A s.heap H1 locs1 → W p l e R s m args below meth c H1 locs1 (cells + mc) (slots + ms) Q (F0 m (pc + 3) ls (v.toList ++ rest))) :
    W p l e R s m args below meth c H locs cells slots Q (F0 m pc ls st0) :=
  tl_callV (wr := wr) S hM cw hK hP hD hS hA (List.range wc.length) (List.range' wc.length wr.length) (wd_nd _ List.nodup_range) (wd_C wc wr) (wd_R wc wr) (wd_nd _ (List.nodup_range' (h := by decide))) (wd_dis wc wr) 0 ci (by rw [List.getElem?_append_left (List.getElem?_eq_some_iff.mp he).1]; exact he) hc hq hn hsize hstack hrm hdg hf
    (fun v w1 H1 locs1 h1 h2 h3 h4 => kk v w1 H1 locs1 h1 (h2.perm List.perm_append_comm) (h3.perm List.perm_append_comm) h4)
theorem tl_callVXA (S : CallFix p m c cc nL s args Ts own) (hM : tl_MX l D tys sa y wsc rm (.ref b :: As) wc mc ms post px) (cw : CallW R s args own C index y bytes maxL ret wsc rm mc ms n) (hE : tl_E sa A s s.heap)
    (hK : va_K D vwCl tys s) (hP : va_P D vwCl (wc ++ wr) H) (hD : va_D A (wc ++ wr)) (hS : va_S A s.heap H locs) (hA : ∀ q, s.heap.size ≤ q → A q)
    (ci : Nat) {fs : List Value} {qq : vw_C} (he : wc[0]? = some (tl_ob b ci fs)) (hc : vwCl[ci]? = some qq) (hq : qq.1 = C)
    (hn : As.length = n) (hsize : ls.size = nL) (hstack : st0 = As.reverse ++ .ref b :: rest) (hrm : (rest.map fun v => v.category).sum ≤ 8) (hdg : decode cc pc = .ok (.invokevirtual index, 3)) (hf : cells + mc ≤ R.cells ∧ slots + ms ≤ R.slots)
    (kx : ∀ (E : String) (ce : Cell) (q9 : Addr) (w1 : va_W) (H1 : Heap) (locs1 : List Loc), px E w1 → va_P D vwCl (w1 ++ wr) H1 → va_D A (w1 ++ wr) → va_S A s.heap H1 locs1 → H1[q9]? = some ce → ce.vm = .none → s.vm.findClass E = some ce.cls → vx_W p l e R s m args below meth c H1 locs1 (cells + mc) (slots + ms) Q (F0 m pc ls rest) q9)
    (kk : ∀ (v : Option Value) (w1 : va_W) (H1 : Heap) (locs1 : List Loc), post v w1 → va_P D vwCl (w1 ++ wr) H1 → va_D A (w1 ++ wr) → va_S A s.heap H1 locs1 → W p l e R s m args below meth c H1 locs1 (cells + mc) (slots + ms) Q (F0 m (pc + 3) ls (v.toList ++ rest))) :
    W p l e R s m args below meth c H locs cells slots Q (F0 m pc ls st0) :=
  tl_callVX (wr := wr) S hM cw hE hK hP hD hS hA (List.range wc.length) (List.range' wc.length wr.length) (wd_nd _ List.nodup_range) (wd_C wc wr) (wd_R wc wr) (wd_nd _ (List.nodup_range' (h := by decide))) (wd_dis wc wr) 0 ci (by rw [List.getElem?_append_left (List.getElem?_eq_some_iff.mp he).1]; exact he) hc hq hn hsize hstack hrm hdg hf
    (fun E ce q9 w1 H1 locs1 h1 h2 h3 h4 => kx E ce q9 w1 H1 locs1 h1 (h2.perm List.perm_append_comm) (h3.perm List.perm_append_comm) h4)
    (fun v w1 H1 locs1 h1 h2 h3 h4 => kk v w1 H1 locs1 h1 (h2.perm List.perm_append_comm) (h3.perm List.perm_append_comm) h4)
theorem ts_last {a n : Nat} {ws : va_W} {H0 : Heap} {cl : List vw_C} {cA : ClassId} {f : Nat → Int64} {i : Int} {xl : Int64} (hexec : p.tables.exec = Jvm.exec) (hb : c.code = cc) (hi : tl_in i n) (hK : va_K D cl tys s) (hP : va_P D cl ws H) (hD : va_D A ws) (hS : va_S A H0 H locs) (q0 t0 : Nat) (ha : ws[q0]? = some (tl_ja cA a n f)) (ht : tys[t0]? = some (cA, .long)) (hn : n ≤ 2147483647) (hdg : decode cc pc = .ok (.lastore, 1))
    (kk : ∀ (H1 : Heap) (locs1 : List Loc), va_P D cl (ws.set q0 (tl_ja cA a n (va_up f i.toNat xl))) H1 → va_D A (ws.set q0 (tl_ja cA a n (va_up f i.toNat xl))) → va_S A H0 H1 locs1 → W p l e R s m args below meth c H1 locs1 cells slots Q (F0 m (pc + 1) ls rest)) : W p l e R s m args below meth c H locs cells slots Q (F0 m pc ls (.long xl :: .int (tl_I i) :: .ref a :: rest)) :=
  tr_last (F := some ()) (r := ()) hexec hb (by rw [tl_gt hi]) hK hP hD hS q0 t0 ha ht hn hdg (fun _ => kk)
end TLZ
