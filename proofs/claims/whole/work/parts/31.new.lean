/-! rows that make arrays; copies of whole arrays -/
section TLN
variable {p : Program} {l : Launch} {e : Env} {R : Room} {s : State} {m : MethodId} {args : Array Value} {below : List Frame} {meth : Method} {c : Code} {H : Heap} {locs : List Loc} {cells slots : Nat} {Q : State → Prop}
variable {cc : ByteArray} {pc : Nat} {ls : Array Slot} {rest : List Value} {D : va_G} {cl : List vw_C} {A : Nat → Prop} {a n : Nat} {tys : List (ClassId × FieldType)} {ws : va_W} {H0 : Heap} {cA : ClassId}
theorem tl_prim {U : State} {c1 c2 : ClassId} {ty : FieldType} (hp : ∀ C, ty ≠ .object C) (h1 : va_RA U c1 ty) (h2 : va_RA U c2 ty) : c1 = c2 := by
  cases ty with
  | object C => exact absurd rfl (hp C)
  | _ => exact Option.some.inj (h1.symm.trans h2)
theorem tr_newa (hexec : p.tables.exec = Jvm.exec) (hb : c.code = cc) {atype : ArrayType} {ty : FieldType} (hty : newarray.typeOf atype = ty) (harr : (Cond.arrayClass ty).before args s = true) (hp : ∀ C, ty ≠ .object C) (hdef : defaultValue ty = .int 0) (hK : va_K D cl tys s) (t0 : Nat) (ht : tys[t0]? = some (cA, ty)) (hP : va_P D cl ws H) (hD : va_D A ws) (hS : va_S A H0 H locs) (hA : ∀ q, H0.size ≤ q → A q)
    {k : Int} {N' : Nat} (hk : k = (N' : Int)) (hN : N' ≤ 2147483647) (hbytes : N' * componentBytes ty ≤ 536870912) (hcells : cells + 1 ≤ R.cells) (hslots : slots + N' ≤ R.slots) (hdg : decode cc pc = .ok (.newarray atype, 2))
    (kk : ∀ (q : Nat) (H1 : Heap), va_P D cl (ws ++ [tl_ia cA q N' (fun _ => 0)]) H1 → va_D A (ws ++ [tl_ia cA q N' (fun _ => 0)]) → va_S A H0 H1 locs →
      W p l e R s m args below meth c H1 locs (cells + 1) (slots + N') Q (F0 m (pc + 2) ls (.ref q :: rest))) : W p l e R s m args below meth c H locs cells slots Q (F0 m pc ls (.int (tl_I k) :: rest)) := by
  subst hk
  refine va_newa (a0 := (N', .inl (fun _ => tl_I 0))) hexec hb (by rw [hty]; exact harr) hty hK hP hD hS hA (fun c1 => ?_) (fun h => ?_) ?_ hbytes hcells hslots hdg (fun q c1 H1 hK1 hP1 hD1 hS1 => ?_)
  · rw [vp_cell_i, hdef]
    rfl
  · have := (tl_lt (a := (N' : Int)) (b := 0) ⟨by omega, by omega⟩ tl_R0).mp h
    omega
  · rw [tl_cl (by omega) (by omega)]
    omega
  · have e1 : (tys ++ [(c1, ty)])[tys.length]? = some (c1, ty) := by simp
    have h := tl_prim hp (hK1.2 _ _ e1).2 (hK.2 _ _ ht).2
    subst h
    exact kk q H1 hP1 hD1 hS1
theorem tr_newl (hexec : p.tables.exec = Jvm.exec) (hb : c.code = cc) {atype : ArrayType} (hty : newarray.typeOf atype = .long) (harr : (Cond.arrayClass .long).before args s = true) (hK : va_K D cl tys s) (t0 : Nat) (ht : tys[t0]? = some (cA, .long)) (hP : va_P D cl ws H) (hD : va_D A ws) (hS : va_S A H0 H locs) (hA : ∀ q, H0.size ≤ q → A q)
    {k : Int} {N' : Nat} (hk : k = (N' : Int)) (hN : N' ≤ 2147483647) (hbytes : N' * componentBytes .long ≤ 536870912) (hcells : cells + 1 ≤ R.cells) (hslots : slots + N' ≤ R.slots) (hdg : decode cc pc = .ok (.newarray atype, 2))
    (kk : ∀ (q : Nat) (H1 : Heap), va_P D cl (ws ++ [tl_ja cA q N' (fun _ => 0)]) H1 → va_D A (ws ++ [tl_ja cA q N' (fun _ => 0)]) → va_S A H0 H1 locs →
      W p l e R s m args below meth c H1 locs (cells + 1) (slots + N') Q (F0 m (pc + 2) ls (.ref q :: rest))) : W p l e R s m args below meth c H locs cells slots Q (F0 m pc ls (.int (tl_I k) :: rest)) := by
  subst hk
  refine va_newa (a0 := (N', .inr (.inl (fun _ => 0)))) hexec hb (by rw [hty]; exact harr) hty hK hP hD hS hA (fun c1 => ?_) (fun h => ?_) ?_ hbytes hcells hslots hdg (fun q c1 H1 hK1 hP1 hD1 hS1 => ?_)
  · rw [vp_cell_l]
    rfl
  · have := (tl_lt (a := (N' : Int)) (b := 0) ⟨by omega, by omega⟩ tl_R0).mp h
    omega
  · rw [tl_cl (by omega) (by omega)]
    omega
  · have e1 : (tys ++ [(c1, .long)])[tys.length]? = some (c1, .long) := by simp
    have h := tl_prim (fun C h => by cases h) (hK1.2 _ _ e1).2 (hK.2 _ _ ht).2
    subst h
    exact kk q H1 hP1 hD1 hS1
theorem tl_cpy (f g : Nat → Int) (n : Nat) : va_cpy (fun j => tl_I (f j)) (fun j => tl_I (g j)) 0 0 n = fun j => tl_I (va_cpy f g 0 0 n j) := by
  funext j
  unfold va_cpy
  by_cases h : 0 ≤ j ∧ j < 0 + n
  · rw [if_pos h, if_pos h]
  · rw [if_neg h, if_neg h]
theorem tr_copyi {a0 : Nat} {f g : Nat → Int} {k : Int} {own : String} {index : Nat} (hexec : p.tables.exec = Jvm.exec) (hb : c.code = cc) (hml : c.maxLocals = ls.size) (hown : s.vm.findClass own = some m.cls) (hlink : (Cond.methodLink own index arraycopyName).before args s = true) (hnat : (Cond.native arraycopyName).before args s = true) (hstat : (Cond.static arraycopyName).before args s = true) (hini : (Cond.initialized "java/lang/System").before args s = true)
    (hK : va_K D cl tys s) (hP : va_P D cl ws H) (hD : va_D A ws) (hS : va_S A H0 H locs) (q0 q1 t0 : Nat) (ha0 : ws[q0]? = some (tl_ia cA a0 n f)) (ha1 : ws[q1]? = some (tl_ia cA a n g)) (ht : tys[t0]? = some (cA, .int)) (hk : k = (n : Int)) (hn : n ≤ 2147483647)
    (hframes : 1 ≤ R.frames) (hlocals : (rest.map fun v => v.category).sum + (nativeFrameWords "java/lang/System" "arraycopy" 5 + 11) ≤ R.locals) (hdg : decode cc pc = .ok (.invokestatic index, 3))
    (kk : ∀ (H1 : Heap) (locs1 : List Loc), va_P D cl (ws.set q1 (tl_ia cA a n (va_cpy f g 0 0 n))) H1 → va_D A (ws.set q1 (tl_ia cA a n (va_cpy f g 0 0 n))) → va_S A H0 H1 locs1 → W p l e R s m args below meth c H1 locs1 cells slots Q (F0 m (pc + 3) ls rest)) : W p l e R s m args below meth c H locs cells slots Q (F0 m pc ls (.int (tl_I k) :: .int (tl_I 0) :: .ref a :: .int (tl_I 0) :: .ref a0 :: rest)) := by
  subst hk
  have h0 : (tl_I 0).toNatClampNeg = 0 := rfl
  have hnn : (tl_I (n : Int)).toNatClampNeg = n := by rw [tl_cl (by omega) (by omega)]; omega
  refine va_copyi hexec hb hml hown hlink hnat hstat hini hK hP hD hS q0 q1 t0 t0 ha0 ha1 ht ht rfl (by decide) (by decide) (fun h => ?_) (by rw [h0, hnn]; omega) (by rw [h0, hnn]; omega) (fun _ _ => rfl) hframes hlocals hdg ?_
  · have := (tl_lt (a := (n : Int)) (b := 0) ⟨by omega, by omega⟩ tl_R0).mp h
    omega
  · rw [h0, hnn, tl_cpy]
    exact kk
theorem tr_copyl {a0 : Nat} {f g : Nat → Int64} {k : Int} {own : String} {index : Nat} (hexec : p.tables.exec = Jvm.exec) (hb : c.code = cc) (hml : c.maxLocals = ls.size) (hown : s.vm.findClass own = some m.cls) (hlink : (Cond.methodLink own index arraycopyName).before args s = true) (hnat : (Cond.native arraycopyName).before args s = true) (hstat : (Cond.static arraycopyName).before args s = true) (hini : (Cond.initialized "java/lang/System").before args s = true)
    (hK : va_K D cl tys s) (hP : va_P D cl ws H) (hD : va_D A ws) (hS : va_S A H0 H locs) (q0 q1 t0 : Nat) (ha0 : ws[q0]? = some (tl_ja cA a0 n f)) (ha1 : ws[q1]? = some (tl_ja cA a n g)) (ht : tys[t0]? = some (cA, .long)) (hk : k = (n : Int)) (hn : n ≤ 2147483647)
    (hframes : 1 ≤ R.frames) (hlocals : (rest.map fun v => v.category).sum + (nativeFrameWords "java/lang/System" "arraycopy" 5 + 11) ≤ R.locals) (hdg : decode cc pc = .ok (.invokestatic index, 3))
    (kk : ∀ (H1 : Heap) (locs1 : List Loc), va_P D cl (ws.set q1 (tl_ja cA a n (va_cpy f g 0 0 n))) H1 → va_D A (ws.set q1 (tl_ja cA a n (va_cpy f g 0 0 n))) → va_S A H0 H1 locs1 → W p l e R s m args below meth c H1 locs1 cells slots Q (F0 m (pc + 3) ls rest)) : W p l e R s m args below meth c H locs cells slots Q (F0 m pc ls (.int (tl_I k) :: .int (tl_I 0) :: .ref a :: .int (tl_I 0) :: .ref a0 :: rest)) := by
  subst hk
  have h0 : (tl_I 0).toNatClampNeg = 0 := rfl
  have hnn : (tl_I (n : Int)).toNatClampNeg = n := by rw [tl_cl (by omega) (by omega)]; omega
  refine va_copyl hexec hb hml hown hlink hnat hstat hini hK hP hD hS q0 q1 t0 t0 ha0 ha1 ht ht rfl (by decide) (by decide) (fun h => ?_) (by rw [h0, hnn]; omega) (by rw [h0, hnn]; omega) (fun _ _ => rfl) hframes hlocals hdg ?_
  · have := (tl_lt (a := (n : Int)) (b := 0) ⟨by omega, by omega⟩ tl_R0).mp h
    omega
  · rw [h0, hnn]
    exact kk
end TLN
