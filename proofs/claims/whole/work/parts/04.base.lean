/-! ints as whole numbers, with guards where a comparison, a place or a divisor asks for them -/
def tl_I (n : Int) : Int32 := Int32.ofInt n
abbrev tl_R (n : Int) : Prop := -2147483648 ≤ n ∧ n ≤ 2147483647
abbrev tl_in (i : Int) (n : Nat) : Prop := 0 ≤ i ∧ i < (n : Int)
def tl_gd {α : Type} (c : Prop) [Decidable c] (x : Option α) : Option α := if c then x else none
theorem tl_gs {α : Type} {c : Prop} [Decidable c] {x : Option α} {r : α} (h : tl_gd c x = some r) : c ∧ x = some r := by
  unfold tl_gd at h
  split at h
  · exact ⟨by assumption, h⟩
  · cases h
theorem tl_gt {α : Type} {c : Prop} [Decidable c] {x : Option α} (h : c) : tl_gd c x = x := by simp [tl_gd, h]
theorem tl_bs {α β : Type} {x : Option α} {f : α → Option β} {r : β} (h : x.bind f = some r) : ∃ a, x = some a ∧ f a = some r := by
  cases x with
  | none => cases h
  | some a => exact ⟨a, rfl, h⟩
theorem tl_toInt {n : Int} (h : tl_R n) : (tl_I n).toInt = n := Int32.toInt_ofInt_of_le (by omega) (by omega)
theorem tl_cl {n : Int} (h0 : 0 ≤ n) (h1 : n ≤ 2147483647) : (tl_I n).toNatClampNeg = n.toNat := Int32.toNatClampNeg_ofInt_of_le (by omega) (by omega)
theorem tl_add (a b : Int) : tl_I a + tl_I b = tl_I (a + b) := (Int32.ofInt_add a b).symm
theorem tl_sub (a b : Int) : tl_I a - tl_I b = tl_I (a - b) := (Int32.ofInt_sub a b).symm
theorem tl_mul (a b : Int) : tl_I a * tl_I b = tl_I (a * b) := (Int32.ofInt_mul a b).symm
theorem tl_neg (a : Int) : -tl_I a = tl_I (-a) := (Int32.ofInt_neg a).symm
theorem tl_lt {a b : Int} (ha : tl_R a) (hb : tl_R b) : tl_I a < tl_I b ↔ a < b := by rw [Int32.lt_iff_toInt_lt, tl_toInt ha, tl_toInt hb]
theorem tl_le {a b : Int} (ha : tl_R a) (hb : tl_R b) : tl_I a ≤ tl_I b ↔ a ≤ b := by rw [Int32.le_iff_toInt_le, tl_toInt ha, tl_toInt hb]
theorem tl_eq {a b : Int} (ha : tl_R a) (hb : tl_R b) : tl_I a = tl_I b ↔ a = b := by rw [← Int32.toInt_inj, tl_toInt ha, tl_toInt hb]
theorem tl_of (x : Int32) : tl_I x.toInt = x := Int32.ofInt_toInt x
theorem tl_Rof (x : Int32) : tl_R x.toInt := ⟨by have := x.le_toInt; omega, by have := x.toInt_lt; omega⟩
theorem tl_nat (n : Nat) : Int32.ofNat n = tl_I (n : Int) := Int32.ofInt_eq_ofNat.symm
theorem tl_I0 : tl_I 0 = 0 := rfl
theorem tl_R0 : tl_R 0 := by decide
theorem tl_div {a b : Int} (ha : 0 ≤ a) (ha2 : a ≤ 2147483647) (hb : 0 < b) (hb2 : b ≤ 2147483647) : tl_I a / tl_I b = tl_I (a / b) := by
  have h1 : tl_R (a / b) := ⟨by have := Int.ediv_nonneg ha (Int.le_of_lt hb); omega, by have := Int.ediv_le_self b ha; omega⟩
  rw [← Int32.toInt_inj, Int32.toInt_div_of_ne_left _ _ ?_, tl_toInt ⟨by omega, ha2⟩, tl_toInt ⟨by omega, hb2⟩, tl_toInt h1, Int.tdiv_eq_ediv_of_nonneg ha]
  intro h
  have h2 := congrArg Int32.toInt h
  rw [tl_toInt ⟨by omega, ha2⟩] at h2
  have h3 : Int32.minValue.toInt = -2147483648 := by decide
  omega
theorem tl_rem {a b : Int} (ha : 0 ≤ a) (ha2 : a ≤ 2147483647) (hb : 0 < b) (hb2 : b ≤ 2147483647) : tl_I a - tl_I a / tl_I b * tl_I b = tl_I (a % b) := by
  rw [tl_div ha ha2 hb hb2, tl_mul, tl_sub, Int.emod_def, Int.mul_comm]
theorem tl_ne0 {b : Int} (hb : 0 < b) (hb2 : b ≤ 2147483647) : ¬ tl_I b = 0 := fun h => by
  have := (tl_eq ⟨by omega, hb2⟩ tl_R0).mp (h.trans tl_I0.symm)
  omega
theorem tl_vin {i : Int} {n : Nat} (h : tl_in i n) (hn : n ≤ 2147483647) : vp_in (tl_I i) n := by
  rw [vp_in_iff, tl_toInt ⟨by omega, by omega⟩]
  exact h
/-! the cells of a world -/
def tl_ia (cA : ClassId) (a n : Nat) (f : Nat → Int) : Nat × va_E := (a, .inl (cA, n, .inl (fun j => tl_I (f j))))
def tl_ja (cA : ClassId) (a n : Nat) (f : Nat → Int64) : Nat × va_E := (a, .inl (cA, n, .inr (.inl f)))
def tl_qa (cA : ClassId) (a n : Nat) (f : Nat → Option Nat) : Nat × va_E := (a, .inl (cA, n, .inr (.inr (.inr (.inr f)))))
def tl_ob (a ci : Nat) (fs : List Value) : Nat × va_E := (a, .inr (ci, fs))
theorem tl_upd (f : Nat → Int) (k : Nat) (x : Int) : upd (fun j => tl_I (f j)) k (tl_I x) = fun j => tl_I (va_up f k x j) := by
  funext j
  by_cases h : j = k <;> simp [upd, va_up, h]
theorem tl_updL (f : Nat → Int64) (k : Nat) (x : Int64) : vp_updL f k x = va_up f k x := rfl
theorem tl_nz {x : Int} (h : x = 0 ∨ x = 1) : vp_nar .boolean (tl_I x) = tl_I x := by rcases h with rfl | rfl <;> decide
theorem tl_nb {x : Int} (h : -128 ≤ x ∧ x ≤ 127) : vp_nar .byte (tl_I x) = tl_I x := by
  have h1 : x = -128 + ((x + 128).toNat : Int) := by omega
  have h2 : (x + 128).toNat < 256 := by omega
  have key : ∀ k : Fin 256, vp_nar .byte (tl_I (-128 + ((k.val : Nat) : Int))) = tl_I (-128 + ((k.val : Nat) : Int)) := by decide +kernel
  rw [h1]
  exact key ⟨_, h2⟩
theorem tl_nar01 {x : Int} (h : x = 0 ∨ x = 1) : narrow .boolean (.int (tl_I x)) = .int (tl_I x) := by rcases h with rfl | rfl <;> rfl
/-! longs: shifts by ints, and back -/
def tl_lushr (x : Int64) (y : Int) : Int64 := (x.toUInt64 >>> ((tl_I y).toInt64.toUInt64 &&& Int64.toUInt64 63)).toInt64
def tl_lshl (x : Int64) (y : Int) : Int64 := x <<< ((tl_I y).toInt64 &&& 63)
def tl_l2i (x : Int64) : Int := x.toInt32.toInt
theorem tl_l2i_ok (x : Int64) : x.toInt32 = tl_I (tl_l2i x) := (tl_of x.toInt32).symm
def tl_i2l (x : Int) : Int64 := (tl_I x).toInt64
section TLA
variable {p : Program} {l : Launch} {e : Env} {R : Room} {s : State} {m : MethodId} {args : Array Value} {below : List Frame} {meth : Method} {c : Code} {H : Heap} {locs : List Loc} {cells slots : Nat} {Q : State → Prop}
variable {cc : ByteArray} {pc : Nat} {ls : Array Slot} {rest : List Value} {D : va_G} {cl : List vw_C} {A : Nat → Prop} {a : Nat} {tys : List (ClassId × FieldType)} {ws : va_W} {H0 : Heap} {α : Type} {F G : Option α} {r : α} {x y i : Int} {tgt : Nat} {off : Int}
theorem tr_iadd (hexec : p.tables.exec = Jvm.exec) (hb : c.code = cc) (hdg : decode cc pc = .ok (.iadd, 1)) (k : W p l e R s m args below meth c H locs cells slots Q (F0 m (pc + 1) ls (.int (tl_I (x + y)) :: rest))) : W p l e R s m args below meth c H locs cells slots Q (F0 m pc ls (.int (tl_I y) :: .int (tl_I x) :: rest)) := lv_iadd hexec hb hdg (by rw [tl_add]; exact k)
theorem tr_isub (hexec : p.tables.exec = Jvm.exec) (hb : c.code = cc) (hdg : decode cc pc = .ok (.isub, 1)) (k : W p l e R s m args below meth c H locs cells slots Q (F0 m (pc + 1) ls (.int (tl_I (x - y)) :: rest))) : W p l e R s m args below meth c H locs cells slots Q (F0 m pc ls (.int (tl_I y) :: .int (tl_I x) :: rest)) := lv_isub hexec hb hdg (by rw [tl_sub]; exact k)
theorem tr_imul (hexec : p.tables.exec = Jvm.exec) (hb : c.code = cc) (hdg : decode cc pc = .ok (.imul, 1)) (k : W p l e R s m args below meth c H locs cells slots Q (F0 m (pc + 1) ls (.int (tl_I (x * y)) :: rest))) : W p l e R s m args below meth c H locs cells slots Q (F0 m pc ls (.int (tl_I y) :: .int (tl_I x) :: rest)) := lv_imul hexec hb hdg (by rw [tl_mul]; exact k)
theorem tr_idiv (hexec : p.tables.exec = Jvm.exec) (hb : c.code = cc) (hf : tl_gd (0 ≤ x ∧ x ≤ 2147483647 ∧ 0 < y ∧ y ≤ 2147483647) F = some r) (hdg : decode cc pc = .ok (.idiv, 1)) (k : F = some r → W p l e R s m args below meth c H locs cells slots Q (F0 m (pc + 1) ls (.int (tl_I (x / y)) :: rest))) : W p l e R s m args below meth c H locs cells slots Q (F0 m pc ls (.int (tl_I y) :: .int (tl_I x) :: rest)) := by
  obtain ⟨⟨h1, h2, h3, h4⟩, hf⟩ := tl_gs hf
  exact lv_idiv hexec hb hdg (tl_ne0 h3 h4) (by rw [tl_div h1 h2 h3 h4]; exact k hf)
theorem tr_irem (hexec : p.tables.exec = Jvm.exec) (hb : c.code = cc) (hf : tl_gd (0 ≤ x ∧ x ≤ 2147483647 ∧ 0 < y ∧ y ≤ 2147483647) F = some r) (hdg : decode cc pc = .ok (.irem, 1)) (k : F = some r → W p l e R s m args below meth c H locs cells slots Q (F0 m (pc + 1) ls (.int (tl_I (x % y)) :: rest))) : W p l e R s m args below meth c H locs cells slots Q (F0 m pc ls (.int (tl_I y) :: .int (tl_I x) :: rest)) := by
  obtain ⟨⟨h1, h2, h3, h4⟩, hf⟩ := tl_gs hf
  exact lv_irem hexec hb hdg (tl_ne0 h3 h4) (by rw [tl_rem h1 h2 h3 h4]; exact k hf)
theorem tr_icmp_eq (hexec : p.tables.exec = Jvm.exec) (hb : c.code = cc) (hf : tl_gd (tl_R x ∧ tl_R y) (if x = y then F else G) = some r) (hdg : decode cc pc = .ok (.if_icmp .eq off, 3)) (ht : (pc : Int) + off = (tgt : Int)) (kt : x = y → F = some r → W p l e R s m args below meth c H locs cells slots Q (F0 m tgt ls rest)) (kf : ¬ x = y → G = some r → W p l e R s m args below meth c H locs cells slots Q (F0 m (pc + 3) ls rest)) : W p l e R s m args below meth c H locs cells slots Q (F0 m pc ls (.int (tl_I y) :: .int (tl_I x) :: rest)) := by
  obtain ⟨⟨h1, h2⟩, hf⟩ := tl_gs hf
  exact lv_icmp_eq hexec hb hdg ht (fun q => kt ((tl_eq h1 h2).mp q) (by rw [if_pos ((tl_eq h1 h2).mp q)] at hf; exact hf)) (fun q => kf (fun z => q ((tl_eq h1 h2).mpr z)) (by rw [if_neg (fun z => q ((tl_eq h1 h2).mpr z))] at hf; exact hf))
theorem tr_icmp_ne (hexec : p.tables.exec = Jvm.exec) (hb : c.code = cc) (hf : tl_gd (tl_R x ∧ tl_R y) (if x = y then F else G) = some r) (hdg : decode cc pc = .ok (.if_icmp .ne off, 3)) (ht : (pc : Int) + off = (tgt : Int)) (kt : x = y → F = some r → W p l e R s m args below meth c H locs cells slots Q (F0 m (pc + 3) ls rest)) (kf : ¬ x = y → G = some r → W p l e R s m args below meth c H locs cells slots Q (F0 m tgt ls rest)) : W p l e R s m args below meth c H locs cells slots Q (F0 m pc ls (.int (tl_I y) :: .int (tl_I x) :: rest)) := by
  obtain ⟨⟨h1, h2⟩, hf⟩ := tl_gs hf
  exact lv_icmp_ne hexec hb hdg ht (fun q => kf (fun z => q ((tl_eq h1 h2).mpr z)) (by rw [if_neg (fun z => q ((tl_eq h1 h2).mpr z))] at hf; exact hf)) (fun q => kt ((tl_eq h1 h2).mp q) (by rw [if_pos ((tl_eq h1 h2).mp q)] at hf; exact hf))
theorem tr_icmp_lt (hexec : p.tables.exec = Jvm.exec) (hb : c.code = cc) (hf : tl_gd (tl_R x ∧ tl_R y) (if x < y then F else G) = some r) (hdg : decode cc pc = .ok (.if_icmp .lt off, 3)) (ht : (pc : Int) + off = (tgt : Int)) (kt : x < y → F = some r → W p l e R s m args below meth c H locs cells slots Q (F0 m tgt ls rest)) (kf : ¬ x < y → G = some r → W p l e R s m args below meth c H locs cells slots Q (F0 m (pc + 3) ls rest)) : W p l e R s m args below meth c H locs cells slots Q (F0 m pc ls (.int (tl_I y) :: .int (tl_I x) :: rest)) := by
  obtain ⟨⟨h1, h2⟩, hf⟩ := tl_gs hf
  exact lv_icmp_lt hexec hb hdg ht (fun q => kt ((tl_lt h1 h2).mp q) (by rw [if_pos ((tl_lt h1 h2).mp q)] at hf; exact hf)) (fun q => kf (fun z => q ((tl_lt h1 h2).mpr z)) (by rw [if_neg (fun z => q ((tl_lt h1 h2).mpr z))] at hf; exact hf))
theorem tr_icmp_ge (hexec : p.tables.exec = Jvm.exec) (hb : c.code = cc) (hf : tl_gd (tl_R x ∧ tl_R y) (if x < y then F else G) = some r) (hdg : decode cc pc = .ok (.if_icmp .ge off, 3)) (ht : (pc : Int) + off = (tgt : Int)) (kt : x < y → F = some r → W p l e R s m args below meth c H locs cells slots Q (F0 m (pc + 3) ls rest)) (kf : ¬ x < y → G = some r → W p l e R s m args below meth c H locs cells slots Q (F0 m tgt ls rest)) : W p l e R s m args below meth c H locs cells slots Q (F0 m pc ls (.int (tl_I y) :: .int (tl_I x) :: rest)) := by
  obtain ⟨⟨h1, h2⟩, hf⟩ := tl_gs hf
  refine lv_icmp_ge hexec hb hdg ht (fun q => ?_) (fun q => ?_)
  · have q : ¬ x < y := Int.not_lt.mpr ((tl_le h2 h1).mp q)
    rw [if_neg q] at hf
    exact kf q hf
  · have q : x < y := Int.not_le.mp (fun z => q ((tl_le h2 h1).mpr z))
    rw [if_pos q] at hf
    exact kt q hf
theorem tr_icmp_gt (hexec : p.tables.exec = Jvm.exec) (hb : c.code = cc) (hf : tl_gd (tl_R x ∧ tl_R y) (if y < x then F else G) = some r) (hdg : decode cc pc = .ok (.if_icmp .gt off, 3)) (ht : (pc : Int) + off = (tgt : Int)) (kt : y < x → F = some r → W p l e R s m args below meth c H locs cells slots Q (F0 m tgt ls rest)) (kf : ¬ y < x → G = some r → W p l e R s m args below meth c H locs cells slots Q (F0 m (pc + 3) ls rest)) : W p l e R s m args below meth c H locs cells slots Q (F0 m pc ls (.int (tl_I y) :: .int (tl_I x) :: rest)) := by
  obtain ⟨⟨h1, h2⟩, hf⟩ := tl_gs hf
  exact lv_icmp_gt hexec hb hdg ht (fun q => kt ((tl_lt h2 h1).mp q) (by rw [if_pos ((tl_lt h2 h1).mp q)] at hf; exact hf)) (fun q => kf (fun z => q ((tl_lt h2 h1).mpr z)) (by rw [if_neg (fun z => q ((tl_lt h2 h1).mpr z))] at hf; exact hf))
theorem tr_icmp_le (hexec : p.tables.exec = Jvm.exec) (hb : c.code = cc) (hf : tl_gd (tl_R x ∧ tl_R y) (if y < x then F else G) = some r) (hdg : decode cc pc = .ok (.if_icmp .le off, 3)) (ht : (pc : Int) + off = (tgt : Int)) (kt : y < x → F = some r → W p l e R s m args below meth c H locs cells slots Q (F0 m (pc + 3) ls rest)) (kf : ¬ y < x → G = some r → W p l e R s m args below meth c H locs cells slots Q (F0 m tgt ls rest)) : W p l e R s m args below meth c H locs cells slots Q (F0 m pc ls (.int (tl_I y) :: .int (tl_I x) :: rest)) := by
  obtain ⟨⟨h1, h2⟩, hf⟩ := tl_gs hf
  refine lv_icmp_le hexec hb hdg ht (fun q => ?_) (fun q => ?_)
  · have q : ¬ y < x := Int.not_lt.mpr ((tl_le h1 h2).mp q)
    rw [if_neg q] at hf
    exact kf q hf
  · have q : y < x := Int.not_le.mp (fun z => q ((tl_le h1 h2).mpr z))
    rw [if_pos q] at hf
    exact kt q hf
theorem tr_if_eq (hexec : p.tables.exec = Jvm.exec) (hb : c.code = cc) (hf : tl_gd (tl_R x) (if x = 0 then F else G) = some r) (hdg : decode cc pc = .ok (.ifCond .eq off, 3)) (ht : (pc : Int) + off = (tgt : Int)) (kt : x = 0 → F = some r → W p l e R s m args below meth c H locs cells slots Q (F0 m tgt ls rest)) (kf : ¬ x = 0 → G = some r → W p l e R s m args below meth c H locs cells slots Q (F0 m (pc + 3) ls rest)) : W p l e R s m args below meth c H locs cells slots Q (F0 m pc ls (.int (tl_I x) :: rest)) := by
  obtain ⟨h1, hf⟩ := tl_gs hf
  exact lv_if_eq hexec hb hdg ht (fun q => kt ((tl_eq h1 tl_R0).mp q) (by rw [if_pos ((tl_eq h1 tl_R0).mp q)] at hf; exact hf)) (fun q => kf (fun z => q ((tl_eq h1 tl_R0).mpr z)) (by rw [if_neg (fun z => q ((tl_eq h1 tl_R0).mpr z))] at hf; exact hf))
theorem tr_if_ne (hexec : p.tables.exec = Jvm.exec) (hb : c.code = cc) (hf : tl_gd (tl_R x) (if x = 0 then F else G) = some r) (hdg : decode cc pc = .ok (.ifCond .ne off, 3)) (ht : (pc : Int) + off = (tgt : Int)) (kt : x = 0 → F = some r → W p l e R s m args below meth c H locs cells slots Q (F0 m (pc + 3) ls rest)) (kf : ¬ x = 0 → G = some r → W p l e R s m args below meth c H locs cells slots Q (F0 m tgt ls rest)) : W p l e R s m args below meth c H locs cells slots Q (F0 m pc ls (.int (tl_I x) :: rest)) := by
  obtain ⟨h1, hf⟩ := tl_gs hf
  exact lv_if_ne hexec hb hdg ht (fun q => kf (fun z => q ((tl_eq h1 tl_R0).mpr z)) (by rw [if_neg (fun z => q ((tl_eq h1 tl_R0).mpr z))] at hf; exact hf)) (fun q => kt ((tl_eq h1 tl_R0).mp q) (by rw [if_pos ((tl_eq h1 tl_R0).mp q)] at hf; exact hf))
theorem tr_if_lt (hexec : p.tables.exec = Jvm.exec) (hb : c.code = cc) (hf : tl_gd (tl_R x) (if x < 0 then F else G) = some r) (hdg : decode cc pc = .ok (.ifCond .lt off, 3)) (ht : (pc : Int) + off = (tgt : Int)) (kt : x < 0 → F = some r → W p l e R s m args below meth c H locs cells slots Q (F0 m tgt ls rest)) (kf : ¬ x < 0 → G = some r → W p l e R s m args below meth c H locs cells slots Q (F0 m (pc + 3) ls rest)) : W p l e R s m args below meth c H locs cells slots Q (F0 m pc ls (.int (tl_I x) :: rest)) := by
  obtain ⟨h1, hf⟩ := tl_gs hf
  exact lv_if_lt hexec hb hdg ht (fun q => kt ((tl_lt h1 tl_R0).mp q) (by rw [if_pos ((tl_lt h1 tl_R0).mp q)] at hf; exact hf)) (fun q => kf (fun z => q ((tl_lt h1 tl_R0).mpr z)) (by rw [if_neg (fun z => q ((tl_lt h1 tl_R0).mpr z))] at hf; exact hf))
theorem tr_if_ge (hexec : p.tables.exec = Jvm.exec) (hb : c.code = cc) (hf : tl_gd (tl_R x) (if x < 0 then F else G) = some r) (hdg : decode cc pc = .ok (.ifCond .ge off, 3)) (ht : (pc : Int) + off = (tgt : Int)) (kt : x < 0 → F = some r → W p l e R s m args below meth c H locs cells slots Q (F0 m (pc + 3) ls rest)) (kf : ¬ x < 0 → G = some r → W p l e R s m args below meth c H locs cells slots Q (F0 m tgt ls rest)) : W p l e R s m args below meth c H locs cells slots Q (F0 m pc ls (.int (tl_I x) :: rest)) := by
  obtain ⟨h1, hf⟩ := tl_gs hf
  refine lv_if_ge hexec hb hdg ht (fun q => ?_) (fun q => ?_)
  · have q : ¬ x < 0 := Int.not_lt.mpr ((tl_le tl_R0 h1).mp q)
    rw [if_neg q] at hf
    exact kf q hf
  · have q : x < 0 := Int.not_le.mp (fun z => q ((tl_le tl_R0 h1).mpr z))
    rw [if_pos q] at hf
    exact kt q hf
theorem tr_if_gt (hexec : p.tables.exec = Jvm.exec) (hb : c.code = cc) (hf : tl_gd (tl_R x) (if 0 < x then F else G) = some r) (hdg : decode cc pc = .ok (.ifCond .gt off, 3)) (ht : (pc : Int) + off = (tgt : Int)) (kt : 0 < x → F = some r → W p l e R s m args below meth c H locs cells slots Q (F0 m tgt ls rest)) (kf : ¬ 0 < x → G = some r → W p l e R s m args below meth c H locs cells slots Q (F0 m (pc + 3) ls rest)) : W p l e R s m args below meth c H locs cells slots Q (F0 m pc ls (.int (tl_I x) :: rest)) := by
  obtain ⟨h1, hf⟩ := tl_gs hf
  exact lv_if_gt hexec hb hdg ht (fun q => kt ((tl_lt tl_R0 h1).mp q) (by rw [if_pos ((tl_lt tl_R0 h1).mp q)] at hf; exact hf)) (fun q => kf (fun z => q ((tl_lt tl_R0 h1).mpr z)) (by rw [if_neg (fun z => q ((tl_lt tl_R0 h1).mpr z))] at hf; exact hf))
theorem tr_if_le (hexec : p.tables.exec = Jvm.exec) (hb : c.code = cc) (hf : tl_gd (tl_R x) (if 0 < x then F else G) = some r) (hdg : decode cc pc = .ok (.ifCond .le off, 3)) (ht : (pc : Int) + off = (tgt : Int)) (kt : 0 < x → F = some r → W p l e R s m args below meth c H locs cells slots Q (F0 m (pc + 3) ls rest)) (kf : ¬ 0 < x → G = some r → W p l e R s m args below meth c H locs cells slots Q (F0 m tgt ls rest)) : W p l e R s m args below meth c H locs cells slots Q (F0 m pc ls (.int (tl_I x) :: rest)) := by
  obtain ⟨h1, hf⟩ := tl_gs hf
  refine lv_if_le hexec hb hdg ht (fun q => ?_) (fun q => ?_)
  · have q : ¬ 0 < x := Int.not_lt.mpr ((tl_le h1 tl_R0).mp q)
    rw [if_neg q] at hf
    exact kf q hf
  · have q : 0 < x := Int.not_le.mp (fun z => q ((tl_le h1 tl_R0).mpr z))
    rw [if_pos q] at hf
    exact kt q hf
theorem tr_tableIn (hexec : p.tables.exec = Jvm.exec) (hb : c.code = cc) {dflt lo hi : Int} {offs : Array Int} {len : Nat} {k : Int} (hdg : decode cc pc = .ok (.tableswitch dflt lo hi offs, len)) (h : x = k) (hR : tl_R k) (h1 : ¬ k < lo) (h2 : ¬ hi < k) (ho : offs[(k - lo).toNat]? = some off) (ht : (pc : Int) + off = (tgt : Int)) (kk : W p l e R s m args below meth c H locs cells slots Q (F0 m tgt ls rest)) : W p l e R s m args below meth c H locs cells slots Q (F0 m pc ls (.int (tl_I x) :: rest)) := by
  subst h
  exact lv_tableIn hexec hb hdg (by rw [tl_toInt hR]; exact h1) (by rw [tl_toInt hR]; exact h2) (by rw [tl_toInt hR]; exact ho) ht kk
theorem tr_tableOut (hexec : p.tables.exec = Jvm.exec) (hb : c.code = cc) {dflt lo hi : Int} {offs : Array Int} {len : Nat} (hdg : decode cc pc = .ok (.tableswitch dflt lo hi offs, len)) (hR : tl_R x) (h : x < lo ∨ hi < x) (ht : (pc : Int) + dflt = (tgt : Int)) (kk : W p l e R s m args below meth c H locs cells slots Q (F0 m tgt ls rest)) : W p l e R s m args below meth c H locs cells slots Q (F0 m pc ls (.int (tl_I x) :: rest)) :=
  lv_tableOut hexec hb hdg (by rw [tl_toInt hR]; exact h) ht kk
end TLA
