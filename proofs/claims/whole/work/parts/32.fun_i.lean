def fX4_init  : Option (Unit) :=
  some ()
def fX5_init  : Option (Unit) :=
  some ()
def fX6_init  : Option (Unit) :=
  some ()
def fX3_init  : Option (Unit) :=
  some ()
def fX1_init_L1  : Nat → Int → (Nat → Int) → Option (Nat → Int)
  | 0, _, _ => none
  | n + 1, x3, x4 => tl_gd (tl_R x3 ∧ tl_R (100 : Int)) (if x3 < (100 : Int) then tl_gd (tl_in x3 100) (fX1_init_L1 n (x3 + 1) (va_up x4 x3.toNat (-1 : Int))) else some x4)
def fX1_init  : Option (Nat → Int) :=
  (fX3_init).bind fun z1 => (fX3_init).bind fun z2 => (fX1_init_L1 tl_N (0 : Int) (fun _ => 0)).bind fun x4 => some x4
def fX8_init  : Option (Unit) :=
  (fX4_init).bind fun z1 => (fX4_init).bind fun z2 => some ()
def fX2_init  : Option (Unit) :=
  (fX4_init).bind fun z1 => (fX4_init).bind fun z2 => (fX4_init).bind fun z3 => some ()
def fX7_init  : Option (Unit) :=
  (fX4_init).bind fun z1 => some ()
def fX0_init  : Option (Unit) :=
  some ()
def fX3_takeFrom (v_lengths : Nat → Int) (v_words : Nat → Int64) (v_p1_lengths : Nat → Int) (v_p1_words : Nat → Int64) : Option ((Nat → Int) × (Nat → Int64)) :=
  some (va_cpy v_p1_lengths v_lengths 0 0 1000, va_cpy v_p1_words v_words 0 0 2000)
def fX1_takeFrom (v_this_objects : Int) (v_this_pairs : Int) (v_had_lengths : Nat → Int) (v_had_words : Nat → Int64) (v_has_lengths : Nat → Int) (v_has_words : Nat → Int64) (v_kinds : Nat → Int) (v_numbers : Nat → Int) (v_p1_objects : Int) (v_p1_pairs : Int) (v_p1_had_lengths : Nat → Int) (v_p1_had_words : Nat → Int64) (v_p1_has_lengths : Nat → Int) (v_p1_has_words : Nat → Int64) (v_p1_kinds : Nat → Int) (v_p1_numbers : Nat → Int) : Option ((Nat → Int) × (Nat → Int64) × (Nat → Int) × (Nat → Int64) × (Nat → Int) × (Nat → Int) × Int × Int) :=
  (fX3_takeFrom v_has_lengths v_has_words v_p1_has_lengths v_p1_has_words).bind fun z1 => (fX3_takeFrom v_had_lengths v_had_words v_p1_had_lengths v_p1_had_words).bind fun z2 => some (z2.1, z2.2, z1.1, z1.2, va_cpy v_p1_kinds v_kinds 0 0 100, va_cpy v_p1_numbers v_numbers 0 0 100, v_p1_objects, v_p1_pairs)
def fX8_howDeep_L2 (v_told_length : Int) (v_told_rules : Nat → Int) (v_p1_objects : Int) (v_p1_pairs : Int) (v_p1_had_lengths : Nat → Int) (v_p1_had_words : Nat → Int64) (x4 : Int) (x6 : Nat → Int) : Nat → Int → Int → (Nat → Int) → (Nat → Int) → Option (Int × (Nat → Int) × (Nat → Int))
  | 0, _, _, _, _ => none
  | n + 1, x11, x12, x13, x14 => (fX4_length x4).bind fun z15 => tl_gd (tl_R x11 ∧ tl_R z15) (if x11 < z15 then (fX1_had v_p1_objects v_p1_pairs).bind fun z16 => (fX4_get x4 x6 x11).bind fun z17 => (fX8_addOwning v_told_length v_told_rules v_p1_had_lengths v_p1_had_words x12 x13 x14 z17).bind fun z18 => fX8_howDeep_L2 v_told_length v_told_rules v_p1_objects v_p1_pairs v_p1_had_lengths v_p1_had_words x4 x6 n (x11 + 1) z18.2.2 z18.1 z18.2.1 else some (x12, x13, x14))
def fX8_howDeep_L1 (v_told_length : Int) (v_told_rules : Nat → Int) (v_p1_objects : Int) (v_p1_pairs : Int) (v_p1_had_lengths : Nat → Int) (v_p1_had_words : Nat → Int64) : Nat → Int → Int → (Nat → Int) → (Nat → Int) → Int → (Nat → Int) → (Nat → Int) → Option ((Int × (Nat → Int) × (Nat → Int) × Int × (Nat → Int) × (Nat → Int)) ⊕ (Int × (Nat → Int) × (Nat → Int) × (Nat → Int) × (Nat → Int) × Int × Int))
  | 0, _, _, _, _, _, _, _ => none
  | n + 1, x3, x4, x5, x6, x7, x8, x9 => tl_gd (tl_R x3 ∧ tl_R (100 : Int)) (if x3 < (100 : Int) then (fX4_clear x7 x8 x9).bind fun z10 => (fX8_howDeep_L2 v_told_length v_told_rules v_p1_objects v_p1_pairs v_p1_had_lengths v_p1_had_words x4 x6 tl_N (0 : Int) z10.2 z10.1 x9).bind fun z19 => match z19 with | (x12, x13, x14) => (fX4_length x12).bind fun z20 => tl_gd (tl_R z20) (if z20 = 0 then some (.inr (x3, x5, x6, x13, x14, x4, x12)) else fX8_howDeep_L1 v_told_length v_told_rules v_p1_objects v_p1_pairs v_p1_had_lengths v_p1_had_words n (x3 + 1) x12 x13 x14 x4 x5 x6) else some (.inl (x4, x5, x6, x7, x8, x9)))
def fX8_howDeep (v_reached_length : Int) (v_reached_inside : Nat → Int) (v_reached_list : Nat → Int) (v_spare_length : Int) (v_spare_inside : Nat → Int) (v_spare_list : Nat → Int) (v_told_length : Int) (v_told_rules : Nat → Int) (v_p1_objects : Int) (v_p1_pairs : Int) (v_p1_had_lengths : Nat → Int) (v_p1_had_words : Nat → Int64) (p2 : Int) : Option (Int × (Nat → Int) × (Nat → Int) × (Nat → Int) × (Nat → Int) × Int × Int) :=
  (fX4_clear v_reached_length v_reached_inside v_reached_list).bind fun z1 => (fX4_add z1.2 z1.1 v_reached_list p2).bind fun z2 => (fX8_howDeep_L1 v_told_length v_told_rules v_p1_objects v_p1_pairs v_p1_had_lengths v_p1_had_words tl_N (0 : Int) z2.2.2 z2.1 z2.2.1 v_spare_length v_spare_inside v_spare_list).bind fun o => match o with | .inl (x4, x5, x6, x7, x8, x9) => some ((100 : Int), x5, x6, x8, x9, x4, x7) | .inr r => some r
theorem tw_80 : (.initialized "java/lang/System" : Cond) ∈ tl_T := tl_tin 80 (by decide +kernel) rfl
theorem tw_87 : (.instanceMethod objectInit : Cond) ∈ tl_T := tl_tin 87 (by decide +kernel) rfl
theorem tw_88 : (.code objectInit ⟨#[0xb1]⟩ 1 none : Cond) ∈ tl_T := tl_tin 88 (by decide +kernel) rfl
theorem tw_94 : (.methodLink RX5 3 objectInit : Cond) ∈ tl_T := tl_tin 94 (by decide +kernel) rfl
theorem tw_111 : (.arrayClass .int : Cond) ∈ tl_T := tl_tin 111 (by decide +kernel) rfl
theorem tw_117 : (.methodLink RX6 3 objectInit : Cond) ∈ tl_T := tl_tin 117 (by decide +kernel) rfl
theorem tw_130 : (.methodLink RX8 3 objectInit : Cond) ∈ tl_T := tl_tin 130 (by decide +kernel) rfl
theorem tw_131 : (.classLink RX8 19 RX4 : Cond) ∈ tl_T := tl_tin 131 (by decide +kernel) rfl
theorem tw_132 : (.instantiable RX4 3 : Cond) ∈ tl_T := tl_tin 132 (by decide +kernel) rfl
theorem tw_133 : (.methodLink RX8 21 yX4_init : Cond) ∈ tl_T := tl_tin 133 (by decide +kernel) rfl
theorem tw_134 : (.instanceMethod yX4_init : Cond) ∈ tl_T := tl_tin 134 (by decide +kernel) rfl
theorem tw_135 : (.code yX4_init cX4_init 1 none : Cond) ∈ tl_T := tl_tin 135 (by decide +kernel) rfl
theorem tw_136 : (.methodLink RX4 3 objectInit : Cond) ∈ tl_T := tl_tin 136 (by decide +kernel) rfl
theorem tw_147 : (.arrayClass .boolean : Cond) ∈ tl_T := tl_tin 147 (by decide +kernel) rfl
theorem tw_166 : (.methodLink RX2 3 objectInit : Cond) ∈ tl_T := tl_tin 166 (by decide +kernel) rfl
theorem tw_167 : (.classLink RX2 19 RX4 : Cond) ∈ tl_T := tl_tin 167 (by decide +kernel) rfl
theorem tw_168 : (.methodLink RX2 21 yX4_init : Cond) ∈ tl_T := tl_tin 168 (by decide +kernel) rfl
theorem tw_190 : (.methodLink RX7 3 objectInit : Cond) ∈ tl_T := tl_tin 190 (by decide +kernel) rfl
theorem tw_191 : (.classLink RX7 19 RX4 : Cond) ∈ tl_T := tl_tin 191 (by decide +kernel) rfl
theorem tw_192 : (.methodLink RX7 21 yX4_init : Cond) ∈ tl_T := tl_tin 192 (by decide +kernel) rfl
theorem tw_211 : (.methodLink RX0 3 objectInit : Cond) ∈ tl_T := tl_tin 211 (by decide +kernel) rfl
theorem tw_234 : (.methodLink RX1 3 objectInit : Cond) ∈ tl_T := tl_tin 234 (by decide +kernel) rfl
theorem tw_235 : (.classLink RX1 18 RX3 : Cond) ∈ tl_T := tl_tin 235 (by decide +kernel) rfl
theorem tw_236 : (.instantiable RX3 2 : Cond) ∈ tl_T := tl_tin 236 (by decide +kernel) rfl
theorem tw_237 : (.methodLink RX1 20 yX3_init : Cond) ∈ tl_T := tl_tin 237 (by decide +kernel) rfl
theorem tw_238 : (.instanceMethod yX3_init : Cond) ∈ tl_T := tl_tin 238 (by decide +kernel) rfl
theorem tw_239 : (.code yX3_init cX3_init 1 none : Cond) ∈ tl_T := tl_tin 239 (by decide +kernel) rfl
theorem tw_240 : (.methodLink RX3 3 objectInit : Cond) ∈ tl_T := tl_tin 240 (by decide +kernel) rfl
theorem tw_248 : (.arrayClass .long : Cond) ∈ tl_T := tl_tin 248 (by decide +kernel) rfl
theorem tw_951 : (.methodLink RX1 67 arraycopyName : Cond) ∈ tl_T := tl_tin 951 (by decide +kernel) rfl
theorem tw_952 : (.static arraycopyName : Cond) ∈ tl_T := tl_tin 952 (by decide +kernel) rfl
theorem tw_953 : (.native arraycopyName : Cond) ∈ tl_T := tl_tin 953 (by decide +kernel) rfl
theorem tw_954 : (.methodLink RX1 73 yX3_takeFrom : Cond) ∈ tl_T := tl_tin 954 (by decide +kernel) rfl
theorem tw_955 : (.instanceMethod yX3_takeFrom : Cond) ∈ tl_T := tl_tin 955 (by decide +kernel) rfl
theorem tw_956 : (.selects RX3 yX3_takeFrom yX3_takeFrom : Cond) ∈ tl_T := tl_tin 956 (by decide +kernel) rfl
theorem tw_957 : (.code yX3_takeFrom cX3_takeFrom 2 none : Cond) ∈ tl_T := tl_tin 957 (by decide +kernel) rfl
theorem tw_958 : (.methodLink RX3 51 arraycopyName : Cond) ∈ tl_T := tl_tin 958 (by decide +kernel) rfl
theorem td_X3_takeFrom : yX3_takeFrom.cls = RX3 ∧ yX3_takeFrom.cls ≠ "java/lang/invoke/MethodHandle" ∧ yX3_takeFrom.cls ≠ "java/lang/invoke/VarHandle" ∧ (parseMethodDescriptor yX3_takeFrom.desc).map (fun d => d.parameters.length) = some 1 := by decide +kernel
theorem tg_X1_73 : GoodIn tl_T (wsV RX1 73 RX3 yX3_takeFrom (tl_w yX3_takeFrom cX3_takeFrom 2 none)) := tl_gV tw_954 tw_955 tw_956 tw_69 tw_957
