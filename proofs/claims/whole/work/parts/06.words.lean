/-- the words of the tables that a call may hand on: one list for every method -/
def tl_T : List Cond := lw_tbl.filter goodWord
def tl_w (y : MethodName) (cc : ByteArray) (maxL : Nat) (ret : Option FieldType) : List Cond := Cond.code y cc maxL ret :: tl_T
theorem tl_tin {w : Cond} (i : Nat) (h : lw_tbl[i]? = some w) (hg : goodWord w = true) : w ∈ tl_T := List.mem_filter.mpr ⟨List.mem_of_getElem? h, hg⟩
theorem tl_tgood {w : Cond} (h : w ∈ tl_T) : w ∈ tl_T ∧ ((w.onTables && w.keeps) = true ∨ ∃ ty, w = .arrayClass ty) := ⟨h, good_of_word (List.mem_filter.mp h).2⟩
theorem tl_wgood {y : MethodName} {cc : ByteArray} {maxL : Nat} {ret : Option FieldType} (h : Cond.code y cc maxL ret ∈ tl_T) : GoodIn tl_T (tl_w y cc maxL ret) := fun w hw => (List.mem_cons.mp hw).elim (fun e => by rw [e]; exact tl_tgood h) tl_tgood
theorem tl_gV {own C : String} {idx : Nat} {y : MethodName} {cc : ByteArray} {maxL : Nat} {ret : Option FieldType} (h1 : Cond.methodLink own idx y ∈ tl_T) (h2 : Cond.instanceMethod y ∈ tl_T) (h3 : Cond.selects C y y ∈ tl_T) (h4 : Cond.initialized C ∈ tl_T) (h5 : Cond.code y cc maxL ret ∈ tl_T) : GoodIn tl_T (wsV own idx C y (tl_w y cc maxL ret)) := by
  intro w hw
  unfold wsV at hw
  rcases List.mem_append.mp hw with h | h
  · simp only [List.mem_cons, List.not_mem_nil, or_false] at h
    rcases h with rfl | rfl | rfl | rfl
    · exact tl_tgood h1
    · exact tl_tgood h2
    · exact tl_tgood h3
    · exact tl_tgood h4
  · exact tl_wgood h5 w h
theorem tl_gS {own : String} {idx : Nat} {y : MethodName} {cc : ByteArray} {maxL : Nat} {ret : Option FieldType} (h1 : Cond.methodLink own idx y ∈ tl_T) (h2 : Cond.static y ∈ tl_T) (h4 : Cond.initialized y.cls ∈ tl_T) (h5 : Cond.code y cc maxL ret ∈ tl_T) : GoodIn tl_T (va_wsS own idx y (tl_w y cc maxL ret)) := by
  intro w hw
  unfold va_wsS at hw
  rcases List.mem_append.mp hw with h | h
  · simp only [List.mem_cons, List.not_mem_nil, or_false] at h
    rcases h with rfl | rfl | rfl
    · exact tl_tgood h1
    · exact tl_tgood h2
    · exact tl_tgood h4
  · exact tl_wgood h5 w h
/-- a contract out of a walk of its body -/
theorem tl_ofW {l : Launch} {D : va_G} {tys : List (ClassId × FieldType)} {y : MethodName} {rm : Room} {As : List Value} {w : va_W} {mc ms : Nat} {post : Option Value → va_W → Prop} {cc : ByteArray} {maxL : Nat} {ret : Option FieldType}
    (hy : plainName y.cls = true) (hlen : (lg_sl As).length ≤ maxL)
    (body : ∀ (p : Program) (e : Env) (s : State) (m : MethodId) (below : List Frame) (meth : Method) (c : Code), p.tables.exec = Jvm.exec → c.code = cc → meth.sig.returnType = ret → c.maxLocals = maxL → (∀ w ∈ tl_T, w.before As.toArray s = true) → s.vm.findClass y.cls = some m.cls → meth.locks = false → meth.name = y.name →
      ∀ A : Nat → Prop, A = va_A w s.heap.size → (∀ q, s.heap.size ≤ q → A q) → va_P D vwCl w s.heap → va_K D vwCl tys s → va_D A w → va_S A s.heap s.heap [] → ∀ ls : Array Slot, lv_has ls maxL (lv_args 0 As) →
      W p l e rm s m As.toArray below meth c s.heap [] 0 0 (MQ below (tl_Q D tys w s.heap.size post) As.toArray s mc ms A) (F0 m 0 ls [])) : tl_MC l D tys y (tl_w y cc maxL ret) rm As w mc ms post := by
  intro sz
  refine Met.ofW (cc := cc) (maxL := maxL) (ret := ret) hy rfl ?_
  intro p e s m args below meth c s₁ B hml hv
  obtain ⟨rfl, hsz, hP, hK, hD0⟩ := hv
  subst hsz
  have hl := lv_entry As (n := maxL) hlen
  rw [lg_entry_eq]
  have hts : ∀ w ∈ tl_w y cc maxL ret, w.before As.toArray s = true := atoms_spec (ws := tl_w y cc maxL ret) B.pre
  exact body p e s m below meth c B.exec B.bytes B.returns hml (fun w h => hts w (List.mem_cons_of_mem _ h)) (findClass_of_methodNamed B.named) B.notSynchronized (name_of_methodNamed B.named B.method).1 _ rfl (fun q h => Or.inr h) hP hK (hD0.self (sz := s.heap.size)) va_S.rf _ hl

theorem tw_1 : (.selects RX1 yX1_slotBearing yX1_slotBearing : Cond) ∈ tl_T := tl_tin 1 (by decide +kernel) rfl
theorem tw_5 : (.selects RX3 yX3_read yX3_read : Cond) ∈ tl_T := tl_tin 5 (by decide +kernel) rfl
theorem tw_7 : (.selects RX3 yX3_write yX3_write : Cond) ∈ tl_T := tl_tin 7 (by decide +kernel) rfl
theorem tw_8 : (.selects RX8 yX8_noteSteps yX8_noteSteps : Cond) ∈ tl_T := tl_tin 8 (by decide +kernel) rfl
theorem tw_9 : (.selects RX8 yX8_leastStep yX8_leastStep : Cond) ∈ tl_T := tl_tin 9 (by decide +kernel) rfl
theorem tw_11 : (.selects RX2 yX2_addThoseWithoutOwner yX2_addThoseWithoutOwner : Cond) ∈ tl_T := tl_tin 11 (by decide +kernel) rfl
theorem tw_12 : (.selects RX2 yX2_areOwnersGone yX2_areOwnersGone : Cond) ∈ tl_T := tl_tin 12 (by decide +kernel) rfl
theorem tw_13 : (.selects RX2 yX2_isBefore yX2_isBefore : Cond) ∈ tl_T := tl_tin 13 (by decide +kernel) rfl
theorem tw_14 : (.selects RX1 yX1_separateAll yX1_separateAll : Cond) ∈ tl_T := tl_tin 14 (by decide +kernel) rfl
theorem tw_15 : (.selects RX7 yX7_leastMissing yX7_leastMissing : Cond) ∈ tl_T := tl_tin 15 (by decide +kernel) rfl
theorem tw_16 : (.selects RX7 yX7_keepsOutsiders yX7_keepsOutsiders : Cond) ∈ tl_T := tl_tin 16 (by decide +kernel) rfl
theorem tw_17 : (.selects RX7 yX7_howManyOldHave yX7_howManyOldHave : Cond) ∈ tl_T := tl_tin 17 (by decide +kernel) rfl
theorem tw_18 : (.selects RX7 yX7_copyHas yX7_copyHas : Cond) ∈ tl_T := tl_tin 18 (by decide +kernel) rfl
theorem tw_19 : (.selects RX7 yX7_standIn yX7_standIn : Cond) ∈ tl_T := tl_tin 19 (by decide +kernel) rfl
theorem tw_20 : (.selects RX7 yX7_copyHad yX7_copyHad : Cond) ∈ tl_T := tl_tin 20 (by decide +kernel) rfl
theorem tw_21 : (.selects RX0 yX0_demand yX0_demand : Cond) ∈ tl_T := tl_tin 21 (by decide +kernel) rfl
theorem tw_22 : (.selects RX0 yX0_matchPair yX0_matchPair : Cond) ∈ tl_T := tl_tin 22 (by decide +kernel) rfl
theorem tw_23 : (.selects RX0 yX0_matchRows yX0_matchRows : Cond) ∈ tl_T := tl_tin 23 (by decide +kernel) rfl
theorem tw_61 : (.initialized RX5 : Cond) ∈ tl_T := tl_tin 61 (by decide +kernel) rfl
theorem tw_62 : (.initialized RX6 : Cond) ∈ tl_T := tl_tin 62 (by decide +kernel) rfl
theorem tw_63 : (.initialized RX8 : Cond) ∈ tl_T := tl_tin 63 (by decide +kernel) rfl
theorem tw_64 : (.initialized RX4 : Cond) ∈ tl_T := tl_tin 64 (by decide +kernel) rfl
theorem tw_65 : (.initialized RX2 : Cond) ∈ tl_T := tl_tin 65 (by decide +kernel) rfl
theorem tw_66 : (.initialized RX7 : Cond) ∈ tl_T := tl_tin 66 (by decide +kernel) rfl
theorem tw_67 : (.initialized RX0 : Cond) ∈ tl_T := tl_tin 67 (by decide +kernel) rfl
theorem tw_68 : (.initialized RX1 : Cond) ∈ tl_T := tl_tin 68 (by decide +kernel) rfl
theorem tw_69 : (.initialized RX3 : Cond) ∈ tl_T := tl_tin 69 (by decide +kernel) rfl
theorem tw_95 : (.fieldLink RX5 9 "TwinLinks$Told" "from" "[I" : Cond) ∈ tl_T := tl_tin 95 (by decide +kernel) rfl
theorem tw_96 : (.fieldLink RX5 15 "TwinLinks$Told" "to" "[I" : Cond) ∈ tl_T := tl_tin 96 (by decide +kernel) rfl
theorem tw_97 : (.fieldLink RX5 18 "TwinLinks$Told" "forms" "[I" : Cond) ∈ tl_T := tl_tin 97 (by decide +kernel) rfl
theorem tw_98 : (.fieldLink RX5 21 "TwinLinks$Told" "rules" "[I" : Cond) ∈ tl_T := tl_tin 98 (by decide +kernel) rfl
theorem tw_99 : (.fieldLink RX5 24 "TwinLinks$Told" "length" "I" : Cond) ∈ tl_T := tl_tin 99 (by decide +kernel) rfl
theorem tw_118 : (.fieldLink RX6 9 "TwinLinks$Trail" "numbers" "[I" : Cond) ∈ tl_T := tl_tin 118 (by decide +kernel) rfl
theorem tw_119 : (.fieldLink RX6 15 "TwinLinks$Trail" "length" "I" : Cond) ∈ tl_T := tl_tin 119 (by decide +kernel) rfl
theorem tw_137 : (.fieldLink RX4 9 "TwinLinks$Slots" "inside" "[Z" : Cond) ∈ tl_T := tl_tin 137 (by decide +kernel) rfl
theorem tw_138 : (.fieldLink RX4 15 "TwinLinks$Slots" "list" "[I" : Cond) ∈ tl_T := tl_tin 138 (by decide +kernel) rfl
theorem tw_139 : (.fieldLink RX4 19 "TwinLinks$Slots" "length" "I" : Cond) ∈ tl_T := tl_tin 139 (by decide +kernel) rfl
theorem tw_148 : (.fieldLink RX8 9 "TwinLinks$Walk" "told" "LTwinLinks$Told;" : Cond) ∈ tl_T := tl_tin 148 (by decide +kernel) rfl
theorem tw_149 : (.fieldLink RX8 15 "TwinLinks$Walk" "steps" "[I" : Cond) ∈ tl_T := tl_tin 149 (by decide +kernel) rfl
theorem tw_150 : (.fieldLink RX8 22 "TwinLinks$Walk" "reached" "LTwinLinks$Slots;" : Cond) ∈ tl_T := tl_tin 150 (by decide +kernel) rfl
theorem tw_151 : (.fieldLink RX8 26 "TwinLinks$Walk" "spare" "LTwinLinks$Slots;" : Cond) ∈ tl_T := tl_tin 151 (by decide +kernel) rfl
theorem tw_169 : (.fieldLink RX2 9 "TwinLinks$Leaving" "told" "LTwinLinks$Told;" : Cond) ∈ tl_T := tl_tin 169 (by decide +kernel) rfl
theorem tw_170 : (.fieldLink RX2 15 "TwinLinks$Leaving" "walk" "LTwinLinks$Walk;" : Cond) ∈ tl_T := tl_tin 170 (by decide +kernel) rfl
theorem tw_171 : (.fieldLink RX2 22 "TwinLinks$Leaving" "gone" "LTwinLinks$Slots;" : Cond) ∈ tl_T := tl_tin 171 (by decide +kernel) rfl
theorem tw_172 : (.fieldLink RX2 26 "TwinLinks$Leaving" "parts" "LTwinLinks$Slots;" : Cond) ∈ tl_T := tl_tin 172 (by decide +kernel) rfl
theorem tw_173 : (.fieldLink RX2 29 "TwinLinks$Leaving" "owners" "LTwinLinks$Slots;" : Cond) ∈ tl_T := tl_tin 173 (by decide +kernel) rfl
theorem tw_193 : (.fieldLink RX7 9 "TwinLinks$Twins" "told" "LTwinLinks$Told;" : Cond) ∈ tl_T := tl_tin 193 (by decide +kernel) rfl
theorem tw_194 : (.fieldLink RX7 15 "TwinLinks$Twins" "walk" "LTwinLinks$Walk;" : Cond) ∈ tl_T := tl_tin 194 (by decide +kernel) rfl
theorem tw_195 : (.fieldLink RX7 22 "TwinLinks$Twins" "old" "LTwinLinks$Slots;" : Cond) ∈ tl_T := tl_tin 195 (by decide +kernel) rfl
theorem tw_196 : (.fieldLink RX7 26 "TwinLinks$Twins" "twins" "[I" : Cond) ∈ tl_T := tl_tin 196 (by decide +kernel) rfl
theorem tw_212 : (.fieldLink RX0 9 "TwinLinks$Groups" "told" "LTwinLinks$Told;" : Cond) ∈ tl_T := tl_tin 212 (by decide +kernel) rfl
theorem tw_213 : (.fieldLink RX0 15 "TwinLinks$Groups" "leaders" "[I" : Cond) ∈ tl_T := tl_tin 213 (by decide +kernel) rfl
theorem tw_214 : (.fieldLink RX0 19 "TwinLinks$Groups" "firsts" "[I" : Cond) ∈ tl_T := tl_tin 214 (by decide +kernel) rfl
theorem tw_215 : (.fieldLink RX0 22 "TwinLinks$Groups" "seconds" "[I" : Cond) ∈ tl_T := tl_tin 215 (by decide +kernel) rfl
theorem tw_216 : (.fieldLink RX0 25 "TwinLinks$Groups" "length" "I" : Cond) ∈ tl_T := tl_tin 216 (by decide +kernel) rfl
theorem tw_241 : (.fieldLink RX3 11 "TwinLinks$Rows" "words" "[J" : Cond) ∈ tl_T := tl_tin 241 (by decide +kernel) rfl
theorem tw_242 : (.fieldLink RX3 15 "TwinLinks$Rows" "lengths" "[I" : Cond) ∈ tl_T := tl_tin 242 (by decide +kernel) rfl
theorem tw_249 : (.fieldLink RX1 9 "TwinLinks$House" "numbers" "[I" : Cond) ∈ tl_T := tl_tin 249 (by decide +kernel) rfl
theorem tw_250 : (.fieldLink RX1 15 "TwinLinks$House" "kinds" "[I" : Cond) ∈ tl_T := tl_tin 250 (by decide +kernel) rfl
theorem tw_251 : (.fieldLink RX1 21 "TwinLinks$House" "has" "LTwinLinks$Rows;" : Cond) ∈ tl_T := tl_tin 251 (by decide +kernel) rfl
theorem tw_252 : (.fieldLink RX1 25 "TwinLinks$House" "had" "LTwinLinks$Rows;" : Cond) ∈ tl_T := tl_tin 252 (by decide +kernel) rfl
theorem tw_253 : (.fieldLink RX1 28 "TwinLinks$House" "objects" "I" : Cond) ∈ tl_T := tl_tin 253 (by decide +kernel) rfl
theorem tw_254 : (.fieldLink RX1 32 "TwinLinks$House" "pairs" "I" : Cond) ∈ tl_T := tl_tin 254 (by decide +kernel) rfl
theorem tw_383 : (.instanceMethod yX5_howMany : Cond) ∈ tl_T := tl_tin 383 (by decide +kernel) rfl
theorem tw_384 : (.selects RX5 yX5_howMany yX5_howMany : Cond) ∈ tl_T := tl_tin 384 (by decide +kernel) rfl
theorem tw_385 : (.code yX5_howMany cX5_howMany 1 (some .int) : Cond) ∈ tl_T := tl_tin 385 (by decide +kernel) rfl
theorem tw_414 : (.instanceMethod yX1_objects : Cond) ∈ tl_T := tl_tin 414 (by decide +kernel) rfl
theorem tw_415 : (.selects RX1 yX1_objects yX1_objects : Cond) ∈ tl_T := tl_tin 415 (by decide +kernel) rfl
theorem tw_416 : (.code yX1_objects cX1_objects 1 (some .int) : Cond) ∈ tl_T := tl_tin 416 (by decide +kernel) rfl
theorem tw_419 : (.instanceMethod yX1_admit : Cond) ∈ tl_T := tl_tin 419 (by decide +kernel) rfl
theorem tw_420 : (.selects RX1 yX1_admit yX1_admit : Cond) ∈ tl_T := tl_tin 420 (by decide +kernel) rfl
theorem tw_421 : (.code yX1_admit cX1_admit 4 (some .int) : Cond) ∈ tl_T := tl_tin 421 (by decide +kernel) rfl
theorem tw_422 : (.methodLink RX1 35 yX1_slotBearing : Cond) ∈ tl_T := tl_tin 422 (by decide +kernel) rfl
theorem tw_424 : (.instanceMethod yX1_slotBearing : Cond) ∈ tl_T := tl_tin 424 (by decide +kernel) rfl
theorem tw_425 : (.code yX1_slotBearing cX1_slotBearing 3 (some .int) : Cond) ∈ tl_T := tl_tin 425 (by decide +kernel) rfl
theorem tw_442 : (.instanceMethod yX5_knows : Cond) ∈ tl_T := tl_tin 442 (by decide +kernel) rfl
theorem tw_443 : (.selects RX5 yX5_knows yX5_knows : Cond) ∈ tl_T := tl_tin 443 (by decide +kernel) rfl
theorem tw_444 : (.code yX5_knows cX5_knows 2 (some .boolean) : Cond) ∈ tl_T := tl_tin 444 (by decide +kernel) rfl
theorem tw_475 : (.methodLink RX5 28 yX5_knows : Cond) ∈ tl_T := tl_tin 475 (by decide +kernel) rfl
theorem tw_481 : (.instanceMethod yX1_kindOf : Cond) ∈ tl_T := tl_tin 481 (by decide +kernel) rfl
theorem tw_482 : (.selects RX1 yX1_kindOf yX1_kindOf : Cond) ∈ tl_T := tl_tin 482 (by decide +kernel) rfl
theorem tw_483 : (.code yX1_kindOf cX1_kindOf 2 (some .int) : Cond) ∈ tl_T := tl_tin 483 (by decide +kernel) rfl
theorem tw_484 : (.methodLink RX1 39 yX4_isSlot : Cond) ∈ tl_T := tl_tin 484 (by decide +kernel) rfl
theorem tw_485 : (.static yX4_isSlot : Cond) ∈ tl_T := tl_tin 485 (by decide +kernel) rfl
theorem tw_486 : (.code yX4_isSlot cX4_isSlot 1 (some .boolean) : Cond) ∈ tl_T := tl_tin 486 (by decide +kernel) rfl
theorem tw_511 : (.methodLink RX1 52 yX3_holds : Cond) ∈ tl_T := tl_tin 511 (by decide +kernel) rfl
theorem tw_512 : (.instanceMethod yX3_holds : Cond) ∈ tl_T := tl_tin 512 (by decide +kernel) rfl
theorem tw_513 : (.selects RX3 yX3_holds yX3_holds : Cond) ∈ tl_T := tl_tin 513 (by decide +kernel) rfl
theorem tw_514 : (.code yX3_holds cX3_holds 6 (some .boolean) : Cond) ∈ tl_T := tl_tin 514 (by decide +kernel) rfl
theorem tw_515 : (.methodLink RX3 27 yX3_lengthOf : Cond) ∈ tl_T := tl_tin 515 (by decide +kernel) rfl
theorem tw_516 : (.instanceMethod yX3_lengthOf : Cond) ∈ tl_T := tl_tin 516 (by decide +kernel) rfl
theorem tw_517 : (.selects RX3 yX3_lengthOf yX3_lengthOf : Cond) ∈ tl_T := tl_tin 517 (by decide +kernel) rfl
theorem tw_518 : (.code yX3_lengthOf cX3_lengthOf 3 (some .int) : Cond) ∈ tl_T := tl_tin 518 (by decide +kernel) rfl
theorem tw_519 : (.methodLink RX3 19 yX3_isRow : Cond) ∈ tl_T := tl_tin 519 (by decide +kernel) rfl
theorem tw_520 : (.static yX3_isRow : Cond) ∈ tl_T := tl_tin 520 (by decide +kernel) rfl
theorem tw_521 : (.code yX3_isRow cX3_isRow 2 (some .boolean) : Cond) ∈ tl_T := tl_tin 521 (by decide +kernel) rfl
theorem tw_522 : (.methodLink RX3 23 yX3_rowOf : Cond) ∈ tl_T := tl_tin 522 (by decide +kernel) rfl
theorem tw_523 : (.static yX3_rowOf : Cond) ∈ tl_T := tl_tin 523 (by decide +kernel) rfl
theorem tw_524 : (.code yX3_rowOf cX3_rowOf 2 (some .int) : Cond) ∈ tl_T := tl_tin 524 (by decide +kernel) rfl
theorem tw_525 : (.methodLink RX3 30 yX3_read : Cond) ∈ tl_T := tl_tin 525 (by decide +kernel) rfl
theorem tw_527 : (.instanceMethod yX3_read : Cond) ∈ tl_T := tl_tin 527 (by decide +kernel) rfl
theorem tw_528 : (.code yX3_read cX3_read 6 (some .int) : Cond) ∈ tl_T := tl_tin 528 (by decide +kernel) rfl
theorem tw_529 : (.constantLong RX3 57 (255) : Cond) ∈ tl_T := tl_tin 529 (by decide +kernel) rfl
theorem tw_535 : (.instanceMethod yX1_has : Cond) ∈ tl_T := tl_tin 535 (by decide +kernel) rfl
theorem tw_536 : (.selects RX1 yX1_has yX1_has : Cond) ∈ tl_T := tl_tin 536 (by decide +kernel) rfl
theorem tw_537 : (.code yX1_has cX1_has 1 (some (.object "TwinLinks$Rows")) : Cond) ∈ tl_T := tl_tin 537 (by decide +kernel) rfl
theorem tw_556 : (.instanceMethod yX3_remove : Cond) ∈ tl_T := tl_tin 556 (by decide +kernel) rfl
theorem tw_557 : (.selects RX3 yX3_remove yX3_remove : Cond) ∈ tl_T := tl_tin 557 (by decide +kernel) rfl
theorem tw_558 : (.code yX3_remove cX3_remove 9 (some .boolean) : Cond) ∈ tl_T := tl_tin 558 (by decide +kernel) rfl
theorem tw_559 : (.methodLink RX3 43 yX3_write : Cond) ∈ tl_T := tl_tin 559 (by decide +kernel) rfl
theorem tw_561 : (.instanceMethod yX3_write : Cond) ∈ tl_T := tl_tin 561 (by decide +kernel) rfl
theorem tw_562 : (.code yX3_write cX3_write 8 none : Cond) ∈ tl_T := tl_tin 562 (by decide +kernel) rfl
theorem tw_563 : (.constantLong RX3 59 (-1) : Cond) ∈ tl_T := tl_tin 563 (by decide +kernel) rfl
theorem tw_565 : (.instanceMethod yX3_insert : Cond) ∈ tl_T := tl_tin 565 (by decide +kernel) rfl
theorem tw_566 : (.selects RX3 yX3_insert yX3_insert : Cond) ∈ tl_T := tl_tin 566 (by decide +kernel) rfl
theorem tw_567 : (.code yX3_insert cX3_insert 8 none : Cond) ∈ tl_T := tl_tin 567 (by decide +kernel) rfl
theorem tw_568 : (.methodLink RX3 39 yX4_isSlot : Cond) ∈ tl_T := tl_tin 568 (by decide +kernel) rfl
theorem tw_570 : (.instanceMethod yX5_hasRule : Cond) ∈ tl_T := tl_tin 570 (by decide +kernel) rfl
theorem tw_571 : (.selects RX5 yX5_hasRule yX5_hasRule : Cond) ∈ tl_T := tl_tin 571 (by decide +kernel) rfl
theorem tw_572 : (.code yX5_hasRule cX5_hasRule 3 (some .boolean) : Cond) ∈ tl_T := tl_tin 572 (by decide +kernel) rfl
theorem tw_577 : (.methodLink RX8 61 yX1_had : Cond) ∈ tl_T := tl_tin 577 (by decide +kernel) rfl
theorem tw_578 : (.instanceMethod yX1_had : Cond) ∈ tl_T := tl_tin 578 (by decide +kernel) rfl
theorem tw_579 : (.selects RX1 yX1_had yX1_had : Cond) ∈ tl_T := tl_tin 579 (by decide +kernel) rfl
theorem tw_580 : (.code yX1_had cX1_had 1 (some (.object "TwinLinks$Rows")) : Cond) ∈ tl_T := tl_tin 580 (by decide +kernel) rfl
theorem tw_581 : (.methodLink RX8 64 yX8_spread : Cond) ∈ tl_T := tl_tin 581 (by decide +kernel) rfl
theorem tw_582 : (.instanceMethod yX8_spread : Cond) ∈ tl_T := tl_tin 582 (by decide +kernel) rfl
theorem tw_583 : (.selects RX8 yX8_spread yX8_spread : Cond) ∈ tl_T := tl_tin 583 (by decide +kernel) rfl
theorem tw_584 : (.code yX8_spread cX8_spread 6 (some (.object "TwinLinks$Slots")) : Cond) ∈ tl_T := tl_tin 584 (by decide +kernel) rfl
theorem tw_585 : (.methodLink RX8 45 yX4_clear : Cond) ∈ tl_T := tl_tin 585 (by decide +kernel) rfl
theorem tw_586 : (.instanceMethod yX4_clear : Cond) ∈ tl_T := tl_tin 586 (by decide +kernel) rfl
theorem tw_587 : (.selects RX4 yX4_clear yX4_clear : Cond) ∈ tl_T := tl_tin 587 (by decide +kernel) rfl
theorem tw_588 : (.code yX4_clear cX4_clear 3 none : Cond) ∈ tl_T := tl_tin 588 (by decide +kernel) rfl
theorem tw_589 : (.methodLink RX4 23 yX4_isSlot : Cond) ∈ tl_T := tl_tin 589 (by decide +kernel) rfl
theorem tw_590 : (.methodLink RX8 68 yX4_add : Cond) ∈ tl_T := tl_tin 590 (by decide +kernel) rfl
theorem tw_591 : (.instanceMethod yX4_add : Cond) ∈ tl_T := tl_tin 591 (by decide +kernel) rfl
theorem tw_592 : (.selects RX4 yX4_add yX4_add : Cond) ∈ tl_T := tl_tin 592 (by decide +kernel) rfl
theorem tw_593 : (.code yX4_add cX4_add 2 none : Cond) ∈ tl_T := tl_tin 593 (by decide +kernel) rfl
theorem tw_594 : (.methodLink RX8 76 yX8_noteSteps : Cond) ∈ tl_T := tl_tin 594 (by decide +kernel) rfl
theorem tw_596 : (.instanceMethod yX8_noteSteps : Cond) ∈ tl_T := tl_tin 596 (by decide +kernel) rfl
theorem tw_597 : (.code yX8_noteSteps cX8_noteSteps 5 none : Cond) ∈ tl_T := tl_tin 597 (by decide +kernel) rfl
theorem tw_598 : (.methodLink RX8 52 yX4_length : Cond) ∈ tl_T := tl_tin 598 (by decide +kernel) rfl
theorem tw_599 : (.instanceMethod yX4_length : Cond) ∈ tl_T := tl_tin 599 (by decide +kernel) rfl
theorem tw_600 : (.selects RX4 yX4_length yX4_length : Cond) ∈ tl_T := tl_tin 600 (by decide +kernel) rfl
theorem tw_601 : (.code yX4_length cX4_length 1 (some .int) : Cond) ∈ tl_T := tl_tin 601 (by decide +kernel) rfl
theorem tw_602 : (.methodLink RX8 72 yX4_get : Cond) ∈ tl_T := tl_tin 602 (by decide +kernel) rfl
theorem tw_603 : (.instanceMethod yX4_get : Cond) ∈ tl_T := tl_tin 603 (by decide +kernel) rfl
theorem tw_604 : (.selects RX4 yX4_get yX4_get : Cond) ∈ tl_T := tl_tin 604 (by decide +kernel) rfl
theorem tw_605 : (.code yX4_get cX4_get 2 (some .int) : Cond) ∈ tl_T := tl_tin 605 (by decide +kernel) rfl
theorem tw_606 : (.methodLink RX8 98 yX4_isSlot : Cond) ∈ tl_T := tl_tin 606 (by decide +kernel) rfl
theorem tw_607 : (.methodLink RX8 48 yX8_addOwning : Cond) ∈ tl_T := tl_tin 607 (by decide +kernel) rfl
theorem tw_608 : (.instanceMethod yX8_addOwning : Cond) ∈ tl_T := tl_tin 608 (by decide +kernel) rfl
theorem tw_609 : (.selects RX8 yX8_addOwning yX8_addOwning : Cond) ∈ tl_T := tl_tin 609 (by decide +kernel) rfl
theorem tw_610 : (.code yX8_addOwning cX8_addOwning 5 none : Cond) ∈ tl_T := tl_tin 610 (by decide +kernel) rfl
theorem tw_611 : (.methodLink RX8 29 yX5_howMany : Cond) ∈ tl_T := tl_tin 611 (by decide +kernel) rfl
theorem tw_612 : (.methodLink RX8 35 yX5_hasRule : Cond) ∈ tl_T := tl_tin 612 (by decide +kernel) rfl
theorem tw_613 : (.methodLink RX8 39 yX3_addTo : Cond) ∈ tl_T := tl_tin 613 (by decide +kernel) rfl
theorem tw_614 : (.instanceMethod yX3_addTo : Cond) ∈ tl_T := tl_tin 614 (by decide +kernel) rfl
theorem tw_615 : (.selects RX3 yX3_addTo yX3_addTo : Cond) ∈ tl_T := tl_tin 615 (by decide +kernel) rfl
theorem tw_616 : (.code yX3_addTo cX3_addTo 6 none : Cond) ∈ tl_T := tl_tin 616 (by decide +kernel) rfl
theorem tw_617 : (.methodLink RX3 33 yX4_add : Cond) ∈ tl_T := tl_tin 617 (by decide +kernel) rfl
theorem tw_618 : (.methodLink RX8 80 yX8_stepsTo : Cond) ∈ tl_T := tl_tin 618 (by decide +kernel) rfl
theorem tw_619 : (.instanceMethod yX8_stepsTo : Cond) ∈ tl_T := tl_tin 619 (by decide +kernel) rfl
theorem tw_620 : (.selects RX8 yX8_stepsTo yX8_stepsTo : Cond) ∈ tl_T := tl_tin 620 (by decide +kernel) rfl
theorem tw_621 : (.code yX8_stepsTo cX8_stepsTo 2 (some .int) : Cond) ∈ tl_T := tl_tin 621 (by decide +kernel) rfl
theorem tw_622 : (.methodLink RX8 83 yX4_holds : Cond) ∈ tl_T := tl_tin 622 (by decide +kernel) rfl
theorem tw_623 : (.instanceMethod yX4_holds : Cond) ∈ tl_T := tl_tin 623 (by decide +kernel) rfl
theorem tw_624 : (.selects RX4 yX4_holds yX4_holds : Cond) ∈ tl_T := tl_tin 624 (by decide +kernel) rfl
theorem tw_625 : (.code yX4_holds cX4_holds 2 (some .boolean) : Cond) ∈ tl_T := tl_tin 625 (by decide +kernel) rfl
theorem tw_626 : (.methodLink RX8 87 yX6_clear : Cond) ∈ tl_T := tl_tin 626 (by decide +kernel) rfl
theorem tw_627 : (.instanceMethod yX6_clear : Cond) ∈ tl_T := tl_tin 627 (by decide +kernel) rfl
theorem tw_628 : (.selects RX6 yX6_clear yX6_clear : Cond) ∈ tl_T := tl_tin 628 (by decide +kernel) rfl
theorem tw_629 : (.code yX6_clear cX6_clear 1 none : Cond) ∈ tl_T := tl_tin 629 (by decide +kernel) rfl
theorem tw_630 : (.methodLink RX8 90 yX1_numberOf : Cond) ∈ tl_T := tl_tin 630 (by decide +kernel) rfl
theorem tw_631 : (.instanceMethod yX1_numberOf : Cond) ∈ tl_T := tl_tin 631 (by decide +kernel) rfl
theorem tw_632 : (.selects RX1 yX1_numberOf yX1_numberOf : Cond) ∈ tl_T := tl_tin 632 (by decide +kernel) rfl
theorem tw_633 : (.code yX1_numberOf cX1_numberOf 2 (some .int) : Cond) ∈ tl_T := tl_tin 633 (by decide +kernel) rfl
theorem tw_634 : (.methodLink RX8 93 yX6_add : Cond) ∈ tl_T := tl_tin 634 (by decide +kernel) rfl
theorem tw_635 : (.instanceMethod yX6_add : Cond) ∈ tl_T := tl_tin 635 (by decide +kernel) rfl
theorem tw_636 : (.selects RX6 yX6_add yX6_add : Cond) ∈ tl_T := tl_tin 636 (by decide +kernel) rfl
theorem tw_637 : (.code yX6_add cX6_add 2 none : Cond) ∈ tl_T := tl_tin 637 (by decide +kernel) rfl
theorem tw_638 : (.methodLink RX8 94 yX8_leastStep : Cond) ∈ tl_T := tl_tin 638 (by decide +kernel) rfl
theorem tw_640 : (.instanceMethod yX8_leastStep : Cond) ∈ tl_T := tl_tin 640 (by decide +kernel) rfl
theorem tw_641 : (.code yX8_leastStep cX8_leastStep 8 (some .int) : Cond) ∈ tl_T := tl_tin 641 (by decide +kernel) rfl
theorem tw_642 : (.methodLink RX8 55 yX1_has : Cond) ∈ tl_T := tl_tin 642 (by decide +kernel) rfl
theorem tw_664 : (.instanceMethod yX5_hasForm : Cond) ∈ tl_T := tl_tin 664 (by decide +kernel) rfl
theorem tw_665 : (.selects RX5 yX5_hasForm yX5_hasForm : Cond) ∈ tl_T := tl_tin 665 (by decide +kernel) rfl
theorem tw_666 : (.code yX5_hasForm cX5_hasForm 3 (some .boolean) : Cond) ∈ tl_T := tl_tin 666 (by decide +kernel) rfl
theorem tw_670 : (.instanceMethod yX3_get : Cond) ∈ tl_T := tl_tin 670 (by decide +kernel) rfl
theorem tw_671 : (.selects RX3 yX3_get yX3_get : Cond) ∈ tl_T := tl_tin 671 (by decide +kernel) rfl
theorem tw_672 : (.code yX3_get cX3_get 4 (some .int) : Cond) ∈ tl_T := tl_tin 672 (by decide +kernel) rfl
theorem tw_674 : (.instanceMethod yX1_separate : Cond) ∈ tl_T := tl_tin 674 (by decide +kernel) rfl
theorem tw_675 : (.selects RX1 yX1_separate yX1_separate : Cond) ∈ tl_T := tl_tin 675 (by decide +kernel) rfl
theorem tw_676 : (.code yX1_separate cX1_separate 4 (some .boolean) : Cond) ∈ tl_T := tl_tin 676 (by decide +kernel) rfl
theorem tw_677 : (.methodLink RX1 64 yX3_remove : Cond) ∈ tl_T := tl_tin 677 (by decide +kernel) rfl
theorem tw_682 : (.methodLink RX1 56 yX3_insert : Cond) ∈ tl_T := tl_tin 682 (by decide +kernel) rfl
theorem tw_683 : (.methodLink RX1 60 yX3_append : Cond) ∈ tl_T := tl_tin 683 (by decide +kernel) rfl
theorem tw_684 : (.instanceMethod yX3_append : Cond) ∈ tl_T := tl_tin 684 (by decide +kernel) rfl
theorem tw_685 : (.selects RX3 yX3_append yX3_append : Cond) ∈ tl_T := tl_tin 685 (by decide +kernel) rfl
theorem tw_686 : (.code yX3_append cX3_append 4 none : Cond) ∈ tl_T := tl_tin 686 (by decide +kernel) rfl
theorem tw_687 : (.methodLink RX3 47 yX3_insert : Cond) ∈ tl_T := tl_tin 687 (by decide +kernel) rfl
theorem tw_706 : (.methodLink RX2 32 yX4_clear : Cond) ∈ tl_T := tl_tin 706 (by decide +kernel) rfl
theorem tw_707 : (.methodLink RX2 35 yX4_add : Cond) ∈ tl_T := tl_tin 707 (by decide +kernel) rfl
theorem tw_708 : (.methodLink RX2 39 yX4_length : Cond) ∈ tl_T := tl_tin 708 (by decide +kernel) rfl
theorem tw_709 : (.methodLink RX2 43 yX1_has : Cond) ∈ tl_T := tl_tin 709 (by decide +kernel) rfl
theorem tw_710 : (.methodLink RX2 49 yX4_get : Cond) ∈ tl_T := tl_tin 710 (by decide +kernel) rfl
theorem tw_711 : (.methodLink RX2 53 yX8_addOwning : Cond) ∈ tl_T := tl_tin 711 (by decide +kernel) rfl
theorem tw_712 : (.methodLink RX2 59 yX2_addThoseWithoutOwner : Cond) ∈ tl_T := tl_tin 712 (by decide +kernel) rfl
theorem tw_714 : (.instanceMethod yX2_addThoseWithoutOwner : Cond) ∈ tl_T := tl_tin 714 (by decide +kernel) rfl
theorem tw_715 : (.code yX2_addThoseWithoutOwner cX2_addThoseWithoutOwner 3 none : Cond) ∈ tl_T := tl_tin 715 (by decide +kernel) rfl
theorem tw_716 : (.methodLink RX2 103 yX1_had : Cond) ∈ tl_T := tl_tin 716 (by decide +kernel) rfl
theorem tw_717 : (.methodLink RX2 106 yX2_areOwnersGone : Cond) ∈ tl_T := tl_tin 717 (by decide +kernel) rfl
theorem tw_719 : (.instanceMethod yX2_areOwnersGone : Cond) ∈ tl_T := tl_tin 719 (by decide +kernel) rfl
theorem tw_720 : (.code yX2_areOwnersGone cX2_areOwnersGone 2 (some .boolean) : Cond) ∈ tl_T := tl_tin 720 (by decide +kernel) rfl
theorem tw_721 : (.methodLink RX2 67 yX4_holds : Cond) ∈ tl_T := tl_tin 721 (by decide +kernel) rfl
theorem tw_726 : (.methodLink RX2 63 yX8_spread : Cond) ∈ tl_T := tl_tin 726 (by decide +kernel) rfl
theorem tw_727 : (.methodLink RX2 71 yX2_leastBar : Cond) ∈ tl_T := tl_tin 727 (by decide +kernel) rfl
theorem tw_728 : (.instanceMethod yX2_leastBar : Cond) ∈ tl_T := tl_tin 728 (by decide +kernel) rfl
theorem tw_729 : (.selects RX2 yX2_leastBar yX2_leastBar : Cond) ∈ tl_T := tl_tin 729 (by decide +kernel) rfl
theorem tw_730 : (.code yX2_leastBar cX2_leastBar 9 (some .int) : Cond) ∈ tl_T := tl_tin 730 (by decide +kernel) rfl
theorem tw_731 : (.methodLink RX2 79 yX5_howMany : Cond) ∈ tl_T := tl_tin 731 (by decide +kernel) rfl
theorem tw_732 : (.methodLink RX2 84 yX5_hasRule : Cond) ∈ tl_T := tl_tin 732 (by decide +kernel) rfl
theorem tw_733 : (.methodLink RX2 88 yX3_lengthOf : Cond) ∈ tl_T := tl_tin 733 (by decide +kernel) rfl
theorem tw_734 : (.methodLink RX2 94 yX3_get : Cond) ∈ tl_T := tl_tin 734 (by decide +kernel) rfl
theorem tw_735 : (.methodLink RX2 97 yX1_numberOf : Cond) ∈ tl_T := tl_tin 735 (by decide +kernel) rfl
theorem tw_736 : (.methodLink RX2 75 yX2_isBefore : Cond) ∈ tl_T := tl_tin 736 (by decide +kernel) rfl
theorem tw_738 : (.instanceMethod yX2_isBefore : Cond) ∈ tl_T := tl_tin 738 (by decide +kernel) rfl
theorem tw_739 : (.code yX2_isBefore cX2_isBefore 6 (some .boolean) : Cond) ∈ tl_T := tl_tin 739 (by decide +kernel) rfl
theorem tw_740 : (.methodLink RX2 110 yX8_stepsTo : Cond) ∈ tl_T := tl_tin 740 (by decide +kernel) rfl
theorem tw_749 : (.methodLink RX2 100 yX1_remove : Cond) ∈ tl_T := tl_tin 749 (by decide +kernel) rfl
theorem tw_750 : (.instanceMethod yX1_remove : Cond) ∈ tl_T := tl_tin 750 (by decide +kernel) rfl
theorem tw_751 : (.selects RX1 yX1_remove yX1_remove : Cond) ∈ tl_T := tl_tin 751 (by decide +kernel) rfl
theorem tw_752 : (.code yX1_remove cX1_remove 3 none : Cond) ∈ tl_T := tl_tin 752 (by decide +kernel) rfl
theorem tw_753 : (.methodLink RX1 45 yX1_numberOf : Cond) ∈ tl_T := tl_tin 753 (by decide +kernel) rfl
theorem tw_754 : (.methodLink RX1 48 yX1_separateAll : Cond) ∈ tl_T := tl_tin 754 (by decide +kernel) rfl
theorem tw_756 : (.instanceMethod yX1_separateAll : Cond) ∈ tl_T := tl_tin 756 (by decide +kernel) rfl
theorem tw_757 : (.code yX1_separateAll cX1_separateAll 4 none : Cond) ∈ tl_T := tl_tin 757 (by decide +kernel) rfl
theorem tw_758 : (.methodLink RX1 77 yX3_lengthOf : Cond) ∈ tl_T := tl_tin 758 (by decide +kernel) rfl
theorem tw_759 : (.methodLink RX1 81 yX3_get : Cond) ∈ tl_T := tl_tin 759 (by decide +kernel) rfl
theorem tw_760 : (.methodLink RX1 85 yX1_separate : Cond) ∈ tl_T := tl_tin 760 (by decide +kernel) rfl
theorem tw_772 : (.methodLink RX7 30 yX1_has : Cond) ∈ tl_T := tl_tin 772 (by decide +kernel) rfl
theorem tw_773 : (.methodLink RX7 36 yX8_spread : Cond) ∈ tl_T := tl_tin 773 (by decide +kernel) rfl
theorem tw_774 : (.methodLink RX7 42 yX4_clear : Cond) ∈ tl_T := tl_tin 774 (by decide +kernel) rfl
theorem tw_775 : (.methodLink RX7 45 yX4_length : Cond) ∈ tl_T := tl_tin 775 (by decide +kernel) rfl
theorem tw_776 : (.methodLink RX7 49 yX7_leastMissing : Cond) ∈ tl_T := tl_tin 776 (by decide +kernel) rfl
theorem tw_778 : (.instanceMethod yX7_leastMissing : Cond) ∈ tl_T := tl_tin 778 (by decide +kernel) rfl
theorem tw_779 : (.code yX7_leastMissing cX7_leastMissing 7 (some .int) : Cond) ∈ tl_T := tl_tin 779 (by decide +kernel) rfl
theorem tw_780 : (.methodLink RX7 85 yX4_get : Cond) ∈ tl_T := tl_tin 780 (by decide +kernel) rfl
theorem tw_781 : (.methodLink RX7 69 yX4_holds : Cond) ∈ tl_T := tl_tin 781 (by decide +kernel) rfl
theorem tw_782 : (.methodLink RX7 105 yX1_numberOf : Cond) ∈ tl_T := tl_tin 782 (by decide +kernel) rfl
theorem tw_783 : (.methodLink RX7 53 yX4_add : Cond) ∈ tl_T := tl_tin 783 (by decide +kernel) rfl
theorem tw_788 : (.methodLink RX7 57 yX1_objects : Cond) ∈ tl_T := tl_tin 788 (by decide +kernel) rfl
theorem tw_789 : (.methodLink RX7 60 yX5_howMany : Cond) ∈ tl_T := tl_tin 789 (by decide +kernel) rfl
theorem tw_790 : (.methodLink RX7 65 yX7_keepsOutsiders : Cond) ∈ tl_T := tl_tin 790 (by decide +kernel) rfl
theorem tw_792 : (.instanceMethod yX7_keepsOutsiders : Cond) ∈ tl_T := tl_tin 792 (by decide +kernel) rfl
theorem tw_793 : (.code yX7_keepsOutsiders cX7_keepsOutsiders 2 (some .boolean) : Cond) ∈ tl_T := tl_tin 793 (by decide +kernel) rfl
theorem tw_794 : (.methodLink RX7 108 yX5_hasForm : Cond) ∈ tl_T := tl_tin 794 (by decide +kernel) rfl
theorem tw_795 : (.methodLink RX7 112 yX5_hasRule : Cond) ∈ tl_T := tl_tin 795 (by decide +kernel) rfl
theorem tw_796 : (.methodLink RX7 72 yX7_howManyOldHave : Cond) ∈ tl_T := tl_tin 796 (by decide +kernel) rfl
theorem tw_798 : (.instanceMethod yX7_howManyOldHave : Cond) ∈ tl_T := tl_tin 798 (by decide +kernel) rfl
theorem tw_799 : (.code yX7_howManyOldHave cX7_howManyOldHave 6 (some .int) : Cond) ∈ tl_T := tl_tin 799 (by decide +kernel) rfl
theorem tw_800 : (.methodLink RX7 76 yX1_had : Cond) ∈ tl_T := tl_tin 800 (by decide +kernel) rfl
theorem tw_801 : (.methodLink RX7 79 yX3_lengthOf : Cond) ∈ tl_T := tl_tin 801 (by decide +kernel) rfl
theorem tw_802 : (.methodLink RX7 115 yX3_get : Cond) ∈ tl_T := tl_tin 802 (by decide +kernel) rfl
theorem tw_808 : (.methodLink RX7 89 yX4_isSlot : Cond) ∈ tl_T := tl_tin 808 (by decide +kernel) rfl
theorem tw_809 : (.methodLink RX7 92 yX1_kindOf : Cond) ∈ tl_T := tl_tin 809 (by decide +kernel) rfl
theorem tw_810 : (.methodLink RX7 95 yX1_admit : Cond) ∈ tl_T := tl_tin 810 (by decide +kernel) rfl
theorem tw_811 : (.methodLink RX7 98 yX7_copyHas : Cond) ∈ tl_T := tl_tin 811 (by decide +kernel) rfl
theorem tw_813 : (.instanceMethod yX7_copyHas : Cond) ∈ tl_T := tl_tin 813 (by decide +kernel) rfl
theorem tw_814 : (.code yX7_copyHas cX7_copyHas 7 none : Cond) ∈ tl_T := tl_tin 814 (by decide +kernel) rfl
theorem tw_815 : (.methodLink RX7 121 yX7_standIn : Cond) ∈ tl_T := tl_tin 815 (by decide +kernel) rfl
theorem tw_817 : (.instanceMethod yX7_standIn : Cond) ∈ tl_T := tl_tin 817 (by decide +kernel) rfl
theorem tw_818 : (.code yX7_standIn cX7_standIn 3 (some .int) : Cond) ∈ tl_T := tl_tin 818 (by decide +kernel) rfl
theorem tw_819 : (.methodLink RX7 118 yX7_twinOf : Cond) ∈ tl_T := tl_tin 819 (by decide +kernel) rfl
theorem tw_820 : (.instanceMethod yX7_twinOf : Cond) ∈ tl_T := tl_tin 820 (by decide +kernel) rfl
theorem tw_821 : (.selects RX7 yX7_twinOf yX7_twinOf : Cond) ∈ tl_T := tl_tin 821 (by decide +kernel) rfl
theorem tw_822 : (.code yX7_twinOf cX7_twinOf 2 (some .int) : Cond) ∈ tl_T := tl_tin 822 (by decide +kernel) rfl
theorem tw_823 : (.methodLink RX7 124 yX1_joinHas : Cond) ∈ tl_T := tl_tin 823 (by decide +kernel) rfl
theorem tw_824 : (.instanceMethod yX1_joinHas : Cond) ∈ tl_T := tl_tin 824 (by decide +kernel) rfl
theorem tw_825 : (.selects RX1 yX1_joinHas yX1_joinHas : Cond) ∈ tl_T := tl_tin 825 (by decide +kernel) rfl
theorem tw_826 : (.code yX1_joinHas cX1_joinHas 4 none : Cond) ∈ tl_T := tl_tin 826 (by decide +kernel) rfl
theorem tw_827 : (.methodLink RX7 102 yX7_copyHad : Cond) ∈ tl_T := tl_tin 827 (by decide +kernel) rfl
theorem tw_829 : (.instanceMethod yX7_copyHad : Cond) ∈ tl_T := tl_tin 829 (by decide +kernel) rfl
theorem tw_830 : (.code yX7_copyHad cX7_copyHad 8 none : Cond) ∈ tl_T := tl_tin 830 (by decide +kernel) rfl
theorem tw_831 : (.methodLink RX7 128 yX1_joinHad : Cond) ∈ tl_T := tl_tin 831 (by decide +kernel) rfl
theorem tw_832 : (.instanceMethod yX1_joinHad : Cond) ∈ tl_T := tl_tin 832 (by decide +kernel) rfl
theorem tw_833 : (.selects RX1 yX1_joinHad yX1_joinHad : Cond) ∈ tl_T := tl_tin 833 (by decide +kernel) rfl
theorem tw_834 : (.code yX1_joinHad cX1_joinHad 4 none : Cond) ∈ tl_T := tl_tin 834 (by decide +kernel) rfl
theorem tw_847 : (.methodLink RX0 29 yX0_demand : Cond) ∈ tl_T := tl_tin 847 (by decide +kernel) rfl
theorem tw_849 : (.instanceMethod yX0_demand : Cond) ∈ tl_T := tl_tin 849 (by decide +kernel) rfl
theorem tw_850 : (.code yX0_demand cX0_demand 5 none : Cond) ∈ tl_T := tl_tin 850 (by decide +kernel) rfl
theorem tw_851 : (.methodLink RX0 71 yX4_isSlot : Cond) ∈ tl_T := tl_tin 851 (by decide +kernel) rfl
theorem tw_852 : (.methodLink RX0 33 yX0_matchPair : Cond) ∈ tl_T := tl_tin 852 (by decide +kernel) rfl
theorem tw_854 : (.instanceMethod yX0_matchPair : Cond) ∈ tl_T := tl_tin 854 (by decide +kernel) rfl
theorem tw_855 : (.code yX0_matchPair cX0_matchPair 5 (some .boolean) : Cond) ∈ tl_T := tl_tin 855 (by decide +kernel) rfl
theorem tw_856 : (.methodLink RX0 37 yX1_kindOf : Cond) ∈ tl_T := tl_tin 856 (by decide +kernel) rfl
theorem tw_857 : (.methodLink RX0 43 yX5_howMany : Cond) ∈ tl_T := tl_tin 857 (by decide +kernel) rfl
theorem tw_858 : (.methodLink RX0 49 yX5_hasRule : Cond) ∈ tl_T := tl_tin 858 (by decide +kernel) rfl
theorem tw_859 : (.methodLink RX0 53 yX1_has : Cond) ∈ tl_T := tl_tin 859 (by decide +kernel) rfl
theorem tw_860 : (.methodLink RX0 57 yX0_matchRows : Cond) ∈ tl_T := tl_tin 860 (by decide +kernel) rfl
theorem tw_862 : (.instanceMethod yX0_matchRows : Cond) ∈ tl_T := tl_tin 862 (by decide +kernel) rfl
theorem tw_863 : (.code yX0_matchRows cX0_matchRows 7 (some .boolean) : Cond) ∈ tl_T := tl_tin 863 (by decide +kernel) rfl
theorem tw_864 : (.methodLink RX0 61 yX3_lengthOf : Cond) ∈ tl_T := tl_tin 864 (by decide +kernel) rfl
theorem tw_865 : (.methodLink RX0 67 yX3_get : Cond) ∈ tl_T := tl_tin 865 (by decide +kernel) rfl
theorem td_X0_demand : yX0_demand.cls = RX0 ∧ yX0_demand.cls ≠ "java/lang/invoke/MethodHandle" ∧ yX0_demand.cls ≠ "java/lang/invoke/VarHandle" ∧ (parseMethodDescriptor yX0_demand.desc).map (fun d => d.parameters.length) = some 2 := by decide +kernel
theorem td_X0_matchPair : yX0_matchPair.cls = RX0 ∧ yX0_matchPair.cls ≠ "java/lang/invoke/MethodHandle" ∧ yX0_matchPair.cls ≠ "java/lang/invoke/VarHandle" ∧ (parseMethodDescriptor yX0_matchPair.desc).map (fun d => d.parameters.length) = some 3 := by decide +kernel
theorem td_X0_matchRows : yX0_matchRows.cls = RX0 ∧ yX0_matchRows.cls ≠ "java/lang/invoke/MethodHandle" ∧ yX0_matchRows.cls ≠ "java/lang/invoke/VarHandle" ∧ (parseMethodDescriptor yX0_matchRows.desc).map (fun d => d.parameters.length) = some 4 := by decide +kernel
theorem td_X1_admit : yX1_admit.cls = RX1 ∧ yX1_admit.cls ≠ "java/lang/invoke/MethodHandle" ∧ yX1_admit.cls ≠ "java/lang/invoke/VarHandle" ∧ (parseMethodDescriptor yX1_admit.desc).map (fun d => d.parameters.length) = some 2 := by decide +kernel
theorem td_X1_had : yX1_had.cls = RX1 ∧ yX1_had.cls ≠ "java/lang/invoke/MethodHandle" ∧ yX1_had.cls ≠ "java/lang/invoke/VarHandle" ∧ (parseMethodDescriptor yX1_had.desc).map (fun d => d.parameters.length) = some 0 := by decide +kernel
theorem td_X1_has : yX1_has.cls = RX1 ∧ yX1_has.cls ≠ "java/lang/invoke/MethodHandle" ∧ yX1_has.cls ≠ "java/lang/invoke/VarHandle" ∧ (parseMethodDescriptor yX1_has.desc).map (fun d => d.parameters.length) = some 0 := by decide +kernel
theorem td_X1_joinHad : yX1_joinHad.cls = RX1 ∧ yX1_joinHad.cls ≠ "java/lang/invoke/MethodHandle" ∧ yX1_joinHad.cls ≠ "java/lang/invoke/VarHandle" ∧ (parseMethodDescriptor yX1_joinHad.desc).map (fun d => d.parameters.length) = some 3 := by decide +kernel
theorem td_X1_joinHas : yX1_joinHas.cls = RX1 ∧ yX1_joinHas.cls ≠ "java/lang/invoke/MethodHandle" ∧ yX1_joinHas.cls ≠ "java/lang/invoke/VarHandle" ∧ (parseMethodDescriptor yX1_joinHas.desc).map (fun d => d.parameters.length) = some 3 := by decide +kernel
theorem td_X1_kindOf : yX1_kindOf.cls = RX1 ∧ yX1_kindOf.cls ≠ "java/lang/invoke/MethodHandle" ∧ yX1_kindOf.cls ≠ "java/lang/invoke/VarHandle" ∧ (parseMethodDescriptor yX1_kindOf.desc).map (fun d => d.parameters.length) = some 1 := by decide +kernel
theorem td_X1_numberOf : yX1_numberOf.cls = RX1 ∧ yX1_numberOf.cls ≠ "java/lang/invoke/MethodHandle" ∧ yX1_numberOf.cls ≠ "java/lang/invoke/VarHandle" ∧ (parseMethodDescriptor yX1_numberOf.desc).map (fun d => d.parameters.length) = some 1 := by decide +kernel
theorem td_X1_objects : yX1_objects.cls = RX1 ∧ yX1_objects.cls ≠ "java/lang/invoke/MethodHandle" ∧ yX1_objects.cls ≠ "java/lang/invoke/VarHandle" ∧ (parseMethodDescriptor yX1_objects.desc).map (fun d => d.parameters.length) = some 0 := by decide +kernel
theorem td_X1_remove : yX1_remove.cls = RX1 ∧ yX1_remove.cls ≠ "java/lang/invoke/MethodHandle" ∧ yX1_remove.cls ≠ "java/lang/invoke/VarHandle" ∧ (parseMethodDescriptor yX1_remove.desc).map (fun d => d.parameters.length) = some 1 := by decide +kernel
theorem td_X1_separate : yX1_separate.cls = RX1 ∧ yX1_separate.cls ≠ "java/lang/invoke/MethodHandle" ∧ yX1_separate.cls ≠ "java/lang/invoke/VarHandle" ∧ (parseMethodDescriptor yX1_separate.desc).map (fun d => d.parameters.length) = some 3 := by decide +kernel
theorem td_X1_separateAll : yX1_separateAll.cls = RX1 ∧ yX1_separateAll.cls ≠ "java/lang/invoke/MethodHandle" ∧ yX1_separateAll.cls ≠ "java/lang/invoke/VarHandle" ∧ (parseMethodDescriptor yX1_separateAll.desc).map (fun d => d.parameters.length) = some 2 := by decide +kernel
theorem td_X1_slotBearing : yX1_slotBearing.cls = RX1 ∧ yX1_slotBearing.cls ≠ "java/lang/invoke/MethodHandle" ∧ yX1_slotBearing.cls ≠ "java/lang/invoke/VarHandle" ∧ (parseMethodDescriptor yX1_slotBearing.desc).map (fun d => d.parameters.length) = some 1 := by decide +kernel
theorem td_X2_addThoseWithoutOwner : yX2_addThoseWithoutOwner.cls = RX2 ∧ yX2_addThoseWithoutOwner.cls ≠ "java/lang/invoke/MethodHandle" ∧ yX2_addThoseWithoutOwner.cls ≠ "java/lang/invoke/VarHandle" ∧ (parseMethodDescriptor yX2_addThoseWithoutOwner.desc).map (fun d => d.parameters.length) = some 1 := by decide +kernel
theorem td_X2_areOwnersGone : yX2_areOwnersGone.cls = RX2 ∧ yX2_areOwnersGone.cls ≠ "java/lang/invoke/MethodHandle" ∧ yX2_areOwnersGone.cls ≠ "java/lang/invoke/VarHandle" ∧ (parseMethodDescriptor yX2_areOwnersGone.desc).map (fun d => d.parameters.length) = some 0 := by decide +kernel
theorem td_X2_isBefore : yX2_isBefore.cls = RX2 ∧ yX2_isBefore.cls ≠ "java/lang/invoke/MethodHandle" ∧ yX2_isBefore.cls ≠ "java/lang/invoke/VarHandle" ∧ (parseMethodDescriptor yX2_isBefore.desc).map (fun d => d.parameters.length) = some 3 := by decide +kernel
theorem td_X2_leastBar : yX2_leastBar.cls = RX2 ∧ yX2_leastBar.cls ≠ "java/lang/invoke/MethodHandle" ∧ yX2_leastBar.cls ≠ "java/lang/invoke/VarHandle" ∧ (parseMethodDescriptor yX2_leastBar.desc).map (fun d => d.parameters.length) = some 2 := by decide +kernel
theorem td_X3_addTo : yX3_addTo.cls = RX3 ∧ yX3_addTo.cls ≠ "java/lang/invoke/MethodHandle" ∧ yX3_addTo.cls ≠ "java/lang/invoke/VarHandle" ∧ (parseMethodDescriptor yX3_addTo.desc).map (fun d => d.parameters.length) = some 3 := by decide +kernel
theorem td_X3_append : yX3_append.cls = RX3 ∧ yX3_append.cls ≠ "java/lang/invoke/MethodHandle" ∧ yX3_append.cls ≠ "java/lang/invoke/VarHandle" ∧ (parseMethodDescriptor yX3_append.desc).map (fun d => d.parameters.length) = some 3 := by decide +kernel
theorem td_X3_get : yX3_get.cls = RX3 ∧ yX3_get.cls ≠ "java/lang/invoke/MethodHandle" ∧ yX3_get.cls ≠ "java/lang/invoke/VarHandle" ∧ (parseMethodDescriptor yX3_get.desc).map (fun d => d.parameters.length) = some 3 := by decide +kernel
theorem td_X3_holds : yX3_holds.cls = RX3 ∧ yX3_holds.cls ≠ "java/lang/invoke/MethodHandle" ∧ yX3_holds.cls ≠ "java/lang/invoke/VarHandle" ∧ (parseMethodDescriptor yX3_holds.desc).map (fun d => d.parameters.length) = some 3 := by decide +kernel
theorem td_X3_insert : yX3_insert.cls = RX3 ∧ yX3_insert.cls ≠ "java/lang/invoke/MethodHandle" ∧ yX3_insert.cls ≠ "java/lang/invoke/VarHandle" ∧ (parseMethodDescriptor yX3_insert.desc).map (fun d => d.parameters.length) = some 4 := by decide +kernel
theorem td_X3_isRow : yX3_isRow.cls ≠ "java/lang/invoke/MethodHandle" ∧ yX3_isRow.cls ≠ "java/lang/invoke/VarHandle" ∧ (parseMethodDescriptor yX3_isRow.desc).map (fun d => d.parameters.length) = some 2 := by decide +kernel
theorem td_X3_lengthOf : yX3_lengthOf.cls = RX3 ∧ yX3_lengthOf.cls ≠ "java/lang/invoke/MethodHandle" ∧ yX3_lengthOf.cls ≠ "java/lang/invoke/VarHandle" ∧ (parseMethodDescriptor yX3_lengthOf.desc).map (fun d => d.parameters.length) = some 2 := by decide +kernel
theorem td_X3_read : yX3_read.cls = RX3 ∧ yX3_read.cls ≠ "java/lang/invoke/MethodHandle" ∧ yX3_read.cls ≠ "java/lang/invoke/VarHandle" ∧ (parseMethodDescriptor yX3_read.desc).map (fun d => d.parameters.length) = some 2 := by decide +kernel
theorem td_X3_remove : yX3_remove.cls = RX3 ∧ yX3_remove.cls ≠ "java/lang/invoke/MethodHandle" ∧ yX3_remove.cls ≠ "java/lang/invoke/VarHandle" ∧ (parseMethodDescriptor yX3_remove.desc).map (fun d => d.parameters.length) = some 3 := by decide +kernel
theorem td_X3_rowOf : yX3_rowOf.cls ≠ "java/lang/invoke/MethodHandle" ∧ yX3_rowOf.cls ≠ "java/lang/invoke/VarHandle" ∧ (parseMethodDescriptor yX3_rowOf.desc).map (fun d => d.parameters.length) = some 2 := by decide +kernel
theorem td_X3_write : yX3_write.cls = RX3 ∧ yX3_write.cls ≠ "java/lang/invoke/MethodHandle" ∧ yX3_write.cls ≠ "java/lang/invoke/VarHandle" ∧ (parseMethodDescriptor yX3_write.desc).map (fun d => d.parameters.length) = some 3 := by decide +kernel
theorem td_X4_add : yX4_add.cls = RX4 ∧ yX4_add.cls ≠ "java/lang/invoke/MethodHandle" ∧ yX4_add.cls ≠ "java/lang/invoke/VarHandle" ∧ (parseMethodDescriptor yX4_add.desc).map (fun d => d.parameters.length) = some 1 := by decide +kernel
theorem td_X4_clear : yX4_clear.cls = RX4 ∧ yX4_clear.cls ≠ "java/lang/invoke/MethodHandle" ∧ yX4_clear.cls ≠ "java/lang/invoke/VarHandle" ∧ (parseMethodDescriptor yX4_clear.desc).map (fun d => d.parameters.length) = some 0 := by decide +kernel
theorem td_X4_get : yX4_get.cls = RX4 ∧ yX4_get.cls ≠ "java/lang/invoke/MethodHandle" ∧ yX4_get.cls ≠ "java/lang/invoke/VarHandle" ∧ (parseMethodDescriptor yX4_get.desc).map (fun d => d.parameters.length) = some 1 := by decide +kernel
theorem td_X4_holds : yX4_holds.cls = RX4 ∧ yX4_holds.cls ≠ "java/lang/invoke/MethodHandle" ∧ yX4_holds.cls ≠ "java/lang/invoke/VarHandle" ∧ (parseMethodDescriptor yX4_holds.desc).map (fun d => d.parameters.length) = some 1 := by decide +kernel
theorem td_X4_isSlot : yX4_isSlot.cls ≠ "java/lang/invoke/MethodHandle" ∧ yX4_isSlot.cls ≠ "java/lang/invoke/VarHandle" ∧ (parseMethodDescriptor yX4_isSlot.desc).map (fun d => d.parameters.length) = some 1 := by decide +kernel
theorem td_X4_length : yX4_length.cls = RX4 ∧ yX4_length.cls ≠ "java/lang/invoke/MethodHandle" ∧ yX4_length.cls ≠ "java/lang/invoke/VarHandle" ∧ (parseMethodDescriptor yX4_length.desc).map (fun d => d.parameters.length) = some 0 := by decide +kernel
theorem td_X5_hasForm : yX5_hasForm.cls = RX5 ∧ yX5_hasForm.cls ≠ "java/lang/invoke/MethodHandle" ∧ yX5_hasForm.cls ≠ "java/lang/invoke/VarHandle" ∧ (parseMethodDescriptor yX5_hasForm.desc).map (fun d => d.parameters.length) = some 2 := by decide +kernel
theorem td_X5_hasRule : yX5_hasRule.cls = RX5 ∧ yX5_hasRule.cls ≠ "java/lang/invoke/MethodHandle" ∧ yX5_hasRule.cls ≠ "java/lang/invoke/VarHandle" ∧ (parseMethodDescriptor yX5_hasRule.desc).map (fun d => d.parameters.length) = some 2 := by decide +kernel
theorem td_X5_howMany : yX5_howMany.cls = RX5 ∧ yX5_howMany.cls ≠ "java/lang/invoke/MethodHandle" ∧ yX5_howMany.cls ≠ "java/lang/invoke/VarHandle" ∧ (parseMethodDescriptor yX5_howMany.desc).map (fun d => d.parameters.length) = some 0 := by decide +kernel
theorem td_X5_knows : yX5_knows.cls = RX5 ∧ yX5_knows.cls ≠ "java/lang/invoke/MethodHandle" ∧ yX5_knows.cls ≠ "java/lang/invoke/VarHandle" ∧ (parseMethodDescriptor yX5_knows.desc).map (fun d => d.parameters.length) = some 1 := by decide +kernel
theorem td_X6_add : yX6_add.cls = RX6 ∧ yX6_add.cls ≠ "java/lang/invoke/MethodHandle" ∧ yX6_add.cls ≠ "java/lang/invoke/VarHandle" ∧ (parseMethodDescriptor yX6_add.desc).map (fun d => d.parameters.length) = some 1 := by decide +kernel
theorem td_X6_clear : yX6_clear.cls = RX6 ∧ yX6_clear.cls ≠ "java/lang/invoke/MethodHandle" ∧ yX6_clear.cls ≠ "java/lang/invoke/VarHandle" ∧ (parseMethodDescriptor yX6_clear.desc).map (fun d => d.parameters.length) = some 0 := by decide +kernel
theorem td_X7_copyHad : yX7_copyHad.cls = RX7 ∧ yX7_copyHad.cls ≠ "java/lang/invoke/MethodHandle" ∧ yX7_copyHad.cls ≠ "java/lang/invoke/VarHandle" ∧ (parseMethodDescriptor yX7_copyHad.desc).map (fun d => d.parameters.length) = some 3 := by decide +kernel
theorem td_X7_copyHas : yX7_copyHas.cls = RX7 ∧ yX7_copyHas.cls ≠ "java/lang/invoke/MethodHandle" ∧ yX7_copyHas.cls ≠ "java/lang/invoke/VarHandle" ∧ (parseMethodDescriptor yX7_copyHas.desc).map (fun d => d.parameters.length) = some 3 := by decide +kernel
theorem td_X7_howManyOldHave : yX7_howManyOldHave.cls = RX7 ∧ yX7_howManyOldHave.cls ≠ "java/lang/invoke/MethodHandle" ∧ yX7_howManyOldHave.cls ≠ "java/lang/invoke/VarHandle" ∧ (parseMethodDescriptor yX7_howManyOldHave.desc).map (fun d => d.parameters.length) = some 3 := by decide +kernel
theorem td_X7_keepsOutsiders : yX7_keepsOutsiders.cls = RX7 ∧ yX7_keepsOutsiders.cls ≠ "java/lang/invoke/MethodHandle" ∧ yX7_keepsOutsiders.cls ≠ "java/lang/invoke/VarHandle" ∧ (parseMethodDescriptor yX7_keepsOutsiders.desc).map (fun d => d.parameters.length) = some 1 := by decide +kernel
theorem td_X7_leastMissing : yX7_leastMissing.cls = RX7 ∧ yX7_leastMissing.cls ≠ "java/lang/invoke/MethodHandle" ∧ yX7_leastMissing.cls ≠ "java/lang/invoke/VarHandle" ∧ (parseMethodDescriptor yX7_leastMissing.desc).map (fun d => d.parameters.length) = some 2 := by decide +kernel
theorem td_X7_standIn : yX7_standIn.cls = RX7 ∧ yX7_standIn.cls ≠ "java/lang/invoke/MethodHandle" ∧ yX7_standIn.cls ≠ "java/lang/invoke/VarHandle" ∧ (parseMethodDescriptor yX7_standIn.desc).map (fun d => d.parameters.length) = some 2 := by decide +kernel
theorem td_X7_twinOf : yX7_twinOf.cls = RX7 ∧ yX7_twinOf.cls ≠ "java/lang/invoke/MethodHandle" ∧ yX7_twinOf.cls ≠ "java/lang/invoke/VarHandle" ∧ (parseMethodDescriptor yX7_twinOf.desc).map (fun d => d.parameters.length) = some 1 := by decide +kernel
theorem td_X8_addOwning : yX8_addOwning.cls = RX8 ∧ yX8_addOwning.cls ≠ "java/lang/invoke/MethodHandle" ∧ yX8_addOwning.cls ≠ "java/lang/invoke/VarHandle" ∧ (parseMethodDescriptor yX8_addOwning.desc).map (fun d => d.parameters.length) = some 3 := by decide +kernel
theorem td_X8_leastStep : yX8_leastStep.cls = RX8 ∧ yX8_leastStep.cls ≠ "java/lang/invoke/MethodHandle" ∧ yX8_leastStep.cls ≠ "java/lang/invoke/VarHandle" ∧ (parseMethodDescriptor yX8_leastStep.desc).map (fun d => d.parameters.length) = some 3 := by decide +kernel
theorem td_X8_noteSteps : yX8_noteSteps.cls = RX8 ∧ yX8_noteSteps.cls ≠ "java/lang/invoke/MethodHandle" ∧ yX8_noteSteps.cls ≠ "java/lang/invoke/VarHandle" ∧ (parseMethodDescriptor yX8_noteSteps.desc).map (fun d => d.parameters.length) = some 2 := by decide +kernel
theorem td_X8_spread : yX8_spread.cls = RX8 ∧ yX8_spread.cls ≠ "java/lang/invoke/MethodHandle" ∧ yX8_spread.cls ≠ "java/lang/invoke/VarHandle" ∧ (parseMethodDescriptor yX8_spread.desc).map (fun d => d.parameters.length) = some 2 := by decide +kernel
theorem td_X8_stepsTo : yX8_stepsTo.cls = RX8 ∧ yX8_stepsTo.cls ≠ "java/lang/invoke/MethodHandle" ∧ yX8_stepsTo.cls ≠ "java/lang/invoke/VarHandle" ∧ (parseMethodDescriptor yX8_stepsTo.desc).map (fun d => d.parameters.length) = some 1 := by decide +kernel
theorem tg_X0_29 : GoodIn tl_T (wsV RX0 29 RX0 yX0_demand (tl_w yX0_demand cX0_demand 5 none)) := tl_gV tw_847 tw_849 tw_21 tw_67 tw_850
theorem tg_X0_33 : GoodIn tl_T (wsV RX0 33 RX0 yX0_matchPair (tl_w yX0_matchPair cX0_matchPair 5 (some .boolean))) := tl_gV tw_852 tw_854 tw_22 tw_67 tw_855
theorem tg_X0_37 : GoodIn tl_T (wsV RX0 37 RX1 yX1_kindOf (tl_w yX1_kindOf cX1_kindOf 2 (some .int))) := tl_gV tw_856 tw_481 tw_482 tw_68 tw_483
theorem tg_X0_43 : GoodIn tl_T (wsV RX0 43 RX5 yX5_howMany (tl_w yX5_howMany cX5_howMany 1 (some .int))) := tl_gV tw_857 tw_383 tw_384 tw_61 tw_385
theorem tg_X0_49 : GoodIn tl_T (wsV RX0 49 RX5 yX5_hasRule (tl_w yX5_hasRule cX5_hasRule 3 (some .boolean))) := tl_gV tw_858 tw_570 tw_571 tw_61 tw_572
theorem tg_X0_53 : GoodIn tl_T (wsV RX0 53 RX1 yX1_has (tl_w yX1_has cX1_has 1 (some (.object "TwinLinks$Rows")))) := tl_gV tw_859 tw_535 tw_536 tw_68 tw_537
theorem tg_X0_57 : GoodIn tl_T (wsV RX0 57 RX0 yX0_matchRows (tl_w yX0_matchRows cX0_matchRows 7 (some .boolean))) := tl_gV tw_860 tw_862 tw_23 tw_67 tw_863
theorem tg_X0_61 : GoodIn tl_T (wsV RX0 61 RX3 yX3_lengthOf (tl_w yX3_lengthOf cX3_lengthOf 3 (some .int))) := tl_gV tw_864 tw_516 tw_517 tw_69 tw_518
theorem tg_X0_67 : GoodIn tl_T (wsV RX0 67 RX3 yX3_get (tl_w yX3_get cX3_get 4 (some .int))) := tl_gV tw_865 tw_670 tw_671 tw_69 tw_672
theorem tg_X0_71 : GoodIn tl_T (va_wsS RX0 71 yX4_isSlot (tl_w yX4_isSlot cX4_isSlot 1 (some .boolean))) := tl_gS tw_851 tw_485 tw_64 tw_486
theorem tg_X1_35 : GoodIn tl_T (wsV RX1 35 RX1 yX1_slotBearing (tl_w yX1_slotBearing cX1_slotBearing 3 (some .int))) := tl_gV tw_422 tw_424 tw_1 tw_68 tw_425
theorem tg_X1_39 : GoodIn tl_T (va_wsS RX1 39 yX4_isSlot (tl_w yX4_isSlot cX4_isSlot 1 (some .boolean))) := tl_gS tw_484 tw_485 tw_64 tw_486
theorem tg_X1_45 : GoodIn tl_T (wsV RX1 45 RX1 yX1_numberOf (tl_w yX1_numberOf cX1_numberOf 2 (some .int))) := tl_gV tw_753 tw_631 tw_632 tw_68 tw_633
theorem tg_X1_48 : GoodIn tl_T (wsV RX1 48 RX1 yX1_separateAll (tl_w yX1_separateAll cX1_separateAll 4 none)) := tl_gV tw_754 tw_756 tw_14 tw_68 tw_757
theorem tg_X1_52 : GoodIn tl_T (wsV RX1 52 RX3 yX3_holds (tl_w yX3_holds cX3_holds 6 (some .boolean))) := tl_gV tw_511 tw_512 tw_513 tw_69 tw_514
theorem tg_X1_56 : GoodIn tl_T (wsV RX1 56 RX3 yX3_insert (tl_w yX3_insert cX3_insert 8 none)) := tl_gV tw_682 tw_565 tw_566 tw_69 tw_567
theorem tg_X1_60 : GoodIn tl_T (wsV RX1 60 RX3 yX3_append (tl_w yX3_append cX3_append 4 none)) := tl_gV tw_683 tw_684 tw_685 tw_69 tw_686
theorem tg_X1_64 : GoodIn tl_T (wsV RX1 64 RX3 yX3_remove (tl_w yX3_remove cX3_remove 9 (some .boolean))) := tl_gV tw_677 tw_556 tw_557 tw_69 tw_558
theorem tg_X1_77 : GoodIn tl_T (wsV RX1 77 RX3 yX3_lengthOf (tl_w yX3_lengthOf cX3_lengthOf 3 (some .int))) := tl_gV tw_758 tw_516 tw_517 tw_69 tw_518
theorem tg_X1_81 : GoodIn tl_T (wsV RX1 81 RX3 yX3_get (tl_w yX3_get cX3_get 4 (some .int))) := tl_gV tw_759 tw_670 tw_671 tw_69 tw_672
theorem tg_X1_85 : GoodIn tl_T (wsV RX1 85 RX1 yX1_separate (tl_w yX1_separate cX1_separate 4 (some .boolean))) := tl_gV tw_760 tw_674 tw_675 tw_68 tw_676
theorem tg_X2_100 : GoodIn tl_T (wsV RX2 100 RX1 yX1_remove (tl_w yX1_remove cX1_remove 3 none)) := tl_gV tw_749 tw_750 tw_751 tw_68 tw_752
theorem tg_X2_103 : GoodIn tl_T (wsV RX2 103 RX1 yX1_had (tl_w yX1_had cX1_had 1 (some (.object "TwinLinks$Rows")))) := tl_gV tw_716 tw_578 tw_579 tw_68 tw_580
theorem tg_X2_106 : GoodIn tl_T (wsV RX2 106 RX2 yX2_areOwnersGone (tl_w yX2_areOwnersGone cX2_areOwnersGone 2 (some .boolean))) := tl_gV tw_717 tw_719 tw_12 tw_65 tw_720
theorem tg_X2_110 : GoodIn tl_T (wsV RX2 110 RX8 yX8_stepsTo (tl_w yX8_stepsTo cX8_stepsTo 2 (some .int))) := tl_gV tw_740 tw_619 tw_620 tw_63 tw_621
theorem tg_X2_32 : GoodIn tl_T (wsV RX2 32 RX4 yX4_clear (tl_w yX4_clear cX4_clear 3 none)) := tl_gV tw_706 tw_586 tw_587 tw_64 tw_588
theorem tg_X2_35 : GoodIn tl_T (wsV RX2 35 RX4 yX4_add (tl_w yX4_add cX4_add 2 none)) := tl_gV tw_707 tw_591 tw_592 tw_64 tw_593
theorem tg_X2_39 : GoodIn tl_T (wsV RX2 39 RX4 yX4_length (tl_w yX4_length cX4_length 1 (some .int))) := tl_gV tw_708 tw_599 tw_600 tw_64 tw_601
theorem tg_X2_43 : GoodIn tl_T (wsV RX2 43 RX1 yX1_has (tl_w yX1_has cX1_has 1 (some (.object "TwinLinks$Rows")))) := tl_gV tw_709 tw_535 tw_536 tw_68 tw_537
theorem tg_X2_49 : GoodIn tl_T (wsV RX2 49 RX4 yX4_get (tl_w yX4_get cX4_get 2 (some .int))) := tl_gV tw_710 tw_603 tw_604 tw_64 tw_605
theorem tg_X2_53 : GoodIn tl_T (wsV RX2 53 RX8 yX8_addOwning (tl_w yX8_addOwning cX8_addOwning 5 none)) := tl_gV tw_711 tw_608 tw_609 tw_63 tw_610
theorem tg_X2_59 : GoodIn tl_T (wsV RX2 59 RX2 yX2_addThoseWithoutOwner (tl_w yX2_addThoseWithoutOwner cX2_addThoseWithoutOwner 3 none)) := tl_gV tw_712 tw_714 tw_11 tw_65 tw_715
theorem tg_X2_63 : GoodIn tl_T (wsV RX2 63 RX8 yX8_spread (tl_w yX8_spread cX8_spread 6 (some (.object "TwinLinks$Slots")))) := tl_gV tw_726 tw_582 tw_583 tw_63 tw_584
theorem tg_X2_67 : GoodIn tl_T (wsV RX2 67 RX4 yX4_holds (tl_w yX4_holds cX4_holds 2 (some .boolean))) := tl_gV tw_721 tw_623 tw_624 tw_64 tw_625
theorem tg_X2_71 : GoodIn tl_T (wsV RX2 71 RX2 yX2_leastBar (tl_w yX2_leastBar cX2_leastBar 9 (some .int))) := tl_gV tw_727 tw_728 tw_729 tw_65 tw_730
theorem tg_X2_75 : GoodIn tl_T (wsV RX2 75 RX2 yX2_isBefore (tl_w yX2_isBefore cX2_isBefore 6 (some .boolean))) := tl_gV tw_736 tw_738 tw_13 tw_65 tw_739
theorem tg_X2_79 : GoodIn tl_T (wsV RX2 79 RX5 yX5_howMany (tl_w yX5_howMany cX5_howMany 1 (some .int))) := tl_gV tw_731 tw_383 tw_384 tw_61 tw_385
theorem tg_X2_84 : GoodIn tl_T (wsV RX2 84 RX5 yX5_hasRule (tl_w yX5_hasRule cX5_hasRule 3 (some .boolean))) := tl_gV tw_732 tw_570 tw_571 tw_61 tw_572
theorem tg_X2_88 : GoodIn tl_T (wsV RX2 88 RX3 yX3_lengthOf (tl_w yX3_lengthOf cX3_lengthOf 3 (some .int))) := tl_gV tw_733 tw_516 tw_517 tw_69 tw_518
theorem tg_X2_94 : GoodIn tl_T (wsV RX2 94 RX3 yX3_get (tl_w yX3_get cX3_get 4 (some .int))) := tl_gV tw_734 tw_670 tw_671 tw_69 tw_672
theorem tg_X2_97 : GoodIn tl_T (wsV RX2 97 RX1 yX1_numberOf (tl_w yX1_numberOf cX1_numberOf 2 (some .int))) := tl_gV tw_735 tw_631 tw_632 tw_68 tw_633
theorem tg_X3_19 : GoodIn tl_T (va_wsS RX3 19 yX3_isRow (tl_w yX3_isRow cX3_isRow 2 (some .boolean))) := tl_gS tw_519 tw_520 tw_69 tw_521
theorem tg_X3_23 : GoodIn tl_T (va_wsS RX3 23 yX3_rowOf (tl_w yX3_rowOf cX3_rowOf 2 (some .int))) := tl_gS tw_522 tw_523 tw_69 tw_524
theorem tg_X3_27 : GoodIn tl_T (wsV RX3 27 RX3 yX3_lengthOf (tl_w yX3_lengthOf cX3_lengthOf 3 (some .int))) := tl_gV tw_515 tw_516 tw_517 tw_69 tw_518
theorem tg_X3_30 : GoodIn tl_T (wsV RX3 30 RX3 yX3_read (tl_w yX3_read cX3_read 6 (some .int))) := tl_gV tw_525 tw_527 tw_5 tw_69 tw_528
theorem tg_X3_33 : GoodIn tl_T (wsV RX3 33 RX4 yX4_add (tl_w yX4_add cX4_add 2 none)) := tl_gV tw_617 tw_591 tw_592 tw_64 tw_593
theorem tg_X3_39 : GoodIn tl_T (va_wsS RX3 39 yX4_isSlot (tl_w yX4_isSlot cX4_isSlot 1 (some .boolean))) := tl_gS tw_568 tw_485 tw_64 tw_486
theorem tg_X3_43 : GoodIn tl_T (wsV RX3 43 RX3 yX3_write (tl_w yX3_write cX3_write 8 none)) := tl_gV tw_559 tw_561 tw_7 tw_69 tw_562
theorem tg_X3_47 : GoodIn tl_T (wsV RX3 47 RX3 yX3_insert (tl_w yX3_insert cX3_insert 8 none)) := tl_gV tw_687 tw_565 tw_566 tw_69 tw_567
theorem tg_X4_23 : GoodIn tl_T (va_wsS RX4 23 yX4_isSlot (tl_w yX4_isSlot cX4_isSlot 1 (some .boolean))) := tl_gS tw_589 tw_485 tw_64 tw_486
theorem tg_X5_28 : GoodIn tl_T (wsV RX5 28 RX5 yX5_knows (tl_w yX5_knows cX5_knows 2 (some .boolean))) := tl_gV tw_475 tw_442 tw_443 tw_61 tw_444
theorem tg_X7_102 : GoodIn tl_T (wsV RX7 102 RX7 yX7_copyHad (tl_w yX7_copyHad cX7_copyHad 8 none)) := tl_gV tw_827 tw_829 tw_20 tw_66 tw_830
theorem tg_X7_105 : GoodIn tl_T (wsV RX7 105 RX1 yX1_numberOf (tl_w yX1_numberOf cX1_numberOf 2 (some .int))) := tl_gV tw_782 tw_631 tw_632 tw_68 tw_633
theorem tg_X7_108 : GoodIn tl_T (wsV RX7 108 RX5 yX5_hasForm (tl_w yX5_hasForm cX5_hasForm 3 (some .boolean))) := tl_gV tw_794 tw_664 tw_665 tw_61 tw_666
theorem tg_X7_112 : GoodIn tl_T (wsV RX7 112 RX5 yX5_hasRule (tl_w yX5_hasRule cX5_hasRule 3 (some .boolean))) := tl_gV tw_795 tw_570 tw_571 tw_61 tw_572
theorem tg_X7_115 : GoodIn tl_T (wsV RX7 115 RX3 yX3_get (tl_w yX3_get cX3_get 4 (some .int))) := tl_gV tw_802 tw_670 tw_671 tw_69 tw_672
theorem tg_X7_118 : GoodIn tl_T (wsV RX7 118 RX7 yX7_twinOf (tl_w yX7_twinOf cX7_twinOf 2 (some .int))) := tl_gV tw_819 tw_820 tw_821 tw_66 tw_822
theorem tg_X7_121 : GoodIn tl_T (wsV RX7 121 RX7 yX7_standIn (tl_w yX7_standIn cX7_standIn 3 (some .int))) := tl_gV tw_815 tw_817 tw_19 tw_66 tw_818
theorem tg_X7_124 : GoodIn tl_T (wsV RX7 124 RX1 yX1_joinHas (tl_w yX1_joinHas cX1_joinHas 4 none)) := tl_gV tw_823 tw_824 tw_825 tw_68 tw_826
theorem tg_X7_128 : GoodIn tl_T (wsV RX7 128 RX1 yX1_joinHad (tl_w yX1_joinHad cX1_joinHad 4 none)) := tl_gV tw_831 tw_832 tw_833 tw_68 tw_834
theorem tg_X7_30 : GoodIn tl_T (wsV RX7 30 RX1 yX1_has (tl_w yX1_has cX1_has 1 (some (.object "TwinLinks$Rows")))) := tl_gV tw_772 tw_535 tw_536 tw_68 tw_537
theorem tg_X7_36 : GoodIn tl_T (wsV RX7 36 RX8 yX8_spread (tl_w yX8_spread cX8_spread 6 (some (.object "TwinLinks$Slots")))) := tl_gV tw_773 tw_582 tw_583 tw_63 tw_584
theorem tg_X7_42 : GoodIn tl_T (wsV RX7 42 RX4 yX4_clear (tl_w yX4_clear cX4_clear 3 none)) := tl_gV tw_774 tw_586 tw_587 tw_64 tw_588
theorem tg_X7_45 : GoodIn tl_T (wsV RX7 45 RX4 yX4_length (tl_w yX4_length cX4_length 1 (some .int))) := tl_gV tw_775 tw_599 tw_600 tw_64 tw_601
theorem tg_X7_49 : GoodIn tl_T (wsV RX7 49 RX7 yX7_leastMissing (tl_w yX7_leastMissing cX7_leastMissing 7 (some .int))) := tl_gV tw_776 tw_778 tw_15 tw_66 tw_779
theorem tg_X7_53 : GoodIn tl_T (wsV RX7 53 RX4 yX4_add (tl_w yX4_add cX4_add 2 none)) := tl_gV tw_783 tw_591 tw_592 tw_64 tw_593
theorem tg_X7_57 : GoodIn tl_T (wsV RX7 57 RX1 yX1_objects (tl_w yX1_objects cX1_objects 1 (some .int))) := tl_gV tw_788 tw_414 tw_415 tw_68 tw_416
theorem tg_X7_60 : GoodIn tl_T (wsV RX7 60 RX5 yX5_howMany (tl_w yX5_howMany cX5_howMany 1 (some .int))) := tl_gV tw_789 tw_383 tw_384 tw_61 tw_385
theorem tg_X7_65 : GoodIn tl_T (wsV RX7 65 RX7 yX7_keepsOutsiders (tl_w yX7_keepsOutsiders cX7_keepsOutsiders 2 (some .boolean))) := tl_gV tw_790 tw_792 tw_16 tw_66 tw_793
theorem tg_X7_69 : GoodIn tl_T (wsV RX7 69 RX4 yX4_holds (tl_w yX4_holds cX4_holds 2 (some .boolean))) := tl_gV tw_781 tw_623 tw_624 tw_64 tw_625
theorem tg_X7_72 : GoodIn tl_T (wsV RX7 72 RX7 yX7_howManyOldHave (tl_w yX7_howManyOldHave cX7_howManyOldHave 6 (some .int))) := tl_gV tw_796 tw_798 tw_17 tw_66 tw_799
theorem tg_X7_76 : GoodIn tl_T (wsV RX7 76 RX1 yX1_had (tl_w yX1_had cX1_had 1 (some (.object "TwinLinks$Rows")))) := tl_gV tw_800 tw_578 tw_579 tw_68 tw_580
theorem tg_X7_79 : GoodIn tl_T (wsV RX7 79 RX3 yX3_lengthOf (tl_w yX3_lengthOf cX3_lengthOf 3 (some .int))) := tl_gV tw_801 tw_516 tw_517 tw_69 tw_518
theorem tg_X7_85 : GoodIn tl_T (wsV RX7 85 RX4 yX4_get (tl_w yX4_get cX4_get 2 (some .int))) := tl_gV tw_780 tw_603 tw_604 tw_64 tw_605
theorem tg_X7_89 : GoodIn tl_T (va_wsS RX7 89 yX4_isSlot (tl_w yX4_isSlot cX4_isSlot 1 (some .boolean))) := tl_gS tw_808 tw_485 tw_64 tw_486
theorem tg_X7_92 : GoodIn tl_T (wsV RX7 92 RX1 yX1_kindOf (tl_w yX1_kindOf cX1_kindOf 2 (some .int))) := tl_gV tw_809 tw_481 tw_482 tw_68 tw_483
theorem tg_X7_95 : GoodIn tl_T (wsV RX7 95 RX1 yX1_admit (tl_w yX1_admit cX1_admit 4 (some .int))) := tl_gV tw_810 tw_419 tw_420 tw_68 tw_421
theorem tg_X7_98 : GoodIn tl_T (wsV RX7 98 RX7 yX7_copyHas (tl_w yX7_copyHas cX7_copyHas 7 none)) := tl_gV tw_811 tw_813 tw_18 tw_66 tw_814
theorem tg_X8_29 : GoodIn tl_T (wsV RX8 29 RX5 yX5_howMany (tl_w yX5_howMany cX5_howMany 1 (some .int))) := tl_gV tw_611 tw_383 tw_384 tw_61 tw_385
theorem tg_X8_35 : GoodIn tl_T (wsV RX8 35 RX5 yX5_hasRule (tl_w yX5_hasRule cX5_hasRule 3 (some .boolean))) := tl_gV tw_612 tw_570 tw_571 tw_61 tw_572
theorem tg_X8_39 : GoodIn tl_T (wsV RX8 39 RX3 yX3_addTo (tl_w yX3_addTo cX3_addTo 6 none)) := tl_gV tw_613 tw_614 tw_615 tw_69 tw_616
theorem tg_X8_45 : GoodIn tl_T (wsV RX8 45 RX4 yX4_clear (tl_w yX4_clear cX4_clear 3 none)) := tl_gV tw_585 tw_586 tw_587 tw_64 tw_588
theorem tg_X8_48 : GoodIn tl_T (wsV RX8 48 RX8 yX8_addOwning (tl_w yX8_addOwning cX8_addOwning 5 none)) := tl_gV tw_607 tw_608 tw_609 tw_63 tw_610
theorem tg_X8_52 : GoodIn tl_T (wsV RX8 52 RX4 yX4_length (tl_w yX4_length cX4_length 1 (some .int))) := tl_gV tw_598 tw_599 tw_600 tw_64 tw_601
theorem tg_X8_55 : GoodIn tl_T (wsV RX8 55 RX1 yX1_has (tl_w yX1_has cX1_has 1 (some (.object "TwinLinks$Rows")))) := tl_gV tw_642 tw_535 tw_536 tw_68 tw_537
theorem tg_X8_61 : GoodIn tl_T (wsV RX8 61 RX1 yX1_had (tl_w yX1_had cX1_had 1 (some (.object "TwinLinks$Rows")))) := tl_gV tw_577 tw_578 tw_579 tw_68 tw_580
theorem tg_X8_64 : GoodIn tl_T (wsV RX8 64 RX8 yX8_spread (tl_w yX8_spread cX8_spread 6 (some (.object "TwinLinks$Slots")))) := tl_gV tw_581 tw_582 tw_583 tw_63 tw_584
theorem tg_X8_68 : GoodIn tl_T (wsV RX8 68 RX4 yX4_add (tl_w yX4_add cX4_add 2 none)) := tl_gV tw_590 tw_591 tw_592 tw_64 tw_593
theorem tg_X8_72 : GoodIn tl_T (wsV RX8 72 RX4 yX4_get (tl_w yX4_get cX4_get 2 (some .int))) := tl_gV tw_602 tw_603 tw_604 tw_64 tw_605
theorem tg_X8_76 : GoodIn tl_T (wsV RX8 76 RX8 yX8_noteSteps (tl_w yX8_noteSteps cX8_noteSteps 5 none)) := tl_gV tw_594 tw_596 tw_8 tw_63 tw_597
theorem tg_X8_80 : GoodIn tl_T (wsV RX8 80 RX8 yX8_stepsTo (tl_w yX8_stepsTo cX8_stepsTo 2 (some .int))) := tl_gV tw_618 tw_619 tw_620 tw_63 tw_621
theorem tg_X8_83 : GoodIn tl_T (wsV RX8 83 RX4 yX4_holds (tl_w yX4_holds cX4_holds 2 (some .boolean))) := tl_gV tw_622 tw_623 tw_624 tw_64 tw_625
theorem tg_X8_87 : GoodIn tl_T (wsV RX8 87 RX6 yX6_clear (tl_w yX6_clear cX6_clear 1 none)) := tl_gV tw_626 tw_627 tw_628 tw_62 tw_629
theorem tg_X8_90 : GoodIn tl_T (wsV RX8 90 RX1 yX1_numberOf (tl_w yX1_numberOf cX1_numberOf 2 (some .int))) := tl_gV tw_630 tw_631 tw_632 tw_68 tw_633
theorem tg_X8_93 : GoodIn tl_T (wsV RX8 93 RX6 yX6_add (tl_w yX6_add cX6_add 2 none)) := tl_gV tw_634 tw_635 tw_636 tw_62 tw_637
theorem tg_X8_94 : GoodIn tl_T (wsV RX8 94 RX8 yX8_leastStep (tl_w yX8_leastStep cX8_leastStep 8 (some .int))) := tl_gV tw_638 tw_640 tw_9 tw_63 tw_641
theorem tg_X8_98 : GoodIn tl_T (va_wsS RX8 98 yX4_isSlot (tl_w yX4_isSlot cX4_isSlot 1 (some .boolean))) := tl_gS tw_606 tw_485 tw_64 tw_486
theorem in_X0 : ∀ w ∈ wsX00, w ∈ tl_T := by decide +kernel
theorem in_X1 : ∀ w ∈ wsX10, w ∈ tl_T := by decide +kernel
theorem in_X2 : ∀ w ∈ wsX20, w ∈ tl_T := by decide +kernel
theorem in_X3 : ∀ w ∈ wsX30, w ∈ tl_T := by decide +kernel
theorem in_X4 : ∀ w ∈ wsX40, w ∈ tl_T := by decide +kernel
theorem in_X5 : ∀ w ∈ wsX50, w ∈ tl_T := by decide +kernel
theorem in_X6 : ∀ w ∈ wsX60, w ∈ tl_T := by decide +kernel
theorem in_X7 : ∀ w ∈ wsX70, w ∈ tl_T := by decide +kernel
theorem in_X8 : ∀ w ∈ wsX80, w ∈ tl_T := by decide +kernel
