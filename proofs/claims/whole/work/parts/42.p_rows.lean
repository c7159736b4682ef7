/-! what the functions of Rows say, in lists -/
theorem pr_b {α β : Type} (a : α) (f : α → Option β) : (some a).bind f = f a := rfl
def pr_wn (x : Int64) : Nat := x.toBitVec.toNat
theorem pr_wn_lt (x : Int64) : pr_wn x < 2 ^ 64 := x.toBitVec.isLt
theorem pr_wn_lN (x : Int64) : lN (pr_wn x) = x := wb_inj (by rw [wb_tb]; simp [pr_wn])
theorem pr_wn_of {n : Nat} (h : n < 2 ^ 64) : pr_wn (lN n) = n := wb_tn h
def pr_rd (w : Nat → Int64) (row i : Nat) : Nat := pb_by (pr_wn (w (row * 2 + i / 6))) (i % 6)
def pr_wr (w : Nat → Int64) (row i v : Nat) : Nat → Int64 := va_up w (row * 2 + i / 6) (lN (pb_pu (pr_wn (w (row * 2 + i / 6))) (i % 6) v))
theorem pr_rdwr {w : Nat → Int64} {row i v row2 i2 : Nat} (hi : i < 12) (hi2 : i2 < 12) (hv : v < 256) : pr_rd (pr_wr w row i v) row2 i2 = if row2 = row ∧ i2 = i then v else pr_rd w row2 i2 := by
  have h6 : i % 6 < 6 := Nat.mod_lt _ (by decide)
  have h62 : i2 % 6 < 6 := Nat.mod_lt _ (by decide)
  unfold pr_rd pr_wr
  by_cases hp : row2 * 2 + i2 / 6 = row * 2 + i / 6
  · rw [hp, va_up_self, pr_wn_of (pb_pu_lt (pr_wn_lt _) h6 hv)]
    by_cases hq : row2 = row ∧ i2 = i
    · rw [if_pos hq, hq.2, pb_same h6 hv]
    · rw [if_neg hq, pb_other h6 h62 hv (by omega)]
  · rw [va_up_ne _ _ hp, if_neg (by rintro ⟨rfl, rfl⟩; exact hp rfl)]
theorem pr_read {w : Nat → Int64} {row i : Nat} (hr : row < 1000) (hi : i < 12) : fX3_read w (row : Int) (i : Int) = some ((pr_rd w row i : Nat) : Int) := by
  have e1 : ((row : Int) * (2 : Int) + (i : Int) / (6 : Int)).toNat = row * 2 + i / 6 := by omega
  have e2 : (i : Int) % (6 : Int) * (8 : Int) = ((8 * (i % 6) : Nat) : Int) := by omega
  unfold fX3_read
  rw [tl_gt ⟨by omega, by omega, by decide, by decide⟩, tl_gt ⟨by omega, by omega⟩, tl_gt ⟨by omega, by omega, by decide, by decide⟩, e1, e2]
  rw [← pr_wn_lN (w (row * 2 + i / 6)), pb_read (pr_wn_lt _) (Nat.mod_lt _ (by decide))]
  rfl
theorem pr_write {w : Nat → Int64} {row i v : Nat} (hr : row < 1000) (hi : i < 12) (hv : v < 256) : fX3_write w (row : Int) (i : Int) (v : Int) = some (pr_wr w row i v) := by
  have e1 : ((row : Int) * (2 : Int) + (i : Int) / (6 : Int)).toNat = row * 2 + i / 6 := by omega
  have e2 : (i : Int) % (6 : Int) * (8 : Int) = ((8 * (i % 6) : Nat) : Int) := by omega
  unfold fX3_write
  rw [tl_gt ⟨by omega, by omega, by decide, by decide⟩, tl_gt ⟨by omega, by omega, by decide, by decide⟩, tl_gt ⟨by omega, by omega⟩, tl_gt ⟨by omega, by omega⟩, e1, e2]
  have h := pb_write (n := pr_wn (w (row * 2 + i / 6))) (k := i % 6) (v := v) (pr_wn_lt _) (Nat.mod_lt _ (by decide)) hv
  rw [pr_wn_lN] at h
  rw [h]
  rfl
/-- the rows of a side: a list for each LINK and slot -/
def pr_R (Rw : Nat → Nat → List Nat) (len : Nat → Int) (w : Nat → Int64) : Prop := ∀ l s : Nat, l < 10 → s < 100 → len (l * 100 + s) = ((Rw l s).length : Int) ∧ (Rw l s).length ≤ 12 ∧ (∀ (i : Nat) (h : i < (Rw l s).length), pr_rd w (l * 100 + s) i = (Rw l s)[i]) ∧ ∀ x ∈ Rw l s, x < 100
theorem pr_isRow {l s : Nat} (hl : l < 10) (hs : s < 100) : fX3_isRow (l : Int) (s : Int) = some 1 := by
  unfold fX3_isRow
  rw [tl_gt ⟨by omega, by omega⟩, if_neg (by omega), tl_gt ⟨⟨by omega, by omega⟩, by decide⟩, if_pos (by omega), tl_gt ⟨by omega, by omega⟩, if_neg (by omega), tl_gt ⟨⟨by omega, by omega⟩, by decide⟩, if_pos (by omega)]
theorem pr_rowOf (l s : Nat) : fX3_rowOf (l : Int) (s : Int) = some ((l * 100 + s : Nat) : Int) := by
  unfold fX3_rowOf
  congr 1
theorem pr_lengthOf {Rw : Nat → Nat → List Nat} {len : Nat → Int} {w : Nat → Int64} (h : pr_R Rw len w) {l s : Nat} (hl : l < 10) (hs : s < 100) : fX3_lengthOf len (l : Int) (s : Int) = some ((Rw l s).length : Int) := by
  unfold fX3_lengthOf
  rw [pr_isRow hl hs]
  rw [pr_b]
  rw [tl_gt (by decide), if_neg (by decide), pr_rowOf]
  rw [pr_b]
  rw [tl_gt ⟨by omega, by omega⟩, Int.toNat_natCast, (h l s hl hs).1]
theorem pr_get {Rw : Nat → Nat → List Nat} {len : Nat → Int} {w : Nat → Int64} (h : pr_R Rw len w) {l s i : Nat} (hl : l < 10) (hs : s < 100) (hi : i < (Rw l s).length) : fX3_get len w (l : Int) (s : Int) (i : Int) = some (((Rw l s)[i] : Nat) : Int) := by
  have h12 := (h l s hl hs).2.1
  unfold fX3_get
  rw [tl_gt ⟨by omega, by omega⟩, if_neg (by omega), pr_lengthOf h hl hs]
  show tl_gd (tl_R (i : Int) ∧ tl_R ((Rw l s).length : Int)) _ = _
  rw [tl_gt ⟨⟨by omega, by omega⟩, ⟨by omega, by omega⟩⟩, if_pos (by omega), pr_rowOf]
  show (fX3_read w ((l * 100 + s : Nat) : Int) (i : Int)).bind _ = _
  rw [pr_read (by omega) (by omega), (h l s hl hs).2.2.1 i hi]
  rfl
theorem pr_holds_L {xs : List Nat} {w : Nat → Int64} {l s o : Nat} (hl : l < 10) (hs : s < 100) (ho : o < 2147483647) (h12 : xs.length ≤ 12) (hx : ∀ x ∈ xs, x < 100) (hr : ∀ (i : Nat) (h : i < xs.length), pr_rd w (l * 100 + s) i = xs[i]) :
    ∀ (n i : Nat), i ≤ xs.length → xs.length + 1 ≤ i + n → fX3_holds_L1 w (l : Int) (s : Int) (o : Int) (xs.length : Int) n (i : Int) = some (if o ∈ xs.drop i then .inr 1 else .inl ()) := by
  intro n
  induction n with
  | zero => intro i h1 h2; omega
  | succ n ih =>
    intro i hi hn
    rw [fX3_holds_L1, tl_gt ⟨⟨by omega, by omega⟩, ⟨by omega, by omega⟩⟩]
    by_cases hq : i < xs.length
    · have hm := hx _ (List.getElem_mem hq)
      rw [if_pos (by omega), pr_rowOf]
      show (fX3_read w ((l * 100 + s : Nat) : Int) (i : Int)).bind _ = _
      rw [pr_read (by omega) (by omega), hr i hq]
      show tl_gd (tl_R ((xs[i] : Nat) : Int) ∧ tl_R (o : Int)) _ = _
      rw [tl_gt ⟨⟨by omega, by omega⟩, ⟨by omega, by omega⟩⟩, List.drop_eq_getElem_cons hq]
      by_cases he : xs[i] = o
      · rw [if_pos (by rw [he]), if_pos (by rw [he]; exact List.mem_cons_self)]
      · rw [if_neg (by omega)]
        have h3 := ih (i + 1) hq (by omega)
        rw [show ((i + 1 : Nat) : Int) = (i : Int) + 1 by omega] at h3
        rw [h3]
        by_cases hm2 : o ∈ xs.drop (i + 1)
        · rw [if_pos hm2, if_pos (List.mem_cons_of_mem _ hm2)]
        · rw [if_neg hm2, if_neg (fun z => (List.mem_cons.mp z).elim (fun z => he z.symm) hm2)]
    · rw [if_neg (by omega), List.drop_eq_nil_of_le (by omega), if_neg (by simp)]
theorem pr_holds {Rw : Nat → Nat → List Nat} {len : Nat → Int} {w : Nat → Int64} (h : pr_R Rw len w) {l s o : Nat} (hl : l < 10) (hs : s < 100) (ho : o < 100) : fX3_holds len w (l : Int) (s : Int) (o : Int) = some (if o ∈ Rw l s then 1 else 0) := by
  obtain ⟨h1, h2, h3, h4⟩ := h l s hl hs
  unfold fX3_holds
  rw [pr_lengthOf h hl hs]
  show (fX3_holds_L1 w (l : Int) (s : Int) (o : Int) ((Rw l s).length : Int) tl_N (0 : Int)).bind _ = _
  have h5 := pr_holds_L (o := o) hl hs (by omega) h2 h4 h3 tl_N 0 (Nat.zero_le _) (by unfold tl_N; omega)
  rw [show ((0 : Nat) : Int) = (0 : Int) from rfl, List.drop_zero] at h5
  rw [h5]
  by_cases hm : o ∈ Rw l s
  · rw [if_pos hm, if_pos hm]
    rfl
  · rw [if_neg hm, if_neg hm]
    rfl
/-- slots added one after another, each once -/
def pr_addAll (S : List Nat) : List Nat → List Nat
  | [] => S
  | x :: xs => pr_addAll (if x ∈ S then S else S ++ [x]) xs
theorem pr_addTo_L {xs : List Nat} {w : Nat → Int64} {l s : Nat} (hl : l < 10) (hs : s < 100) (h12 : xs.length ≤ 12) (hx : ∀ x ∈ xs, x < 100) (hr : ∀ (i : Nat) (h : i < xs.length), pr_rd w (l * 100 + s) i = xs[i]) :
    ∀ (n i : Nat) (S : List Nat) (sl : Int) (ins lst : Nat → Int), i ≤ xs.length → xs.length + 1 ≤ i + n → ps_S S sl ins lst → ∃ (sl' : Int) (ins' lst' : Nat → Int), fX3_addTo_L1 w (l : Int) (s : Int) (xs.length : Int) n (i : Int) sl ins lst = some (sl', ins', lst') ∧ ps_S (pr_addAll S (xs.drop i)) sl' ins' lst' := by
  intro n
  induction n with
  | zero => intro i S sl ins lst h1 h2; omega
  | succ n ih =>
    intro i S sl ins lst hi hn hS
    rw [fX3_addTo_L1, tl_gt ⟨⟨by omega, by omega⟩, ⟨by omega, by omega⟩⟩]
    by_cases hq : i < xs.length
    · have hm := hx _ (List.getElem_mem hq)
      rw [if_pos (by omega), pr_rowOf]
      show ∃ (sl' : Int) (ins' lst' : Nat → Int), (fX3_read w ((l * 100 + s : Nat) : Int) (i : Int)).bind _ = _ ∧ _
      rw [pr_read (by omega) (by omega), hr i hq, List.drop_eq_getElem_cons hq]
      obtain ⟨ins2, lst2, sl2, h1, h2⟩ := ps_add hS hm
      show ∃ (sl' : Int) (ins' lst' : Nat → Int), (fX4_add sl ins lst ((xs[i] : Nat) : Int)).bind _ = _ ∧ _
      rw [h1]
      obtain ⟨sl3, ins3, lst3, h3, h4⟩ := ih (i + 1) _ sl2 ins2 lst2 hq (by omega) h2
      rw [show ((i + 1 : Nat) : Int) = (i : Int) + 1 by omega] at h3
      exact ⟨sl3, ins3, lst3, h3, h4⟩
    · rw [if_neg (by omega), List.drop_eq_nil_of_le (by omega)]
      exact ⟨sl, ins, lst, rfl, hS⟩
theorem pr_addTo {Rw : Nat → Nat → List Nat} {len : Nat → Int} {w : Nat → Int64} (h : pr_R Rw len w) {l s : Nat} (hl : l < 10) (hs : s < 100) {S : List Nat} {sl : Int} {ins lst : Nat → Int} (hS : ps_S S sl ins lst) : ∃ (ins' lst' : Nat → Int) (sl' : Int), fX3_addTo len w sl ins lst (l : Int) (s : Int) = some (ins', lst', sl') ∧ ps_S (pr_addAll S (Rw l s)) sl' ins' lst' := by
  obtain ⟨h1, h2, h3, h4⟩ := h l s hl hs
  unfold fX3_addTo
  rw [pr_lengthOf h hl hs]
  obtain ⟨sl3, ins3, lst3, h5, h6⟩ := pr_addTo_L hl hs h2 h4 h3 tl_N 0 S sl ins lst (Nat.zero_le _) (by unfold tl_N; omega) hS
  rw [show ((0 : Nat) : Int) = (0 : Int) from rfl] at h5
  rw [List.drop_zero] at h6
  show ∃ (ins' lst' : Nat → Int) (sl' : Int), (fX3_addTo_L1 w (l : Int) (s : Int) ((Rw l s).length : Int) tl_N (0 : Int) sl ins lst).bind _ = _ ∧ _
  rw [h5]
  exact ⟨ins3, lst3, sl3, rfl, h6⟩
/-- one row changed -/
def pr_set (Rw : Nat → Nat → List Nat) (l s : Nat) (xs : List Nat) : Nat → Nat → List Nat := fun l2 s2 => if l2 = l ∧ s2 = s then xs else Rw l2 s2
theorem pr_row_inj {l s l2 s2 : Nat} (hs : s < 100) (hs2 : s2 < 100) (h : l2 * 100 + s2 = l * 100 + s) : l2 = l ∧ s2 = s := by omega
/-- a row's words written anew: all other rows stand -/
theorem pr_put {Rw : Nat → Nat → List Nat} {len : Nat → Int} {w w2 : Nat → Int64} (h : pr_R Rw len w) {l s : Nat} (hl : l < 10) (hs : s < 100) {xs : List Nat} (h12 : xs.length ≤ 12) (hx : ∀ x ∈ xs, x < 100) (hr : ∀ (i : Nat) (h : i < xs.length), pr_rd w2 (l * 100 + s) i = xs[i]) (ho : ∀ (row i : Nat), row ≠ l * 100 + s → i < 12 → pr_rd w2 row i = pr_rd w row i) :
    pr_R (pr_set Rw l s xs) (va_up len (l * 100 + s) (xs.length : Int)) w2 := by
  intro l2 s2 hl2 hs2
  obtain ⟨h1, h2, h3, h4⟩ := h l2 s2 hl2 hs2
  unfold pr_set
  by_cases hq : l2 = l ∧ s2 = s
  · obtain ⟨rfl, rfl⟩ := hq
    simp only [and_self, if_true]
    exact ⟨va_up_self _ _ _, h12, hr, hx⟩
  · have hne : l2 * 100 + s2 ≠ l * 100 + s := fun z => hq (pr_row_inj hs hs2 z)
    simp only [hq, if_false]
    exact ⟨by rw [va_up_ne _ _ hne]; exact h1, h2, fun i hi => by rw [ho _ i hne (by omega)]; exact h3 i hi, h4⟩
theorem pr_ins_get (xs : List Nat) (o : Nat) {i : Nat} (hi : i ≤ xs.length) (j : Nat) : (xs.take i ++ o :: xs.drop i)[j]? = if j < i then xs[j]? else if j = i then some o else xs[j - 1]? := by
  have hlen : (xs.take i).length = i := by rw [List.length_take]; omega
  by_cases h1 : j < i
  · rw [if_pos h1, List.getElem?_append_left (by omega), List.getElem?_take_of_lt h1]
  · rw [if_neg h1, List.getElem?_append_right (by omega), hlen]
    by_cases h2 : j = i
    · rw [if_pos h2, h2, Nat.sub_self]
      rfl
    · rw [if_neg h2, show j - i = (j - i - 1) + 1 by omega, List.getElem?_cons_succ, List.getElem?_drop]
      congr 1
      omega
theorem pr_at {xs : List Nat} {j v : Nat} (h : xs[j]? = some v) (hj : j < xs.length) : v = xs[j] := by
  rw [List.getElem?_eq_getElem hj] at h
  exact (Option.some.inj h).symm
theorem pr_ins_L {xs : List Nat} {w : Nat → Int64} {row i : Nat} (hrow : row < 1000) (h12 : xs.length < 12) (hx : ∀ x ∈ xs, x < 100) (hi : i ≤ xs.length) :
    ∀ (n k : Nat) (x : Nat → Int64), i ≤ k → k ≤ xs.length → k + 1 ≤ i + n →
      (∀ j, j < k → xs[j]? = some (pr_rd x row j)) → (∀ j, k < j → j ≤ xs.length → xs[j - 1]? = some (pr_rd x row j)) → (∀ row2 j, row2 ≠ row → j < 12 → pr_rd x row2 j = pr_rd w row2 j) →
      ∃ x', fX3_insert_L1 (i : Int) (row : Int) n (k : Int) x = some x' ∧ (∀ j, j < i → xs[j]? = some (pr_rd x' row j)) ∧ (∀ j, i < j → j ≤ xs.length → xs[j - 1]? = some (pr_rd x' row j)) ∧ (∀ row2 j, row2 ≠ row → j < 12 → pr_rd x' row2 j = pr_rd w row2 j) := by
  intro n
  induction n with
  | zero => intro k x h1 h2 h3; omega
  | succ n ih =>
    intro k x hk1 hk2 hn ha hb hc
    rw [fX3_insert_L1, tl_gt ⟨⟨by omega, by omega⟩, ⟨by omega, by omega⟩⟩]
    by_cases hq : i < k
    · rw [if_pos (by omega)]
      have e1 : (k : Int) - (1 : Int) = ((k - 1 : Nat) : Int) := by omega
      have hv : pr_rd x row (k - 1) < 100 := by
        have h5 := ha (k - 1) (by omega)
        exact hx _ (List.mem_of_getElem? h5)
      rw [e1, pr_read hrow (by omega)]
      show ∃ x', (fX3_write x (row : Int) (k : Int) ((pr_rd x row (k - 1) : Nat) : Int)).bind _ = _ ∧ _
      rw [pr_write hrow (by omega) (by omega)]
      have e2 : (k : Int) + (-1) = ((k - 1 : Nat) : Int) := by omega
      show ∃ x', fX3_insert_L1 (i : Int) (row : Int) n ((k : Int) + (-1)) (pr_wr x row k (pr_rd x row (k - 1))) = _ ∧ _
      rw [e2]
      refine ih (k - 1) _ (by omega) (by omega) (by omega) (fun j hj => ?_) (fun j hj1 hj2 => ?_) (fun row2 j hr hj => ?_)
      · rw [pr_rdwr (by omega) (by omega) (by omega), if_neg (by omega)]
        exact ha j (by omega)
      · rw [pr_rdwr (by omega) (by omega) (by omega)]
        by_cases hjk : j = k
        · rw [if_pos ⟨rfl, hjk⟩, hjk]
          exact ha (k - 1) (by omega)
        · rw [if_neg (by omega)]
          exact hb j (by omega) hj2
      · rw [pr_rdwr (by omega) hj (by omega), if_neg (by omega)]
        exact hc row2 j hr hj
    · rw [if_neg (by omega)]
      have hki : k = i := by omega
      subst hki
      exact ⟨x, rfl, ha, hb, hc⟩
/-- a slot put into a row at a place -/
theorem pr_insert {Rw : Nat → Nat → List Nat} {len : Nat → Int} {w : Nat → Int64} (h : pr_R Rw len w) {l s i o : Nat} (hl : l < 10) (hs : s < 100) (ho : o < 100) (hi : i ≤ (Rw l s).length) (h12 : (Rw l s).length < 12) :
    ∃ w', fX3_insert len w (l : Int) (s : Int) (i : Int) (o : Int) = some (va_up len (l * 100 + s) (((Rw l s).take i ++ o :: (Rw l s).drop i).length : Int), w') ∧ pr_R (pr_set Rw l s ((Rw l s).take i ++ o :: (Rw l s).drop i)) (va_up len (l * 100 + s) (((Rw l s).take i ++ o :: (Rw l s).drop i).length : Int)) w' := by
  obtain ⟨h1, h2, h3, h4⟩ := h l s hl hs
  have hln : ((Rw l s).take i ++ o :: (Rw l s).drop i).length = (Rw l s).length + 1 := by
    rw [List.length_append, List.length_take, List.length_cons, List.length_drop]
    omega
  obtain ⟨x', e, ha, hb, hc⟩ := pr_ins_L (w := w) (row := l * 100 + s) (by omega) h12 h4 hi tl_N (Rw l s).length w hi (Nat.le_refl _) (by unfold tl_N; omega)
    (fun j hj => by rw [h3 j hj]; exact List.getElem?_eq_getElem hj) (fun j hj1 hj2 => by omega) (fun _ _ _ _ => rfl)
  refine ⟨pr_wr x' (l * 100 + s) i o, ?_, ?_⟩
  · unfold fX3_insert
    rw [pr_isRow hl hs]
    rw [pr_b]
    rw [tl_gt (by decide), if_neg (by decide), ps_isSlot1 ho]
    rw [pr_b]
    rw [tl_gt (by decide), if_neg (by decide), pr_rowOf]
    rw [pr_b]
    rw [tl_gt ⟨by omega, by omega⟩, tl_gt ⟨by omega, by omega⟩, if_neg (by omega), Int.toNat_natCast, h1, tl_gt ⟨⟨by omega, by omega⟩, ⟨by omega, by omega⟩⟩, if_neg (by omega), tl_gt ⟨⟨by omega, by omega⟩, by decide⟩, if_pos (by omega), e]
    show (fX3_write x' ((l * 100 + s : Nat) : Int) (i : Int) (o : Int)).bind _ = _
    rw [pr_write (by omega) (by omega) (by omega)]
    rw [pr_b]
    rw [tl_gt ⟨by omega, by omega⟩, hln]
    rfl
  · refine pr_put h hl hs (by omega) (fun x hx => ?_) (fun j hj => ?_) (fun row j hr hj => ?_)
    · rcases List.mem_append.mp hx with q | q
      · exact h4 x (List.mem_of_mem_take q)
      · rcases List.mem_cons.mp q with q | q
        · omega
        · exact h4 x (List.mem_of_mem_drop q)
    · refine pr_at ?_ hj
      rw [pr_ins_get _ _ hi, pr_rdwr (by omega) (by omega) (by omega)]
      by_cases hj1 : j < i
      · rw [if_pos hj1, if_neg (by omega)]
        exact ha j hj1
      · rw [if_neg hj1]
        by_cases hj2 : j = i
        · rw [if_pos hj2, if_pos ⟨rfl, hj2⟩]
        · rw [if_neg hj2, if_neg (by omega)]
          exact hb j (by omega) (by omega)
    · rw [pr_rdwr (by omega) hj (by omega), if_neg (by omega)]
      exact hc row j hr hj
def pr_wo (o : Nat) (xs : List Nat) : List Nat := xs.filter (fun x => decide (x ≠ o))
theorem pr_wo_le (o : Nat) (xs : List Nat) : (pr_wo o xs).length ≤ xs.length := List.length_filter_le _ _
theorem pr_rem_L {xs : List Nat} {len : Nat → Int} {w : Nat → Int64} {row o : Nat} (hrow : row < 1000) (ho : o < 100) (hlen : len row = (xs.length : Int)) (h12 : xs.length ≤ 12) (hx : ∀ x ∈ xs, x < 100) :
    ∀ (n i : Nat) (x : Nat → Int64), i ≤ xs.length → xs.length + 1 ≤ i + n →
      (∀ j, j < (pr_wo o (xs.take i)).length → (pr_wo o (xs.take i))[j]? = some (pr_rd x row j)) → (∀ j, i ≤ j → j < xs.length → xs[j]? = some (pr_rd x row j)) → (∀ row2 j, row2 ≠ row → j < 12 → pr_rd x row2 j = pr_rd w row2 j) →
      ∃ x', fX3_remove_L1 len (o : Int) (row : Int) n (i : Int) ((pr_wo o (xs.take i)).length : Int) x = some (((pr_wo o xs).length : Int), x') ∧ (∀ j, j < (pr_wo o xs).length → (pr_wo o xs)[j]? = some (pr_rd x' row j)) ∧ (∀ row2 j, row2 ≠ row → j < 12 → pr_rd x' row2 j = pr_rd w row2 j) := by
  intro n
  induction n with
  | zero => intro i x h1 h2; omega
  | succ n ih =>
    intro i x hi hn ha hb hc
    have hle : (pr_wo o (xs.take i)).length ≤ i := Nat.le_trans (pr_wo_le _ _) (by rw [List.length_take]; omega)
    rw [fX3_remove_L1, Int.toNat_natCast, hlen, tl_gt ⟨⟨by omega, by omega⟩, ⟨by omega, by omega⟩⟩]
    by_cases hq : i < xs.length
    · rw [if_pos (by omega), pr_read hrow (by omega)]
      have hv := hb i (Nat.le_refl _) hq
      have hm : pr_rd x row i < 100 := hx _ (List.mem_of_getElem? hv)
      have he : pr_rd x row i = xs[i] := pr_at hv hq
      have htk : xs.take (i + 1) = xs.take i ++ [xs[i]] := List.take_succ_eq_append_getElem hq
      show ∃ x', tl_gd (tl_R ((pr_rd x row i : Nat) : Int) ∧ tl_R (o : Int)) _ = _ ∧ _
      rw [tl_gt ⟨⟨by omega, by omega⟩, ⟨by omega, by omega⟩⟩]
      have e1 : (i : Int) + 1 = ((i + 1 : Nat) : Int) := by omega
      by_cases hoo : pr_rd x row i = o
      · have hw : pr_wo o (xs.take (i + 1)) = pr_wo o (xs.take i) := by
          rw [htk]
          unfold pr_wo
          rw [List.filter_append]
          simp [← he, hoo]
        rw [if_pos (by rw [hoo]), e1]
        have h3 := ih (i + 1) x hq (by omega) (by rw [hw]; exact ha) (fun j h1 h2 => hb j (by omega) h2) hc
        rw [hw] at h3
        exact h3
      · have hw : pr_wo o (xs.take (i + 1)) = pr_wo o (xs.take i) ++ [xs[i]] := by
          rw [htk]
          unfold pr_wo
          rw [List.filter_append]
          simp [← he, hoo]
        have hwl : (pr_wo o (xs.take (i + 1))).length = (pr_wo o (xs.take i)).length + 1 := by rw [hw, List.length_append, List.length_singleton]
        rw [if_neg (by omega), pr_write hrow (by omega) (by omega)]
        have e2 : ((pr_wo o (xs.take i)).length : Int) + 1 = ((pr_wo o (xs.take (i + 1))).length : Int) := by omega
        show ∃ x', fX3_remove_L1 len (o : Int) (row : Int) n ((i : Int) + 1) (((pr_wo o (xs.take i)).length : Int) + 1) (pr_wr x row (pr_wo o (xs.take i)).length (pr_rd x row i)) = _ ∧ _
        rw [e1, e2]
        refine ih (i + 1) _ hq (by omega) (fun j hj => ?_) (fun j h1 h2 => ?_) (fun row2 j hr hj => ?_)
        · rw [pr_rdwr (by omega) (by omega) (by omega), hw]
          by_cases hjl : j = (pr_wo o (xs.take i)).length
          · rw [if_pos ⟨rfl, hjl⟩, hjl, List.getElem?_append_right (Nat.le_refl _), Nat.sub_self, he]
            rfl
          · rw [if_neg (by omega), List.getElem?_append_left (by omega)]
            exact ha j (by omega)
        · rw [pr_rdwr (by omega) (by omega) (by omega), if_neg (by omega)]
          exact hb j (by omega) h2
        · rw [pr_rdwr (by omega) hj (by omega), if_neg (by omega)]
          exact hc row2 j hr hj
    · rw [if_neg (by omega)]
      have hti : xs.take i = xs := List.take_of_length_le (by omega)
      rw [hti] at ha ⊢
      exact ⟨x, rfl, ha, hc⟩
/-- a slot taken out of a row -/
theorem pr_remove {Rw : Nat → Nat → List Nat} {len : Nat → Int} {w : Nat → Int64} (h : pr_R Rw len w) {l s o : Nat} (hl : l < 10) (hs : s < 100) (ho : o < 100) :
    ∃ w', fX3_remove len w (l : Int) (s : Int) (o : Int) = some (if o ∈ Rw l s then 1 else 0, va_up len (l * 100 + s) ((pr_wo o (Rw l s)).length : Int), w') ∧ pr_R (pr_set Rw l s (pr_wo o (Rw l s))) (va_up len (l * 100 + s) ((pr_wo o (Rw l s)).length : Int)) w' := by
  obtain ⟨h1, h2, h3, h4⟩ := h l s hl hs
  obtain ⟨x', e, ha, hc⟩ := pr_rem_L (w := w) (row := l * 100 + s) (by omega) ho h1 h2 h4 tl_N 0 w (Nat.zero_le _) (by unfold tl_N; omega)
    (fun j hj => absurd hj (by simp [pr_wo])) (fun j _ hj => by rw [h3 j hj]; exact List.getElem?_eq_getElem hj) (fun _ _ _ _ => rfl)
  have hz : ((pr_wo o ((Rw l s).take 0)).length : Int) = 0 := by simp [pr_wo]
  rw [hz, show ((0 : Nat) : Int) = (0 : Int) from rfl] at e
  have hle := pr_wo_le o (Rw l s)
  refine ⟨x', ?_, ?_⟩
  · unfold fX3_remove
    rw [pr_isRow hl hs]
    rw [pr_b]
    rw [tl_gt (by decide), if_neg (by decide), pr_rowOf]
    rw [pr_b]
    rw [tl_gt ⟨by omega, by omega⟩, e]
    rw [pr_b]
    dsimp only
    rw [tl_gt ⟨by omega, by omega⟩, Int.toNat_natCast, h1, tl_gt ⟨⟨by omega, by omega⟩, ⟨by omega, by omega⟩⟩]
    by_cases hm : o ∈ Rw l s
    · have hlt : (pr_wo o (Rw l s)).length < (Rw l s).length := by
        unfold pr_wo
        exact List.length_filter_lt_length_iff_exists.mpr ⟨o, hm, by simp⟩
      rw [if_pos (by omega), if_pos hm]
    · have heq : pr_wo o (Rw l s) = Rw l s := by
        unfold pr_wo
        exact List.filter_eq_self.mpr (fun x hx => by simp; exact fun q => hm (q ▸ hx))
      rw [heq, if_neg (by omega), if_neg hm]
  · refine pr_put h hl hs (by omega) (fun x hx => ?_) (fun j hj => pr_at (ha j hj) hj) (fun row j hr hj => hc row j hr hj)
    unfold pr_wo at hx
    exact h4 x (List.mem_filter.mp hx).1
/-! Told -/
theorem pt_knows {nl l : Nat} (hn : nl ≤ 10) (hl : l < nl) : fX5_knows (nl : Int) (l : Int) = some 1 := by
  unfold fX5_knows
  rw [tl_gt ⟨by omega, by omega⟩, if_neg (by omega), tl_gt ⟨⟨by omega, by omega⟩, ⟨by omega, by omega⟩⟩, if_pos (by omega)]
