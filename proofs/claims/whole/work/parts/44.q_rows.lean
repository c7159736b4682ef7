/-! the rows of the reference, in lists -/
def qr_R (Rw : Nat → Nat → List Nat) (many row : Nat → Int) : Prop := ∀ l s : Nat, l < 10 → s < 100 → many (l * 100 + s) = ((Rw l s).length : Int) ∧ (Rw l s).length ≤ 12 ∧ (∀ (i : Nat) (h : i < (Rw l s).length), row ((l * 100 + s) * 12 + i) = (((Rw l s)[i] : Nat) : Int)) ∧ ∀ x ∈ Rw l s, x < 100
theorem qr_ix (r i : Nat) : (((r : Nat) : Int) * (12 : Int) + (i : Int)).toNat = r * 12 + i := by omega
theorem qr_ix_ne {a p : Nat} {l : List Nat} (h : a ≠ p) : (a :: l).idxOf p = l.idxOf p + 1 := by
  rw [List.idxOf_cons, beq_eq_false_iff_ne.mpr h]
  rfl
/-- where a slot first stands in a row, or -1 -/
def qr_idx (xs : List Nat) (p : Nat) : Int := if p ∈ xs then ((xs.idxOf p : Nat) : Int) else -1
theorem qr_idx_L {xs : List Nat} {many row : Nat → Int} {r p : Nat} (hr : r < 1000) (hp : p < 100) (h1 : many r = (xs.length : Int)) (h12 : xs.length ≤ 12) (hx : ∀ x ∈ xs, x < 100) (h3 : ∀ (i : Nat) (h : i < xs.length), row (r * 12 + i) = ((xs[i] : Nat) : Int)) :
    ∀ (n i : Nat), i ≤ xs.length → xs.length + 1 ≤ i + n → fX10_indexIn_L1 12000 1000 row many (r : Int) (p : Int) n (i : Int) = some (if p ∈ xs.drop i then .inr ((i + (xs.drop i).idxOf p : Nat) : Int) else .inl ()) := by
  intro n
  induction n with
  | zero => intro i h1 h2; omega
  | succ n ih =>
    intro i hi hn
    rw [fX10_indexIn_L1, tl_gt ⟨by omega, by omega⟩, Int.toNat_natCast, h1, tl_gt ⟨⟨by omega, by omega⟩, ⟨by omega, by omega⟩⟩]
    by_cases hq : i < xs.length
    · have hm := hx _ (List.getElem_mem hq)
      rw [if_pos (by omega), tl_gt ⟨by omega, by omega⟩, qr_ix, h3 i hq, tl_gt ⟨⟨by omega, by omega⟩, ⟨by omega, by omega⟩⟩, List.drop_eq_getElem_cons hq]
      by_cases he : xs[i] = p
      · rw [if_pos (by rw [he]), if_pos (by rw [he]; exact List.mem_cons_self), he, List.idxOf_cons_self]
        rfl
      · have hne : p ≠ xs[i] := fun z => he z.symm
        rw [if_neg (by omega), show (i : Int) + 1 = ((i + 1 : Nat) : Int) by omega, ih (i + 1) hq (by omega), qr_ix_ne he]
        by_cases hm2 : p ∈ xs.drop (i + 1)
        · rw [if_pos hm2, if_pos (List.mem_cons_of_mem _ hm2), show i + 1 + List.idxOf p (List.drop (i + 1) xs) = i + (List.idxOf p (List.drop (i + 1) xs) + 1) by omega]
        · rw [if_neg hm2, if_neg (fun z => (List.mem_cons.mp z).elim hne hm2)]
    · rw [if_neg (by omega), List.drop_eq_nil_of_le (by omega), if_neg (by simp)]
theorem qr_indexIn {Rw : Nat → Nat → List Nat} {many row : Nat → Int} (h : qr_R Rw many row) {l s p : Nat} (hl : l < 10) (hs : s < 100) (hp : p < 100) : fX10_indexIn 12000 1000 row many ((l * 100 + s : Nat) : Int) (p : Int) = some (qr_idx (Rw l s) p) := by
  obtain ⟨h1, h2, h3, h4⟩ := h l s hl hs
  have h5 := qr_idx_L (r := l * 100 + s) (p := p) (by omega) hp h1 h2 h4 h3 tl_N 0 (Nat.zero_le _) (by unfold tl_N; omega)
  unfold fX10_indexIn qr_idx
  rw [show ((0 : Nat) : Int) = (0 : Int) from rfl, List.drop_zero, Nat.zero_add] at h5
  rw [h5, pr_b]
  by_cases hm : p ∈ Rw l s
  · rw [if_pos hm, if_pos hm]
  · rw [if_neg hm, if_neg hm]
theorem qr_put {Rw : Nat → Nat → List Nat} {many row row2 : Nat → Int} (h : qr_R Rw many row) {l s : Nat} (hl : l < 10) (hs : s < 100) {xs : List Nat} (h12 : xs.length ≤ 12) (hx : ∀ x ∈ xs, x < 100) (hr : ∀ (i : Nat) (h : i < xs.length), row2 ((l * 100 + s) * 12 + i) = ((xs[i] : Nat) : Int)) (ho : ∀ (r i : Nat), r ≠ l * 100 + s → i < 12 → row2 (r * 12 + i) = row (r * 12 + i)) :
    qr_R (pr_set Rw l s xs) (va_up many (l * 100 + s) (xs.length : Int)) row2 := by
  intro l2 s2 hl2 hs2
  obtain ⟨h1, h2, h3, h4⟩ := h l2 s2 hl2 hs2
  unfold pr_set
  by_cases hq : l2 = l ∧ s2 = s
  · obtain ⟨rfl, rfl⟩ := hq
    simp only [and_self, if_true]
    exact ⟨va_up_self _ _ _, h12, hr, hx⟩
  · have hne : l2 * 100 + s2 ≠ l * 100 + s := fun z => hq (pr_row_inj hs hs2 z)
    simp only [hq, if_false]
    exact ⟨by rw [va_up_ne _ _ hne]; exact h1, h2, fun i hi => by rw [ho _ i hne (by omega)]; exact h3 i hi, h4⟩
theorem qr_upd {row : Nat → Int} {r i r2 i2 : Nat} {v : Int} (hi : i < 12) (hi2 : i2 < 12) : va_up row (r * 12 + i) v (r2 * 12 + i2) = if r2 = r ∧ i2 = i then v else row (r2 * 12 + i2) := by
  by_cases hq : r2 = r ∧ i2 = i
  · rw [if_pos hq, hq.1, hq.2, va_up_self]
  · rw [if_neg hq, va_up_ne _ _ (by omega)]
/-- the int at a place of a list, as a slot -/
def qr_at (xs : List Nat) (j : Nat) (v : Int) : Prop := ∃ k : Nat, xs[j]? = some k ∧ v = (k : Int)
theorem qr_at_get {xs : List Nat} {j : Nat} {v : Int} (h : qr_at xs j v) (hj : j < xs.length) : v = ((xs[j] : Nat) : Int) := by
  obtain ⟨k, h1, h2⟩ := h
  rw [h2, pr_at h1 hj]
theorem qr_ins_L {xs : List Nat} {row : Nat → Int} {r i : Nat} (hrow : r < 1000) (h12 : xs.length < 12) (hi : i ≤ xs.length) :
    ∀ (n k : Nat) (x : Nat → Int), i ≤ k → k ≤ xs.length → k + 1 ≤ i + n →
      (∀ j, j < k → qr_at xs j (x (r * 12 + j))) → (∀ j, k < j → j ≤ xs.length → qr_at xs (j - 1) (x (r * 12 + j))) → (∀ r2 j, r2 ≠ r → j < 12 → x (r2 * 12 + j) = row (r2 * 12 + j)) →
      ∃ x', fX10_insert_L1 12000 (r : Int) (i : Int) n (k : Int) x = some x' ∧ (∀ j, j < i → qr_at xs j (x' (r * 12 + j))) ∧ (∀ j, i < j → j ≤ xs.length → qr_at xs (j - 1) (x' (r * 12 + j))) ∧ (∀ r2 j, r2 ≠ r → j < 12 → x' (r2 * 12 + j) = row (r2 * 12 + j)) := by
  intro n
  induction n with
  | zero => intro k x h1 h2 h3; omega
  | succ n ih =>
    intro k x hk1 hk2 hn ha hb hc
    rw [fX10_insert_L1, tl_gt ⟨⟨by omega, by omega⟩, ⟨by omega, by omega⟩⟩]
    by_cases hq : i < k
    · have e3 : ((((r : Nat) : Int) * (12 : Int) + (k : Int)) - (1 : Int)).toNat = r * 12 + (k - 1) := by omega
      rw [if_pos (by omega), tl_gt ⟨by omega, by omega⟩, tl_gt ⟨by omega, by omega⟩, qr_ix, e3, show (k : Int) + (-1) = ((k - 1 : Nat) : Int) by omega]
      refine ih (k - 1) _ (by omega) (by omega) (by omega) (fun j hj => ?_) (fun j hj1 hj2 => ?_) (fun r2 j hr hj => ?_)
      · rw [qr_upd (by omega) (by omega), if_neg (by omega)]
        exact ha j (by omega)
      · rw [qr_upd (by omega) (by omega)]
        by_cases hjk : j = k
        · rw [if_pos ⟨rfl, hjk⟩, hjk]
          exact ha (k - 1) (by omega)
        · rw [if_neg (by omega)]
          exact hb j (by omega) hj2
      · rw [qr_upd (by omega) hj, if_neg (by omega)]
        exact hc r2 j hr hj
    · rw [if_neg (by omega)]
      have hki : k = i := by omega
      subst hki
      exact ⟨x, rfl, ha, hb, hc⟩
theorem qr_insert {Rw : Nat → Nat → List Nat} {many row : Nat → Int} (h : qr_R Rw many row) {l s i o : Nat} (hl : l < 10) (hs : s < 100) (ho : o < 100) (hi : i ≤ (Rw l s).length) (h12 : (Rw l s).length < 12) :
    ∃ row', fX10_insert 12000 1000 row many ((l * 100 + s : Nat) : Int) (i : Int) (o : Int) = some (row', va_up many (l * 100 + s) (((Rw l s).take i ++ o :: (Rw l s).drop i).length : Int)) ∧ qr_R (pr_set Rw l s ((Rw l s).take i ++ o :: (Rw l s).drop i)) (va_up many (l * 100 + s) (((Rw l s).take i ++ o :: (Rw l s).drop i).length : Int)) row' := by
  obtain ⟨h1, h2, h3, h4⟩ := h l s hl hs
  have hln : ((Rw l s).take i ++ o :: (Rw l s).drop i).length = (Rw l s).length + 1 := by
    rw [List.length_append, List.length_take, List.length_cons, List.length_drop]
    omega
  obtain ⟨x', e, ha, hb, hc⟩ := qr_ins_L (row := row) (r := l * 100 + s) (by omega) h12 hi tl_N (Rw l s).length row hi (Nat.le_refl _) (by unfold tl_N; omega)
    (fun j hj => ⟨_, List.getElem?_eq_getElem hj, h3 j hj⟩) (fun j hj1 hj2 => by omega) (fun _ _ _ _ => rfl)
  refine ⟨va_up x' ((l * 100 + s) * 12 + i) (o : Int), ?_, ?_⟩
  · unfold fX10_insert
    rw [tl_gt ⟨by omega, by omega⟩, Int.toNat_natCast, h1, e, pr_b, tl_gt ⟨by omega, by omega⟩, tl_gt ⟨by omega, by omega⟩, tl_gt ⟨by omega, by omega⟩, qr_ix, hln]
    rfl
  · refine qr_put h hl hs (by omega) (fun x hx => ?_) (fun j hj => ?_) (fun r j hr hj => ?_)
    · rcases List.mem_append.mp hx with q | q
      · exact h4 x (List.mem_of_mem_take q)
      · rcases List.mem_cons.mp q with q | q
        · omega
        · exact h4 x (List.mem_of_mem_drop q)
    · refine qr_at_get ?_ hj
      rw [qr_upd (by omega) (by omega)]
      unfold qr_at
      rw [pr_ins_get _ _ hi]
      by_cases hj1 : j < i
      · rw [if_pos hj1, if_neg (by omega)]
        exact ha j hj1
      · rw [if_neg hj1]
        by_cases hj2 : j = i
        · rw [if_pos hj2, if_pos ⟨rfl, hj2⟩]
          exact ⟨o, rfl, rfl⟩
        · rw [if_neg hj2, if_neg (by omega)]
          exact hb j (by omega) (by omega)
    · rw [qr_upd (by omega) hj, if_neg (by omega)]
      exact hc r j hr hj
theorem qr_rem_L {xs : List Nat} {many row : Nat → Int} {r i : Nat} (hrow : r < 1000) (h1 : many r = (xs.length : Int)) (h12 : xs.length ≤ 12) (hi : i < xs.length) :
    ∀ (n k : Nat) (x : Nat → Int), i ≤ k → k + 1 ≤ xs.length → xs.length ≤ k + n →
      (∀ j, j < k → qr_at (xs.eraseIdx i) j (x (r * 12 + j))) → (∀ j, k ≤ j → j < xs.length → (j = i ∨ i < j) → qr_at xs j (x (r * 12 + j))) → (∀ r2 j, r2 ≠ r → j < 12 → x (r2 * 12 + j) = row (r2 * 12 + j)) →
      ∃ x', fX10_remove_L1 12000 1000 many (r : Int) n (k : Int) x = some x' ∧ (∀ j, j < xs.length - 1 → qr_at (xs.eraseIdx i) j (x' (r * 12 + j))) ∧ (∀ r2 j, r2 ≠ r → j < 12 → x' (r2 * 12 + j) = row (r2 * 12 + j)) := by
  intro n
  induction n with
  | zero => intro k x h1 h2 h3; omega
  | succ n ih =>
    intro k x hk1 hk2 hn ha hb hc
    rw [fX10_remove_L1, tl_gt ⟨by omega, by omega⟩, Int.toNat_natCast, va_up_self, h1, tl_gt ⟨⟨by omega, by omega⟩, ⟨by omega, by omega⟩⟩]
    by_cases hq : k + 1 < xs.length
    · have e3 : ((((r : Nat) : Int) * (12 : Int) + (k : Int)) + (1 : Int)).toNat = r * 12 + (k + 1) := by omega
      rw [if_pos (by omega), tl_gt ⟨by omega, by omega⟩, tl_gt ⟨by omega, by omega⟩, qr_ix, e3, show (k : Int) + 1 = ((k + 1 : Nat) : Int) by omega]
      refine ih (k + 1) _ (by omega) (by omega) (by omega) (fun j hj => ?_) (fun j hj1 hj2 hj3 => ?_) (fun r2 j hr hj => ?_)
      · rw [qr_upd (by omega) (by omega)]
        by_cases hjk : j = k
        · rw [if_pos ⟨rfl, hjk⟩, hjk]
          obtain ⟨z, hz1, hz2⟩ := hb (k + 1) (by omega) hq (by omega)
          exact ⟨z, by rw [List.getElem?_eraseIdx_of_ge hk1]; exact hz1, hz2⟩
        · rw [if_neg (by omega)]
          exact ha j (by omega)
      · rw [qr_upd (by omega) (by omega), if_neg (by omega)]
        exact hb j (by omega) hj2 hj3
      · rw [qr_upd (by omega) hj, if_neg (by omega)]
        exact hc r2 j hr hj
    · rw [if_neg (by omega)]
      exact ⟨x, rfl, fun j hj => ha j (by omega), hc⟩
theorem qr_remove {Rw : Nat → Nat → List Nat} {many row : Nat → Int} (h : qr_R Rw many row) {l s i : Nat} (hl : l < 10) (hs : s < 100) (hi : i < (Rw l s).length) :
    ∃ row', fX10_remove 12000 1000 row many ((l * 100 + s : Nat) : Int) (i : Int) = some (row', va_up many (l * 100 + s) (((Rw l s).eraseIdx i).length : Int)) ∧ qr_R (pr_set Rw l s ((Rw l s).eraseIdx i)) (va_up many (l * 100 + s) (((Rw l s).eraseIdx i).length : Int)) row' := by
  obtain ⟨h1, h2, h3, h4⟩ := h l s hl hs
  have hln : ((Rw l s).eraseIdx i).length = (Rw l s).length - 1 := List.length_eraseIdx_of_lt hi
  obtain ⟨x', e, ha, hc⟩ := qr_rem_L (row := row) (r := l * 100 + s) (by omega) h1 h2 hi tl_N i row (Nat.le_refl _) (by omega) (by unfold tl_N; omega)
    (fun j hj => ⟨(Rw l s)[j]'(by omega), by rw [List.getElem?_eraseIdx_of_lt hj]; exact List.getElem?_eq_getElem (by omega), h3 j (by omega)⟩) (fun j _ hj _ => ⟨_, List.getElem?_eq_getElem hj, h3 j hj⟩) (fun _ _ _ _ => rfl)
  refine ⟨x', ?_, ?_⟩
  · unfold fX10_remove
    rw [tl_gt ⟨by omega, by omega⟩, tl_gt ⟨by omega, by omega⟩, e, pr_b, Int.toNat_natCast, h1, hln, show ((Rw l s).length : Int) - 1 = (((Rw l s).length - 1 : Nat) : Int) by omega]
  · exact qr_put h hl hs (by omega) (fun x hx => h4 x (List.mem_of_mem_eraseIdx hx)) (fun j hj => qr_at_get (ha j (by omega)) hj) (fun r j hr hj => hc r j hr hj)
/-- in a row without twins, what the reference takes out is what the class takes out -/
theorem qr_same {p : Nat} : ∀ {xs : List Nat}, xs.Nodup → xs.eraseIdx (xs.idxOf p) = pr_wo p xs
  | [], _ => rfl
  | a :: l, hn => by
    have h := List.nodup_cons.mp hn
    by_cases he : a = p
    · subst he
      rw [List.idxOf_cons_self, List.eraseIdx_cons_zero]
      unfold pr_wo
      rw [List.filter_cons_of_neg (by simp)]
      exact (List.filter_eq_self.mpr (fun x hx => by simp; exact fun q => h.1 (q ▸ hx))).symm
    · rw [qr_ix_ne he, List.eraseIdx_cons_succ, qr_same h.2]
      unfold pr_wo
      rw [List.filter_cons_of_pos (by simpa using he)]
