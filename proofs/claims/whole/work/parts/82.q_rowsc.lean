/-! copy: one row, the reference -/
theorem qu_append {U : Nat → Bool} {w : Nat → Nat → List Nat} {many row : Nat → Int} (h : qu_R U w many row) {l s o : Nat} (hl : l < 10) (hs : s < 100) (ho : o < 100) (h12 : (w l s).length < 12) (hU : U s = true) : ∃ (row' many' : Nat → Int), fX10_insert 12000 1000 row many ((l : Int) * 100 + (s : Int)) (many (l * 100 + s)) (o : Int) = some (row', many') ∧ qu_R U (pr_set w l s (w l s ++ [o])) many' row' := by
  obtain ⟨row', many', h1, h2⟩ := qu_insert (i := (w l s).length) (o := o) h hl hs ho (Nat.le_refl _) h12 hU
  rw [(qu_many h hl hs hU).1]
  exact ⟨row', many', h1, by rw [hs_app_put]; exact h2⟩
theorem qk_has_L {A : List Nat} {tw2 : Nat → Int} {tw : Nat → Nat} {U : Nat → Bool} (ht : ∀ y, y < 100 → tw2 y = if y ∈ A then ((tw y : Nat) : Int) else -1) (ht2 : ∀ o ∈ A, tw o < 100 ∧ U (tw o) = true) {nl l : Nat} {fo fr ru to fo2 fr2 ru2 to2 : Nat → Int} (hT : ht_R nl fo fr ru to fo2 fr2 ru2 to2) (hl : l < nl) {Wc : Nat → Nat → List Nat} {row : List Nat} {o : Nat} (ho : o ∈ A) (ho100 : o < 100) (hUo : U o = true) (hto : tw o ≠ o) (er : Wc l o = row) :
    ∀ (n i : Nat) (has hasMany : Nat → Int), i ≤ row.length → row.length + 1 ≤ i + n → qu_R U (pr_set Wc l (tw o) ((row.take i).filterMap (hk_sg fo ru A tw l))) hasMany has →
      ∃ (has' hasMany' : Nat → Int), fX10_copyRow_L1 fo2 ru2 tw2 (l : Int) (o : Int) n (i : Int) has hasMany = some (has', hasMany') ∧ qu_R U (pr_set Wc l (tw o) (row.filterMap (hk_sg fo ru A tw l))) hasMany' has' := by
  have hn := hT.1
  have hTl := hT.2 l hl
  obtain ⟨hto100, hUt⟩ := ht2 o ho
  have iO : tl_in ((l : Int) * 100 + (o : Int)) 1000 := ⟨by omega, by omega⟩
  have iL : tl_in (l : Int) 10 := ⟨by omega, by omega⟩
  have eO : ((l : Int) * 100 + (o : Int)).toNat = l * 100 + o := by omega
  have etw : tw2 o = ((tw o : Nat) : Int) := by rw [ht o ho100, if_pos ho]
  have iT : tl_in ((l : Int) * 100 + ((tw o : Nat) : Int)) 1000 := ⟨by omega, by omega⟩
  have eT : ((l : Int) * 100 + ((tw o : Nat) : Int)).toNat = l * 100 + tw o := by omega
  intro n
  induction n with
  | zero => intro i has hasMany a b; omega
  | succ n ih =>
    intro i has hasMany hi hn2 hR
    have e1 : pr_set Wc l (tw o) ((row.take i).filterMap (hk_sg fo ru A tw l)) l o = row := by
      rw [pr_set_ne _ _ (fun z => hto z.2.symm), er]
    have hm := qu_many hR (l := l) (s := o) (by omega) ho100 hUo
    rw [e1] at hm
    obtain ⟨m1, m2, m3, m4⟩ := hm
    rw [fX10_copyRow_L1, tl_gt iO, eO, m1, tl_gt ⟨⟨by omega, by omega⟩, ⟨by omega, by omega⟩⟩]
    by_cases q : i < row.length
    · have hy := m4 _ (List.getElem_mem q)
      have htk : row.take (i + 1) = row.take i ++ [row[i]] := List.take_succ_eq_append_getElem q
      have hlen : ((row.take i).filterMap (hk_sg fo ru A tw l)).length ≤ i := Nat.le_trans (hk_fm_len _) (by rw [List.length_take]; omega)
      have skip : hk_sg fo ru A tw l row[i] = none → ∃ (has' hasMany' : Nat → Int), fX10_copyRow_L1 fo2 ru2 tw2 (l : Int) (o : Int) n ((i + 1 : Nat) : Int) has hasMany = some (has', hasMany') ∧ qu_R U (pr_set Wc l (tw o) (row.filterMap (hk_sg fo ru A tw l))) hasMany' has' := by
        intro e
        have e2 : (row.take (i + 1)).filterMap (hk_sg fo ru A tw l) = (row.take i).filterMap (hk_sg fo ru A tw l) := by
          rw [htk, List.filterMap_append]
          simp [e]
        exact ih (i + 1) has hasMany q (by omega) (by rw [e2]; exact hR)
      have push : ∀ v, hk_sg fo ru A tw l row[i] = some v → ∃ (h2 m2 : Nat → Int), fX10_insert 12000 1000 has hasMany ((l : Int) * 100 + ((tw o : Nat) : Int)) (hasMany (l * 100 + tw o)) (v : Int) = some (h2, m2) ∧ ∃ (has' hasMany' : Nat → Int), fX10_copyRow_L1 fo2 ru2 tw2 (l : Int) (o : Int) n ((i + 1 : Nat) : Int) h2 m2 = some (has', hasMany') ∧ qu_R U (pr_set Wc l (tw o) (row.filterMap (hk_sg fo ru A tw l))) hasMany' has' := by
        intro v e
        have hv := hk_sg_lt (fun o ho => (ht2 o ho).1) hy e
        have e2 : (row.take (i + 1)).filterMap (hk_sg fo ru A tw l) = (row.take i).filterMap (hk_sg fo ru A tw l) ++ [v] := by
          rw [htk, List.filterMap_append]
          simp [e]
        obtain ⟨h2, m2', f1, f2⟩ := qu_append (o := v) hR (l := l) (s := tw o) (by omega) hto100 hv (by rw [pr_set_at]; omega) hUt
        rw [pr_set_at, pr_set_set, ← e2] at f2
        exact ⟨h2, m2', f1, ih (i + 1) h2 m2' q (by omega) f2⟩
      rw [if_pos (by omega), tl_gt ⟨by omega, by omega⟩, show (((l : Int) * 100 + (o : Int)) * 12 + (i : Int)).toNat = (l * 100 + o) * 12 + i by omega, m3 i q, tl_gt ⟨by omega, by omega⟩, Int.toNat_natCast, ht _ hy, show (i : Int) + 1 = ((i + 1 : Nat) : Int) by omega]
      by_cases c : row[i] ∈ A
      · have hb := (ht2 _ c).1
        have e : hk_sg fo ru A tw l row[i] = some (tw row[i]) := by
          unfold hk_sg
          rw [if_pos c]
        obtain ⟨h2, m2', g1, g2⟩ := push _ e
        rw [if_pos c, tl_gt ⟨by omega, by omega⟩, if_neg (by omega), Int.toNat_natCast, etw, tl_gt iT, tl_gt ⟨by omega, by omega⟩, eT, g1, pr_b]
        exact g2
      · rw [if_neg c, tl_gt (by decide), if_pos (by decide), tl_gt iL, Int.toNat_natCast, hTl.2.2.1, hTl.1, tl_gt ⟨⟨by omega, by omega⟩, by decide⟩]
        by_cases r : ru l = 1
        · rw [if_pos r]
          refine skip ?_
          unfold hk_sg
          rw [if_neg c, if_neg (fun z => z.2 r)]
        · rw [if_neg r, tl_gt iL, tl_gt ⟨⟨by omega, by omega⟩, by decide⟩]
          by_cases f : fo l = 2
          · have e : hk_sg fo ru A tw l row[i] = some row[i] := by
              unfold hk_sg
              rw [if_neg c, if_pos ⟨f, r⟩]
            obtain ⟨h2, m2', g1, g2⟩ := push _ e
            rw [if_pos f, Int.toNat_natCast, etw, tl_gt iT, eT, g1, pr_b]
            exact g2
          · rw [if_neg f]
            refine skip ?_
            unfold hk_sg
            rw [if_neg c, if_neg (fun z => f z.1)]
    · rw [if_neg (by omega)]
      have hti : row.take i = row := List.take_of_length_le (by omega)
      rw [hti] at hR
      exact ⟨has, hasMany, rfl, hR⟩
theorem qk_has {t lk ob g pm km lv ra : Int} {A : List Nat} {tw2 : Nat → Int} {tw : Nat → Nat} {U : Nat → Bool} (ht : ∀ y, y < 100 → tw2 y = if y ∈ A then ((tw y : Nat) : Int) else -1) (ht2 : ∀ o ∈ A, tw o < 100 ∧ U (tw o) = true) {nl l : Nat} {fo fr ru to fo2 fr2 ru2 to2 : Nat → Int} (hT : ht_R nl fo fr ru to fo2 fr2 ru2 to2) (hl : l < nl) {Wc : Nat → Nat → List Nat} {o : Nat} (ho : o ∈ A) (ho100 : o < 100) (hUo : U o = true) (hto : tw o ≠ o) (h0 : Wc l (tw o) = []) {has hasMany : Nat → Int} (hR : qu_R U Wc hasMany has) :
    ∃ (has' hasMany' : Nat → Int), fX10_copyRow t lk ob g pm km lv ra fo2 has hasMany ru2 tw2 (l : Int) (o : Int) = some (has', hasMany') ∧ qu_R U (pr_set Wc l (tw o) ((Wc l o).filterMap (hk_sg fo ru A tw l))) hasMany' has' := by
  have hn := hT.1
  have h12 := (qu_many hR (l := l) (by omega) ho100 hUo).2.1
  have e0 : pr_set Wc l (tw o) (((Wc l o).take 0).filterMap (hk_sg fo ru A tw l)) = Wc := by
    rw [List.take_zero, List.filterMap_nil, ← h0, pr_set_self]
  obtain ⟨has', hasMany', a1, a2⟩ := qk_has_L ht ht2 hT hl (Wc := Wc) ho ho100 hUo hto rfl tl_N 0 has hasMany (Nat.zero_le _) (by unfold tl_N; omega) (by rw [e0]; exact hR)
  rw [show ((0 : Nat) : Int) = (0 : Int) from rfl] at a1
  unfold fX10_copyRow
  rw [tl_gt ⟨by omega, by omega⟩, a1, pr_b]
  exact ⟨has', hasMany', rfl, a2⟩
theorem qk_back_L {A : List Nat} {tw2 : Nat → Int} {tw : Nat → Nat} {U : Nat → Bool} (ht : ∀ y, y < 100 → tw2 y = if y ∈ A then ((tw y : Nat) : Int) else -1) (ht2 : ∀ o ∈ A, tw o < 100 ∧ U (tw o) = true) {l : Nat} (hl : l < 10) {Dc : Nat → Nat → List Nat} {row : List Nat} {o : Nat} (ho : o ∈ A) (ho100 : o < 100) (hUo : U o = true) (hto : tw o ≠ o) (er : Dc l o = row) (h12 : (Dc l (tw o)).length + (hk_mp A tw row).length ≤ 12) :
    ∀ (n i : Nat) (had hadMany : Nat → Int), i ≤ row.length → row.length + 1 ≤ i + n → qu_R U (pr_set Dc l (tw o) (Dc l (tw o) ++ hk_mp A tw (row.take i))) hadMany had →
      ∃ (had' hadMany' : Nat → Int), fX10_copyBack_L1 tw2 (l : Int) (o : Int) n (i : Int) had hadMany = some (had', hadMany') ∧ qu_R U (pr_set Dc l (tw o) (Dc l (tw o) ++ hk_mp A tw row)) hadMany' had' := by
  obtain ⟨hto100, hUt⟩ := ht2 o ho
  have iO : tl_in ((l : Int) * 100 + (o : Int)) 1000 := ⟨by omega, by omega⟩
  have eO : ((l : Int) * 100 + (o : Int)).toNat = l * 100 + o := by omega
  have etw : tw2 o = ((tw o : Nat) : Int) := by rw [ht o ho100, if_pos ho]
  have iT : tl_in ((l : Int) * 100 + ((tw o : Nat) : Int)) 1000 := ⟨by omega, by omega⟩
  have eT : ((l : Int) * 100 + ((tw o : Nat) : Int)).toNat = l * 100 + tw o := by omega
  intro n
  induction n with
  | zero => intro i had hadMany a b; omega
  | succ n ih =>
    intro i had hadMany hi hn2 hR
    have e1 : pr_set Dc l (tw o) (Dc l (tw o) ++ hk_mp A tw (row.take i)) l o = row := by
      rw [pr_set_ne _ _ (fun z => hto z.2.symm), er]
    have hm := qu_many hR (l := l) (s := o) hl ho100 hUo
    rw [e1] at hm
    obtain ⟨m1, m2, m3, m4⟩ := hm
    rw [fX10_copyBack_L1, tl_gt iO, eO, m1, tl_gt ⟨⟨by omega, by omega⟩, ⟨by omega, by omega⟩⟩]
    by_cases q : i < row.length
    · have hy := m4 _ (List.getElem_mem q)
      have htk : row.take (i + 1) = row.take i ++ [row[i]] := List.take_succ_eq_append_getElem q
      rw [if_pos (by omega), tl_gt ⟨by omega, by omega⟩, show (((l : Int) * 100 + (o : Int)) * 12 + (i : Int)).toNat = (l * 100 + o) * 12 + i by omega, m3 i q, tl_gt ⟨by omega, by omega⟩, Int.toNat_natCast, ht _ hy, show (i : Int) + 1 = ((i + 1 : Nat) : Int) by omega]
      by_cases c : row[i] ∈ A
      · have hb := (ht2 _ c).1
        have e2 : hk_mp A tw (row.take (i + 1)) = hk_mp A tw (row.take i) ++ [tw row[i]] := by
          rw [htk, hk_mp_app, hk_mp_in c]
        have hle := hk_mp_take (A := A) (tw := tw) (xs := row) (i + 1)
        rw [e2, List.length_append, List.length_singleton] at hle
        obtain ⟨h2, m2', f1, f2⟩ := qu_append (o := tw row[i]) hR (l := l) (s := tw o) hl hto100 hb (by rw [pr_set_at, List.length_append]; omega) hUt
        rw [pr_set_at, pr_set_set, List.append_assoc, ← e2] at f2
        rw [if_pos c, tl_gt ⟨by omega, by omega⟩, if_neg (by omega), Int.toNat_natCast, etw, tl_gt iT, tl_gt ⟨by omega, by omega⟩, eT, f1, pr_b]
        exact ih (i + 1) h2 m2' q (by omega) f2
      · have e2 : hk_mp A tw (row.take (i + 1)) = hk_mp A tw (row.take i) := by
          rw [htk, hk_mp_app, hk_mp_out c, List.append_nil]
        rw [if_neg c, tl_gt (by decide), if_pos (by decide)]
        exact ih (i + 1) had hadMany q (by omega) (by rw [e2]; exact hR)
    · rw [if_neg (by omega)]
      have hti : row.take i = row := List.take_of_length_le (by omega)
      rw [hti] at hR
      exact ⟨had, hadMany, rfl, hR⟩
theorem qk_side_L {A : List Nat} {tw2 : Nat → Int} {tw : Nat → Nat} {U : Nat → Bool} (ht : ∀ y, y < 100 → tw2 y = if y ∈ A then ((tw y : Nat) : Int) else -1) (ht2 : ∀ o ∈ A, tw o < 100 ∧ U (tw o) = true) {l : Nat} (hl : l < 10) {Dc : Nat → Nat → List Nat} {row : List Nat} {hm0 : Nat → Int} {s : Nat} (hs : s < 100) (hUs : U s = true) (er : Dc l s = row) (em : hm0 (l * 100 + s) = (row.length : Int)) (h12 : row.length + (hk_mp A tw row).length ≤ 12) (hx : ∀ y ∈ row, y < 100) :
    ∀ (n i : Nat) (had hadMany : Nat → Int), i ≤ row.length → row.length + 1 ≤ i + n → qu_R U (pr_set Dc l s (row ++ hk_mp A tw (row.take i))) hadMany had →
      ∃ (had' hadMany' : Nat → Int), fX10_copyBeside_L1 hm0 tw2 (l : Int) (s : Int) n (i : Int) had hadMany = some (had', hadMany') ∧ qu_R U (pr_set Dc l s (row ++ hk_mp A tw row)) hadMany' had' := by
  have iO : tl_in ((l : Int) * 100 + (s : Int)) 1000 := ⟨by omega, by omega⟩
  have eO : ((l : Int) * 100 + (s : Int)).toNat = l * 100 + s := by omega
  intro n
  induction n with
  | zero => intro i had hadMany a b; omega
  | succ n ih =>
    intro i had hadMany hi hn2 hR
    have hm := qu_many hR (l := l) (s := s) hl hs hUs
    rw [pr_set_at] at hm
    obtain ⟨m1, m2, m3, m4⟩ := hm
    rw [fX10_copyBeside_L1, eO, em, tl_gt ⟨⟨by omega, by omega⟩, ⟨by omega, by omega⟩⟩]
    by_cases q : i < row.length
    · have hy := hx _ (List.getElem_mem q)
      have htk : row.take (i + 1) = row.take i ++ [row[i]] := List.take_succ_eq_append_getElem q
      have m3i := m3 i (by rw [List.length_append]; omega)
      rw [List.getElem_append_left q] at m3i
      rw [if_pos (by omega), tl_gt ⟨by omega, by omega⟩, show (((l : Int) * 100 + (s : Int)) * 12 + (i : Int)).toNat = (l * 100 + s) * 12 + i by omega, m3i, tl_gt ⟨by omega, by omega⟩, Int.toNat_natCast, ht _ hy, show (i : Int) + 1 = ((i + 1 : Nat) : Int) by omega]
      by_cases c : row[i] ∈ A
      · have hb := (ht2 _ c).1
        have e2 : hk_mp A tw (row.take (i + 1)) = hk_mp A tw (row.take i) ++ [tw row[i]] := by
          rw [htk, hk_mp_app, hk_mp_in c]
        have hle := hk_mp_take (A := A) (tw := tw) (xs := row) (i + 1)
        rw [e2, List.length_append, List.length_singleton] at hle
        obtain ⟨h2, m2', f1, f2⟩ := qu_append (o := tw row[i]) hR (l := l) (s := s) hl hs hb (by rw [pr_set_at, List.length_append]; omega) hUs
        rw [pr_set_at, pr_set_set, List.append_assoc, ← e2] at f2
        rw [if_pos c, tl_gt ⟨by omega, by omega⟩, if_neg (by omega), tl_gt iO, tl_gt ⟨by omega, by omega⟩, f1, pr_b]
        exact ih (i + 1) h2 m2' q (by omega) f2
      · have e2 : hk_mp A tw (row.take (i + 1)) = hk_mp A tw (row.take i) := by
          rw [htk, hk_mp_app, hk_mp_out c, List.append_nil]
        rw [if_neg c, tl_gt (by decide), if_pos (by decide)]
        exact ih (i + 1) had hadMany q (by omega) (by rw [e2]; exact hR)
    · rw [if_neg (by omega)]
      have hti : row.take i = row := List.take_of_length_le (by omega)
      rw [hti] at hR
      exact ⟨had, hadMany, rfl, hR⟩
theorem hk_mp_nil (A : List Nat) (tw : Nat → Nat) : hk_mp A tw [] = [] := rfl
/-- one slot of the reference's loop over those that are had -/
theorem qk_had {lk g ob pm km lv ra : Int} {z18 : Int × Int} {A : List Nat} {tw2 used : Nat → Int} {tw : Nat → Nat} {U : Nat → Bool} (ht : ∀ y, y < 100 → tw2 y = if y ∈ A then ((tw y : Nat) : Int) else -1) (ht2 : ∀ o ∈ A, tw o < 100 ∧ U (tw o) = true) (hAU : ∀ o ∈ A, U o = true ∧ tw o ≠ o) (hu : ∀ k, k < 100 → used k = if U k = true then 1 else 0) {nl l : Nat} {fo fr ru to fo2 fr2 ru2 to2 : Nat → Int} (hT : ht_R nl fo fr ru to fo2 fr2 ru2 to2) (hl : l < nl) {Dc : Nat → Nat → List Nat} {s : Nat} (hs : s < 100) (hno : U s = false → Dc l s = []) (h12 : ∀ p, hk_sg fo ru A tw l s = some p → (Dc l p).length + (hk_mp A tw (Dc l s)).length ≤ 12) {had hadMany : Nat → Int} (hR : qu_R U Dc hadMany had) :
    ∃ (had' hadMany' : Nat → Int), qu_R U (hk_op fo ru A tw l Dc s) hadMany' had' ∧ ∀ n, fX10_copy_L7 lk pm km lv ra fo2 ru2 z18 ob g tw2 used (l : Int) (n + 1) (s : Int) had hadMany = fX10_copy_L7 lk pm km lv ra fo2 ru2 z18 ob g tw2 used (l : Int) n ((s + 1 : Nat) : Int) had' hadMany' := by
  have hn := hT.1
  have hTl := hT.2 l hl
  have iS : tl_in (s : Int) 100 := ⟨by omega, by omega⟩
  have iL : tl_in (l : Int) 10 := ⟨by omega, by omega⟩
  have iO : tl_in ((l : Int) * 100 + (s : Int)) 1000 := ⟨by omega, by omega⟩
  have es : (s : Int) + 1 = ((s + 1 : Nat) : Int) := by omega
  unfold hk_op
  by_cases c : s ∈ A
  · obtain ⟨c1, c2⟩ := ht2 s c
    have e : hk_sg fo ru A tw l s = some (tw s) := by
      unfold hk_sg
      rw [if_pos c]
    have hr12 := (qu_many hR (l := l) (by omega) hs (hAU s c).1).2.1
    obtain ⟨had', hadMany', a1, a2⟩ := qk_back_L ht ht2 (l := l) (by omega) (Dc := Dc) c hs (hAU s c).1 (hAU s c).2 rfl (h12 _ e) tl_N 0 had hadMany (Nat.zero_le _) (by unfold tl_N; omega) (by rw [List.take_zero, hk_mp_nil, List.append_nil, pr_set_self]; exact hR)
    rw [show ((0 : Nat) : Int) = (0 : Int) from rfl] at a1
    refine ⟨had', hadMany', by rw [e]; exact a2, fun n => ?_⟩
    rw [fX10_copy_L7, tl_gt ⟨⟨by omega, by omega⟩, by decide⟩, if_pos (by omega), tl_gt iS, Int.toNat_natCast, ht s hs, if_pos c, tl_gt ⟨by omega, by omega⟩, if_neg (by omega)]
    unfold fX10_copyBack
    rw [tl_gt iS, a1, pr_b, pr_b, es]
  · have pre : ∀ n, fX10_copy_L7 lk pm km lv ra fo2 ru2 z18 ob g tw2 used (l : Int) (n + 1) (s : Int) had hadMany = tl_gd (tl_in (s : Int) 100) (tl_gd (tl_R (used s)) (if used s = 0 then fX10_copy_L7 lk pm km lv ra fo2 ru2 z18 ob g tw2 used (l : Int) n ((s + 1 : Nat) : Int) had hadMany else tl_gd (tl_in (l : Int) 10) (tl_gd (tl_R (ru l) ∧ tl_R (1 : Int)) (if ru l = (1 : Int) then fX10_copy_L7 lk pm km lv ra fo2 ru2 z18 ob g tw2 used (l : Int) n ((s + 1 : Nat) : Int) had hadMany else tl_gd (tl_in (l : Int) 10) (tl_gd (tl_R (fo l) ∧ tl_R (2 : Int)) (if fo l = (2 : Int) then (fX10_copyBeside z18.2 lk ob g pm km lv ra had hadMany tw2 (l : Int) (s : Int)).bind fun z46 => fX10_copy_L7 lk pm km lv ra fo2 ru2 z18 ob g tw2 used (l : Int) n ((s + 1 : Nat) : Int) z46.1 z46.2 else fX10_copy_L7 lk pm km lv ra fo2 ru2 z18 ob g tw2 used (l : Int) n ((s + 1 : Nat) : Int) had hadMany)))))) := by
      intro n
      rw [fX10_copy_L7, tl_gt ⟨⟨by omega, by omega⟩, by decide⟩, if_pos (by omega), tl_gt iS, Int.toNat_natCast, ht s hs, if_neg c, tl_gt (by decide), if_pos (by decide), Int.toNat_natCast, hTl.2.2.1, hTl.1, es]
    by_cases hU : U s = true
    · by_cases k : hk_keep fo ru l
      · have e : hk_sg fo ru A tw l s = some s := by
          unfold hk_sg
          rw [if_neg c, if_pos k]
        obtain ⟨m1, m2, _, m4⟩ := qu_many hR (l := l) (by omega) hs hU
        obtain ⟨had', hadMany', a1, a2⟩ := qk_side_L ht ht2 (l := l) (by omega) (Dc := Dc) hs hU rfl m1 (h12 _ e) m4 tl_N 0 had hadMany (Nat.zero_le _) (by unfold tl_N; omega) (by rw [List.take_zero, hk_mp_nil, List.append_nil, pr_set_self]; exact hR)
        rw [show ((0 : Nat) : Int) = (0 : Int) from rfl] at a1
        refine ⟨had', hadMany', by rw [e]; exact a2, fun n => ?_⟩
        rw [pre n, tl_gt iS, tl_gt (hq_uR hu s hs), hu s hs, if_pos hU, if_neg (by decide), tl_gt iL, tl_gt ⟨⟨by omega, by omega⟩, by decide⟩, if_neg k.2, tl_gt iL, tl_gt ⟨⟨by omega, by omega⟩, by decide⟩, if_pos k.1]
        unfold fX10_copyBeside
        rw [tl_gt iO, a1, pr_b, pr_b]
      · have e : hk_sg fo ru A tw l s = none := by
          unfold hk_sg
          rw [if_neg c, if_neg k]
        refine ⟨had, hadMany, by rw [e]; exact hR, fun n => ?_⟩
        rw [pre n, tl_gt iS, tl_gt (hq_uR hu s hs), hu s hs, if_pos hU, if_neg (by decide), tl_gt iL, tl_gt ⟨⟨by omega, by omega⟩, by decide⟩]
        by_cases r : ru l = 1
        · rw [if_pos r]
        · rw [if_neg r, tl_gt iL, tl_gt ⟨⟨by omega, by omega⟩, by decide⟩, if_neg (fun z => k ⟨z, r⟩)]
    · have hf : U s = false := by simpa using hU
      refine ⟨had, hadMany, ?_, fun n => ?_⟩
      · have e0 := hno hf
        cases e : hk_sg fo ru A tw l s with
        | none => exact hR
        | some p =>
          dsimp only
          rw [e0, hk_mp_nil, List.append_nil, pr_set_self]
          exact hR
      · rw [pre n, tl_gt iS, tl_gt (hq_uR hu s hs), hu s hs, if_neg hU, if_pos rfl]
