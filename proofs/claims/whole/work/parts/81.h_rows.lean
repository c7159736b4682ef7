/-! copy: one row -/
theorem pr_set_set (w : Nat → Nat → List Nat) (l s : Nat) (xs ys : List Nat) : pr_set (pr_set w l s xs) l s ys = pr_set w l s ys := by
  funext l2 s2
  by_cases h : l2 = l ∧ s2 = s
  · obtain ⟨rfl, rfl⟩ := h
    rw [pr_set_at, pr_set_at]
  · rw [pr_set_ne _ _ h, pr_set_ne _ _ h, pr_set_ne _ _ h]
def hk_sg (fo ru : Nat → Int) (A : List Nat) (tw : Nat → Nat) (l y : Nat) : Option Nat := if y ∈ A then some (tw y) else if hk_keep fo ru l then some y else none
theorem hk_sg_lt {fo ru : Nat → Int} {A : List Nat} {tw : Nat → Nat} {l y v : Nat} (ht : ∀ o ∈ A, tw o < 100) (hy : y < 100) (h : hk_sg fo ru A tw l y = some v) : v < 100 := by
  unfold hk_sg at h
  by_cases a : y ∈ A
  · rw [if_pos a] at h
    cases h
    exact ht y a
  · rw [if_neg a] at h
    by_cases b : hk_keep fo ru l
    · rw [if_pos b] at h
      cases h
      exact hy
    · rw [if_neg b] at h
      cases h
theorem ck_twin {A : List Nat} {al : Int} {ai as tws : Nat → Int} (hA : ps_S A al ai as) {tw : Nat → Nat} (ht : ∀ o ∈ A, tws o = ((tw o : Nat) : Int)) {y : Nat} (hy : y ∈ A) : fX7_twinOf al ai tws (y : Int) = some ((tw y : Nat) : Int) := by
  have h100 := hA.2.2.1 y hy
  unfold fX7_twinOf
  rw [ps_holds hA h100, pr_b, if_pos hy, tl_gt (by decide), if_neg (by decide), tl_gt ⟨by omega, by omega⟩, Int.toNat_natCast, ht y hy]
theorem ck_stand {A : List Nat} {al : Int} {ai as tws : Nat → Int} (hA : ps_S A al ai as) {tw : Nat → Nat} (ht : ∀ o ∈ A, tws o = ((tw o : Nat) : Int)) {nl l : Nat} {fo ru : Nat → Int} (hn : nl ≤ 10) (hl : l < nl) (hf : 0 ≤ fo l ∧ fo l ≤ 2) (hr : 0 ≤ ru l ∧ ru l ≤ 2) {y : Nat} (hy : y < 100) : fX7_standIn al ai (nl : Int) fo ru tws (l : Int) (y : Int) = some (match hk_sg fo ru A tw l y with | some v => (v : Int) | none => -1) := by
  obtain ⟨b, b1, b2, b3⟩ := ck_keep hn hl hf hr
  unfold fX7_standIn hk_sg
  rw [ps_holds hA hy, pr_b]
  by_cases a : y ∈ A
  · rw [if_pos a, if_pos a, tl_gt (by decide), if_neg (by decide), ck_twin hA ht a, pr_b]
  · rw [if_neg a, if_neg a, tl_gt (by decide), if_pos rfl, b1, pr_b, tl_gt (show tl_R b from ⟨by omega, by omega⟩)]
    by_cases k : hk_keep fo ru l
    · rw [if_neg (fun z => (b3.mp z) k), if_pos k]
    · rw [if_pos (b3.mpr k), if_neg k]
theorem hk_fm_len {f : Nat → Option Nat} (xs : List Nat) : (xs.filterMap f).length ≤ xs.length := List.length_filterMap_le _ _
theorem ck_has_L {A : List Nat} {al ob : Int} {ai as tws : Nat → Int} (hA : ps_S A al ai as) {tw : Nat → Nat} (ht : ∀ o ∈ A, tws o = ((tw o : Nat) : Int)) (ht2 : ∀ o ∈ A, tw o < 100) {nl l : Nat} {fo ru : Nat → Int} (hn : nl ≤ 10) (hl : l < nl) (hf : 0 ≤ fo l ∧ fo l ≤ 2) (hr : 0 ≤ ru l ∧ ru l ≤ 2) {Wc : Nat → Nat → List Nat} {row : List Nat} {o : Nat} (ho : o ∈ A) (hto : tw o ≠ o) (er : Wc l o = row) (h12 : row.length ≤ 12) (hx : ∀ y ∈ row, y < 100) :
    ∀ (n i : Nat) (pa : Int) (hl2 : Nat → Int) (hw2 : Nat → Int64), i ≤ row.length → row.length + 1 ≤ i + n → pr_R (pr_set Wc l (tw o) ((row.take i).filterMap (hk_sg fo ru A tw l))) hl2 hw2 → pa = (hs_p (pr_set Wc l (tw o) ((row.take i).filterMap (hk_sg fo ru A tw l))) : Int) →
      ∃ (pa' : Int) (hl' : Nat → Int) (hw' : Nat → Int64), fX7_copyHas_L1 al ai (nl : Int) fo ru tws ob (l : Int) (o : Int) (row.length : Int) n (i : Int) pa hl2 hw2 = some (pa', hl', hw') ∧ pr_R (pr_set Wc l (tw o) (row.filterMap (hk_sg fo ru A tw l))) hl' hw' ∧ pa' = (hs_p (pr_set Wc l (tw o) (row.filterMap (hk_sg fo ru A tw l))) : Int) := by
  have ho100 := hA.2.2.1 o ho
  have hto100 := ht2 o ho
  intro n
  induction n with
  | zero => intro i pa hl2 hw2 a b; omega
  | succ n ih =>
    intro i pa hl2 hw2 hi hn2 hR hp
    rw [fX7_copyHas_L1, tl_gt ⟨⟨by omega, by omega⟩, ⟨by omega, by omega⟩⟩]
    by_cases q : i < row.length
    · have e1 : pr_set Wc l (tw o) ((row.take i).filterMap (hk_sg fo ru A tw l)) l o = row := by
        rw [pr_set_ne _ _ (fun z => hto z.2.symm), er]
      have hg := pr_get hR (l := l) (s := o) (i := i) (by omega) ho100 (by rw [e1]; exact q)
      have hgi : (pr_set Wc l (tw o) ((row.take i).filterMap (hk_sg fo ru A tw l)) l o)[i]'(by rw [e1]; exact q) = row[i] := by simp only [e1]
      rw [hgi] at hg
      have hy := hx _ (List.getElem_mem q)
      have htk : row.take (i + 1) = row.take i ++ [row[i]] := List.take_succ_eq_append_getElem q
      unfold fX1_has
      rw [if_pos (by omega), pr_b, hg, pr_b, ck_stand hA ht hn hl hf hr hy, pr_b, show (i : Int) + 1 = ((i + 1 : Nat) : Int) by omega]
      cases e : hk_sg fo ru A tw l row[i] with
      | none =>
        have e2 : (row.take (i + 1)).filterMap (hk_sg fo ru A tw l) = (row.take i).filterMap (hk_sg fo ru A tw l) := by
          rw [htk, List.filterMap_append]
          simp [e]
        dsimp only
        rw [tl_gt (by decide), if_pos rfl]
        exact ih (i + 1) pa hl2 hw2 q (by omega) (by rw [e2]; exact hR) (by rw [e2]; exact hp)
      | some v =>
        have hv := hk_sg_lt ht2 hy e
        have e2 : (row.take (i + 1)).filterMap (hk_sg fo ru A tw l) = (row.take i).filterMap (hk_sg fo ru A tw l) ++ [v] := by
          rw [htk, List.filterMap_append]
          simp [e]
        have hlen : ((row.take i).filterMap (hk_sg fo ru A tw l)).length ≤ i := Nat.le_trans (hk_fm_len _) (by rw [List.length_take]; omega)
        obtain ⟨hl3, hw3, f1, f2⟩ := pr_append (o := v) hR (l := l) (s := tw o) (by omega) hto100 hv (by rw [pr_set_at]; omega)
        rw [pr_set_at, pr_set_set, ← e2] at f2
        have hps := hs_p_set (pr_set Wc l (tw o) ((row.take i).filterMap (hk_sg fo ru A tw l))) ((row.take (i + 1)).filterMap (hk_sg fo ru A tw l)) (l := l) (s := tw o) (by omega) hto100
        rw [pr_set_set, pr_set_at] at hps
        have hl3' : ((row.take (i + 1)).filterMap (hk_sg fo ru A tw l)).length = ((row.take i).filterMap (hk_sg fo ru A tw l)).length + 1 := by
          rw [e2, List.length_append, List.length_singleton]
        dsimp only
        rw [tl_gt ⟨⟨by omega, by omega⟩, by decide⟩, if_neg (by omega), ck_twin hA ht ho, pr_b]
        unfold fX1_joinHas
        rw [f1, pr_b, pr_b]
        exact ih (i + 1) (pa + 1) hl3 hw3 q (by omega) f2 (by omega)
    · rw [if_neg (by omega)]
      have hti : row.take i = row := List.take_of_length_le (by omega)
      rw [hti] at hR hp
      exact ⟨pa, hl2, hw2, rfl, hR, hp⟩
theorem ck_has {A : List Nat} {al ob : Int} {ai as tws : Nat → Int} (hA : ps_S A al ai as) {tw : Nat → Nat} (ht : ∀ o ∈ A, tws o = ((tw o : Nat) : Int)) (ht2 : ∀ o ∈ A, tw o < 100) {nl l : Nat} {fo ru : Nat → Int} (hn : nl ≤ 10) (hl : l < nl) (hf : 0 ≤ fo l ∧ fo l ≤ 2) (hr : 0 ≤ ru l ∧ ru l ≤ 2) {Wc : Nat → Nat → List Nat} {o : Nat} (ho : o ∈ A) (hto : tw o ≠ o) (h0 : Wc l (tw o) = []) {pa : Int} {hl2 : Nat → Int} {hw2 : Nat → Int64} (hR : pr_R Wc hl2 hw2) (hp : pa = (hs_p Wc : Int)) :
    ∃ (pa' : Int) (hl' : Nat → Int) (hw' : Nat → Int64), fX7_copyHas al ai (nl : Int) fo ru tws ob pa hl2 hw2 (l : Int) (o : Int) = some (hl', hw', pa') ∧ pr_R (pr_set Wc l (tw o) ((Wc l o).filterMap (hk_sg fo ru A tw l))) hl' hw' ∧ pa' = (hs_p (pr_set Wc l (tw o) ((Wc l o).filterMap (hk_sg fo ru A tw l))) : Int) := by
  have ho100 := hA.2.2.1 o ho
  obtain ⟨_, h12, _, hx⟩ := hR l o (by omega) ho100
  have e0 : pr_set Wc l (tw o) (((Wc l o).take 0).filterMap (hk_sg fo ru A tw l)) = Wc := by
    rw [List.take_zero, List.filterMap_nil, ← h0, pr_set_self]
  obtain ⟨pa', hl', hw', a1, a2, a3⟩ := ck_has_L (ob := ob) hA ht ht2 hn hl hf hr (Wc := Wc) ho hto rfl h12 hx tl_N 0 pa hl2 hw2 (Nat.zero_le _) (by unfold tl_N; omega) (by rw [e0]; exact hR) (by rw [e0]; exact hp)
  rw [show ((0 : Nat) : Int) = (0 : Int) from rfl] at a1
  unfold fX7_copyHas fX1_has
  rw [pr_b, pr_lengthOf hR (by omega) ho100, pr_b, a1, pr_b]
  exact ⟨pa', hl', hw', rfl, a2, a3⟩
def hk_mp (A : List Nat) (tw : Nat → Nat) (xs : List Nat) : List Nat := (xs.filter (fun x => decide (x ∈ A))).map tw
theorem hk_mp_app (A : List Nat) (tw : Nat → Nat) (xs ys : List Nat) : hk_mp A tw (xs ++ ys) = hk_mp A tw xs ++ hk_mp A tw ys := by
  unfold hk_mp
  rw [List.filter_append, List.map_append]
theorem hk_mp_in {A : List Nat} {tw : Nat → Nat} {x : Nat} (h : x ∈ A) : hk_mp A tw [x] = [tw x] := by
  unfold hk_mp
  rw [List.filter_cons_of_pos (by simpa using h)]
  rfl
theorem hk_mp_out {A : List Nat} {tw : Nat → Nat} {x : Nat} (h : x ∉ A) : hk_mp A tw [x] = [] := by
  unfold hk_mp
  rw [List.filter_cons_of_neg (by simpa using h)]
  rfl
theorem hk_mp_take {A : List Nat} {tw : Nat → Nat} {xs : List Nat} (i : Nat) : (hk_mp A tw (xs.take i)).length ≤ (hk_mp A tw xs).length := by
  have h : hk_mp A tw xs = hk_mp A tw (xs.take i) ++ hk_mp A tw (xs.drop i) := by
    rw [← hk_mp_app, List.take_append_drop]
  rw [h, List.length_append]
  omega
theorem ck_had_L {A : List Nat} {al ob pa : Int} {ai as tws : Nat → Int} (hA : ps_S A al ai as) {tw : Nat → Nat} (ht : ∀ o ∈ A, tws o = ((tw o : Nat) : Int)) (ht2 : ∀ o ∈ A, tw o < 100) {l : Nat} (hl : l < 10) {Dc : Nat → Nat → List Nat} {row : List Nat} {s p : Nat} (hs : s < 100) (hp : p < 100) (er : Dc l s = row) (hx : ∀ y ∈ row, y < 100) (hr12 : row.length ≤ 12) (h12 : (Dc l p).length + (hk_mp A tw row).length ≤ 12) :
    ∀ (n i : Nat) (dl : Nat → Int) (dw : Nat → Int64), i ≤ row.length → row.length + 1 ≤ i + n → pr_R (pr_set Dc l p (Dc l p ++ hk_mp A tw (row.take i))) dl dw →
      ∃ (dl' : Nat → Int) (dw' : Nat → Int64), fX7_copyHad_L1 al ai tws ob pa (l : Int) (s : Int) (p : Int) (row.length : Int) n (i : Int) dl dw = some (dl', dw') ∧ pr_R (pr_set Dc l p (Dc l p ++ hk_mp A tw row)) dl' dw' := by
  intro n
  induction n with
  | zero => intro i dl dw a b; omega
  | succ n ih =>
    intro i dl dw hi hn2 hR
    rw [fX7_copyHad_L1, tl_gt ⟨⟨by omega, by omega⟩, ⟨by omega, by omega⟩⟩]
    by_cases q : i < row.length
    · have e1 : ∃ t, pr_set Dc l p (Dc l p ++ hk_mp A tw (row.take i)) l s = row ++ t := by
        by_cases z : s = p
        · exact ⟨hk_mp A tw (row.take i), by rw [z, pr_set_at, ← z, er]⟩
        · exact ⟨[], by rw [pr_set_ne _ _ (fun v => z v.2), er, List.append_nil]⟩
      obtain ⟨t, e1⟩ := e1
      have q2 : i < (pr_set Dc l p (Dc l p ++ hk_mp A tw (row.take i)) l s).length := by
        rw [e1, List.length_append]
        omega
      have hg := pr_get hR (l := l) (s := s) (i := i) hl hs q2
      have hgi : (pr_set Dc l p (Dc l p ++ hk_mp A tw (row.take i)) l s)[i] = row[i] := by
        simp only [e1]
        rw [List.getElem_append_left q]
      rw [hgi] at hg
      have hy := hx _ (List.getElem_mem q)
      have htk : row.take (i + 1) = row.take i ++ [row[i]] := List.take_succ_eq_append_getElem q
      unfold fX1_had
      rw [if_pos (by omega), pr_b, hg, pr_b, ps_holds hA hy, pr_b, show (i : Int) + 1 = ((i + 1 : Nat) : Int) by omega]
      by_cases c : row[i] ∈ A
      · have e2 : hk_mp A tw (row.take (i + 1)) = hk_mp A tw (row.take i) ++ [tw row[i]] := by
          rw [htk, hk_mp_app, hk_mp_in c]
        have hle := hk_mp_take (A := A) (tw := tw) (xs := row) (i + 1)
        rw [e2, List.length_append, List.length_singleton] at hle
        obtain ⟨dl3, dw3, f1, f2⟩ := pr_append (o := tw row[i]) hR (l := l) (s := p) hl hp (ht2 _ c) (by rw [pr_set_at, List.length_append]; omega)
        rw [pr_set_at, pr_set_set, List.append_assoc, ← e2] at f2
        rw [if_pos c, tl_gt (by decide), if_neg (by decide), ck_twin hA ht c, pr_b]
        unfold fX1_joinHad
        rw [f1, pr_b, pr_b]
        exact ih (i + 1) dl3 dw3 q (by omega) f2
      · have e2 : hk_mp A tw (row.take (i + 1)) = hk_mp A tw (row.take i) := by
          rw [htk, hk_mp_app, hk_mp_out c, List.append_nil]
        rw [if_neg c, tl_gt (by decide), if_pos rfl]
        exact ih (i + 1) dl dw q (by omega) (by rw [e2]; exact hR)
    · rw [if_neg (by omega)]
      have hti : row.take i = row := List.take_of_length_le (by omega)
      rw [hti] at hR
      exact ⟨dl, dw, rfl, hR⟩
def hk_op (fo ru : Nat → Int) (A : List Nat) (tw : Nat → Nat) (l : Nat) (Dc : Nat → Nat → List Nat) (s : Nat) : Nat → Nat → List Nat := match hk_sg fo ru A tw l s with | none => Dc | some p => pr_set Dc l p (Dc l p ++ hk_mp A tw (Dc l s))
theorem ck_had {A : List Nat} {al ob pa : Int} {ai as tws : Nat → Int} (hA : ps_S A al ai as) {tw : Nat → Nat} (ht : ∀ o ∈ A, tws o = ((tw o : Nat) : Int)) (ht2 : ∀ o ∈ A, tw o < 100) {nl l : Nat} {fo ru : Nat → Int} (hn : nl ≤ 10) (hl : l < nl) (hf : 0 ≤ fo l ∧ fo l ≤ 2) (hr : 0 ≤ ru l ∧ ru l ≤ 2) {Dc : Nat → Nat → List Nat} {s : Nat} (hs : s < 100) (h12 : ∀ p, hk_sg fo ru A tw l s = some p → (Dc l p).length + (hk_mp A tw (Dc l s)).length ≤ 12) {dl : Nat → Int} {dw : Nat → Int64} (hR : pr_R Dc dl dw) :
    ∃ (dl' : Nat → Int) (dw' : Nat → Int64), fX7_copyHad al ai (nl : Int) fo ru tws ob pa dl dw (l : Int) (s : Int) = some (dl', dw') ∧ pr_R (hk_op fo ru A tw l Dc s) dl' dw' := by
  obtain ⟨n9, hn9⟩ : ∃ n9, tl_N = n9 + 1 := ⟨999999, by unfold tl_N; omega⟩
  obtain ⟨_, hr12, _, hx⟩ := hR l s (by omega) hs
  unfold fX7_copyHad hk_op
  rw [ck_stand hA ht hn hl hf hr hs, pr_b]
  cases e : hk_sg fo ru A tw l s with
  | none =>
    dsimp only
    rw [tl_gt (by decide), if_pos rfl, pr_b, hn9, fX7_copyHad_L1, tl_gt (by decide), if_neg (by decide), pr_b]
    exact ⟨dl, dw, rfl, hR⟩
  | some p =>
    have hp := hk_sg_lt ht2 hs e
    have e0 : pr_set Dc l p (Dc l p ++ hk_mp A tw ((Dc l s).take 0)) = Dc := by
      rw [List.take_zero]
      unfold hk_mp
      rw [List.filter_nil, List.map_nil, List.append_nil, pr_set_self]
    obtain ⟨dl', dw', a1, a2⟩ := ck_had_L (ob := ob) (pa := pa) hA ht ht2 (l := l) (by omega) (Dc := Dc) hs hp rfl hx hr12 (h12 p e) tl_N 0 dl dw (Nat.zero_le _) (by unfold tl_N; omega) (by rw [e0]; exact hR)
    rw [show ((0 : Nat) : Int) = (0 : Int) from rfl] at a1
    unfold fX1_had
    dsimp only
    rw [tl_gt ⟨⟨by omega, by omega⟩, by decide⟩, if_neg (by omega), pr_b, pr_lengthOf hR (by omega) hs, pr_b, pr_b, a1, pr_b]
    exact ⟨dl', dw', rfl, a2⟩
