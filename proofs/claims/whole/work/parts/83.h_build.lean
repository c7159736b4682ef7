/-! copy: all rows -/
def hk_tb (A : List Nat) (tw : Nat → Nat) (s : Nat) : Option Nat := A.find? (fun o => decide (tw o = s))
def hk_K (A : List Nat) (tw : Nat → Nat) : Prop := A.Nodup ∧ (∀ o ∈ A, tw o < 100 ∧ tw o ∉ A) ∧ ∀ o ∈ A, ∀ o2 ∈ A, tw o = tw o2 → o = o2
theorem hk_tb_tw {A : List Nat} {tw : Nat → Nat} (h : hk_K A tw) {o : Nat} (ho : o ∈ A) : hk_tb A tw (tw o) = some o := by
  unfold hk_tb
  cases e : A.find? (fun o2 => decide (tw o2 = tw o)) with
  | none =>
    have := List.find?_eq_none.mp e o ho
    simp at this
  | some o2 =>
    have h1 := List.mem_of_find?_eq_some e
    have h2 := List.find?_some e
    rw [h.2.2 o2 h1 o ho (by simpa using h2)]
theorem hk_tb_some {A : List Nat} {tw : Nat → Nat} {s o : Nat} (h : hk_tb A tw s = some o) : o ∈ A ∧ tw o = s := ⟨List.mem_of_find?_eq_some h, by simpa using List.find?_some h⟩
theorem hk_tb_old {A : List Nat} {tw : Nat → Nat} (h : hk_K A tw) {o : Nat} (ho : o ∈ A) : hk_tb A tw o = none := by
  cases e : hk_tb A tw o with
  | none => rfl
  | some o2 =>
    obtain ⟨h1, h2⟩ := hk_tb_some e
    exact absurd (h2 ▸ ho) (h.2.1 o2 h1).2
def hk_Wf (fo ru : Nat → Int) (A : List Nat) (tw : Nat → Nat) (w : Nat → Nat → List Nat) (l s : Nat) : List Nat := match hk_tb A tw s with | some o => (w l o).filterMap (hk_sg fo ru A tw l) | none => w l s
def hk_Wj (fo ru : Nat → Int) (A : List Nat) (tw : Nat → Nat) (w : Nat → Nat → List Nat) (l j l2 s : Nat) : List Nat := if l2 = l then (match hk_tb A tw s with | some o => if A.idxOf o < j then (w l o).filterMap (hk_sg fo ru A tw l) else [] | none => w l s) else if l2 < l then hk_Wf fo ru A tw w l2 s else w l2 s
def hk_Wl (fo ru : Nat → Int) (A : List Nat) (tw : Nat → Nat) (w : Nat → Nat → List Nat) (l l2 s : Nat) : List Nat := if l2 < l then hk_Wf fo ru A tw w l2 s else w l2 s
theorem hk_Wj_0 {fo ru : Nat → Int} {A : List Nat} {tw : Nat → Nat} {w : Nat → Nat → List Nat} (h0 : ∀ l, ∀ o ∈ A, w l (tw o) = []) (l : Nat) : hk_Wj fo ru A tw w l 0 = hk_Wl fo ru A tw w l := by
  funext l2 s
  unfold hk_Wj hk_Wl
  by_cases e : l2 = l
  · subst e
    rw [if_pos rfl, if_neg (show ¬ l2 < l2 by omega)]
    cases q : hk_tb A tw s with
    | none => rfl
    | some o =>
      obtain ⟨h1, h2⟩ := hk_tb_some q
      dsimp only
      rw [if_neg (by omega), ← h2, h0 l2 o h1]
  · rw [if_neg e]
theorem hk_Wj_end {fo ru : Nat → Int} {A : List Nat} {tw : Nat → Nat} {w : Nat → Nat → List Nat} (l : Nat) : hk_Wj fo ru A tw w l A.length = hk_Wl fo ru A tw w (l + 1) := by
  funext l2 s
  unfold hk_Wj hk_Wl
  by_cases e : l2 = l
  · subst e
    rw [if_pos rfl, if_pos (show l2 < l2 + 1 by omega)]
    unfold hk_Wf
    cases q : hk_tb A tw s with
    | none => rfl
    | some o =>
      have h1 := (hk_tb_some q).1
      dsimp only
      rw [if_pos (List.idxOf_lt_length_of_mem h1)]
  · rw [if_neg e]
    by_cases f : l2 < l
    · rw [if_pos f, if_pos (by omega)]
    · rw [if_neg f, if_neg (by omega)]
theorem hk_idx : ∀ {A : List Nat} (_ : A.Nodup) {j : Nat} (hj : j < A.length), A.idxOf A[j] = j
  | [], _, j, hj => by simp at hj
  | a :: A, _, 0, _ => List.idxOf_cons_self
  | a :: A, hA, j + 1, hj => by
    have hn := List.nodup_cons.mp hA
    have hj2 : j < A.length := by simpa using hj
    have hne : a ≠ A[j] := fun e => hn.1 (by rw [e]; exact List.getElem_mem hj2)
    show (a :: A).idxOf A[j] = j + 1
    rw [qr_ix_ne hne, hk_idx hn.2 hj2]
theorem hk_Wj_row {fo ru : Nat → Int} {A : List Nat} {tw : Nat → Nat} (h : hk_K A tw) {w : Nat → Nat → List Nat} {l j o : Nat} (ho : o ∈ A) : hk_Wj fo ru A tw w l j l o = w l o := by
  unfold hk_Wj
  rw [if_pos rfl, hk_tb_old h ho]
theorem hk_Wj_new {fo ru : Nat → Int} {A : List Nat} {tw : Nat → Nat} (h : hk_K A tw) {w : Nat → Nat → List Nat} {l j : Nat} (hj : j < A.length) : hk_Wj fo ru A tw w l j l (tw A[j]) = [] := by
  unfold hk_Wj
  rw [if_pos rfl, hk_tb_tw h (List.getElem_mem hj)]
  dsimp only
  rw [hk_idx h.1 hj, if_neg (by omega)]
theorem hk_Wj_step {fo ru : Nat → Int} {A : List Nat} {tw : Nat → Nat} (h : hk_K A tw) {w : Nat → Nat → List Nat} {l j : Nat} (hj : j < A.length) : pr_set (hk_Wj fo ru A tw w l j) l (tw A[j]) ((hk_Wj fo ru A tw w l j l A[j]).filterMap (hk_sg fo ru A tw l)) = hk_Wj fo ru A tw w l (j + 1) := by
  funext l2 s
  rw [hk_Wj_row h (List.getElem_mem hj)]
  by_cases e : l2 = l ∧ s = tw A[j]
  · obtain ⟨rfl, rfl⟩ := e
    rw [pr_set_at]
    unfold hk_Wj
    rw [if_pos rfl, hk_tb_tw h (List.getElem_mem hj)]
    dsimp only
    rw [hk_idx h.1 hj, if_pos (by omega)]
  · rw [pr_set_ne _ _ e]
    unfold hk_Wj
    by_cases f : l2 = l
    · rw [if_pos f, if_pos f]
      cases q : hk_tb A tw s with
      | none => rfl
      | some o =>
        obtain ⟨h1, h2⟩ := hk_tb_some q
        have hne : A.idxOf o ≠ j := fun z => by
          have h3 : A[A.idxOf o]'(List.idxOf_lt_length_of_mem h1) = o := List.getElem_idxOf _
          have h4 : A[j] = o := by
            rw [← h3]
            simp only [z]
          exact e ⟨f, by rw [h4]; exact h2.symm⟩
        dsimp only
        by_cases r : A.idxOf o < j
        · rw [if_pos r, if_pos (by omega)]
        · rw [if_neg r, if_neg (by omega)]
    · rw [if_neg f, if_neg f]
def hk_Df (fo ru : Nat → Int) (A : List Nat) (tw : Nat → Nat) (d : Nat → Nat → List Nat) (l s : Nat) : List Nat := match hk_tb A tw s with | some o => hk_mp A tw (d l o) | none => if hk_keep fo ru l ∧ s ∉ A then d l s ++ hk_mp A tw (d l s) else d l s
def hk_Di (fo ru : Nat → Int) (A : List Nat) (tw : Nat → Nat) (d : Nat → Nat → List Nat) (l i l2 s : Nat) : List Nat := if l2 = l then (match hk_tb A tw s with | some o => if o < i then hk_mp A tw (d l o) else [] | none => if hk_keep fo ru l ∧ s ∉ A ∧ s < i then d l s ++ hk_mp A tw (d l s) else d l s) else if l2 < l then hk_Df fo ru A tw d l2 s else d l2 s
def hk_Dl (fo ru : Nat → Int) (A : List Nat) (tw : Nat → Nat) (d : Nat → Nat → List Nat) (l l2 s : Nat) : List Nat := if l2 < l then hk_Df fo ru A tw d l2 s else d l2 s
theorem hk_Di_0 {fo ru : Nat → Int} {A : List Nat} {tw : Nat → Nat} {d : Nat → Nat → List Nat} (h0 : ∀ l, ∀ o ∈ A, d l (tw o) = []) (l : Nat) : hk_Di fo ru A tw d l 0 = hk_Dl fo ru A tw d l := by
  funext l2 s
  unfold hk_Di hk_Dl
  by_cases e : l2 = l
  · subst e
    rw [if_pos rfl, if_neg (show ¬ l2 < l2 by omega)]
    cases q : hk_tb A tw s with
    | none =>
      dsimp only
      rw [if_neg (fun z => by omega)]
    | some o =>
      obtain ⟨h1, h2⟩ := hk_tb_some q
      dsimp only
      rw [if_neg (by omega), ← h2, h0 l2 o h1]
  · rw [if_neg e]
theorem hk_Di_end {fo ru : Nat → Int} {A : List Nat} {tw : Nat → Nat} {d : Nat → Nat → List Nat} (hA : ∀ o ∈ A, o < 100) (h100 : ∀ l s, 100 ≤ s → d l s = []) (l : Nat) : hk_Di fo ru A tw d l 100 = hk_Dl fo ru A tw d (l + 1) := by
  funext l2 s
  unfold hk_Di hk_Dl
  by_cases e : l2 = l
  · subst e
    rw [if_pos rfl, if_pos (show l2 < l2 + 1 by omega)]
    unfold hk_Df
    cases q : hk_tb A tw s with
    | none =>
      dsimp only
      by_cases k : hk_keep fo ru l2 ∧ s ∉ A
      · rw [if_pos k]
        by_cases r : s < 100
        · rw [if_pos ⟨k.1, k.2, r⟩]
        · rw [if_neg (fun z => r z.2.2), h100 l2 s (by omega)]
          rfl
      · rw [if_neg k, if_neg (fun z => k ⟨z.1, z.2.1⟩)]
    | some o =>
      have h1 := (hk_tb_some q).1
      dsimp only
      rw [if_pos (hA o h1)]
  · rw [if_neg e]
    by_cases f : l2 < l
    · rw [if_pos f, if_pos (by omega)]
    · rw [if_neg f, if_neg (by omega)]
theorem hk_mp_tw {A : List Nat} {tw : Nat → Nat} (h : hk_K A tw) (xs : List Nat) : hk_mp A tw (hk_mp A tw xs) = [] := by
  have e : (hk_mp A tw xs).filter (fun x => decide (x ∈ A)) = [] := by
    refine List.filter_eq_nil_iff.mpr (fun x hx => ?_)
    unfold hk_mp at hx
    obtain ⟨o, h1, h2⟩ := List.mem_map.mp hx
    have h3 := (List.mem_filter.mp h1).2
    have h4 : o ∈ A := by simpa using h3
    have := (h.2.1 o h4).2
    rw [h2] at this
    simpa using this
  show ((hk_mp A tw xs).filter (fun x => decide (x ∈ A))).map tw = []
  rw [e]
  rfl
theorem hk_Di_at {fo ru : Nat → Int} {A : List Nat} {tw : Nat → Nat} {d : Nat → Nat → List Nat} {l i s : Nat} : hk_Di fo ru A tw d l i l s = (match hk_tb A tw s with | some o => if o < i then hk_mp A tw (d l o) else [] | none => if hk_keep fo ru l ∧ s ∉ A ∧ s < i then d l s ++ hk_mp A tw (d l s) else d l s) := by
  unfold hk_Di
  rw [if_pos rfl]
theorem hk_Di_step {fo ru : Nat → Int} {A : List Nat} {tw : Nat → Nat} (h : hk_K A tw) {d : Nat → Nat → List Nat} {l i : Nat} : hk_op fo ru A tw l (hk_Di fo ru A tw d l i) i = hk_Di fo ru A tw d l (i + 1) := by
  unfold hk_op
  by_cases c : i ∈ A
  · have e : hk_sg fo ru A tw l i = some (tw i) := by
      unfold hk_sg
      rw [if_pos c]
    rw [e]
    dsimp only
    rw [hk_Di_at, hk_Di_at, hk_tb_tw h c, hk_tb_old h c]
    dsimp only
    rw [if_neg (by omega), if_neg (fun z => z.2.1 c), List.nil_append]
    funext l2 s
    by_cases e2 : l2 = l ∧ s = tw i
    · obtain ⟨rfl, rfl⟩ := e2
      rw [pr_set_at, hk_Di_at, hk_tb_tw h c]
      dsimp only
      rw [if_pos (by omega)]
    · rw [pr_set_ne _ _ e2]
      by_cases f : l2 = l
      · subst f
        rw [hk_Di_at, hk_Di_at]
        cases q : hk_tb A tw s with
        | none =>
          dsimp only
          by_cases k : hk_keep fo ru l2 ∧ s ∉ A ∧ s < i
          · rw [if_pos k, if_pos ⟨k.1, k.2.1, by omega⟩]
          · rw [if_neg k]
            by_cases k2 : hk_keep fo ru l2 ∧ s ∉ A ∧ s < i + 1
            · have : s = i := by
                by_cases z : s < i
                · exact absurd ⟨k2.1, k2.2.1, z⟩ k
                · omega
              exact absurd (this ▸ c) k2.2.1
            · rw [if_neg k2]
        | some o =>
          obtain ⟨h1, h2⟩ := hk_tb_some q
          have hne : o ≠ i := fun z => e2 ⟨rfl, by rw [← z]; exact h2.symm⟩
          dsimp only
          by_cases r : o < i
          · rw [if_pos r, if_pos (by omega)]
          · rw [if_neg r, if_neg (by omega)]
      · unfold hk_Di
        rw [if_neg f, if_neg f]
  · have hsome : ∀ s o, hk_tb A tw s = some o → o ≠ i := fun s o q z => c (z ▸ (hk_tb_some q).1)
    have same : ∀ s, s ≠ i ∨ ¬ hk_keep fo ru l → (match hk_tb A tw s with | some o => if o < i then hk_mp A tw (d l o) else [] | none => if hk_keep fo ru l ∧ s ∉ A ∧ s < i then d l s ++ hk_mp A tw (d l s) else d l s) = (match hk_tb A tw s with | some o => if o < i + 1 then hk_mp A tw (d l o) else [] | none => if hk_keep fo ru l ∧ s ∉ A ∧ s < i + 1 then d l s ++ hk_mp A tw (d l s) else d l s) := by
      intro s hs
      cases q : hk_tb A tw s with
      | none =>
        dsimp only
        by_cases k : hk_keep fo ru l ∧ s ∉ A ∧ s < i
        · rw [if_pos k, if_pos ⟨k.1, k.2.1, by omega⟩]
        · rw [if_neg k]
          by_cases k2 : hk_keep fo ru l ∧ s ∉ A ∧ s < i + 1
          · have : s = i := by
              by_cases z : s < i
              · exact absurd ⟨k2.1, k2.2.1, z⟩ k
              · omega
            rcases hs with z | z
            · exact absurd this z
            · exact absurd k2.1 z
          · rw [if_neg k2]
      | some o =>
        have hne := hsome s o q
        dsimp only
        by_cases r : o < i
        · rw [if_pos r, if_pos (by omega)]
        · rw [if_neg r, if_neg (by omega)]
    by_cases k : hk_keep fo ru l
    · have e : hk_sg fo ru A tw l i = some i := by
        unfold hk_sg
        rw [if_neg c, if_pos k]
      rw [e]
      dsimp only
      funext l2 s
      by_cases e2 : l2 = l ∧ s = i
      · obtain ⟨rfl, rfl⟩ := e2
        rw [pr_set_at, hk_Di_at, hk_Di_at]
        cases q : hk_tb A tw s with
        | none =>
          dsimp only
          rw [if_neg (fun z => by omega), if_pos ⟨k, c, by omega⟩]
        | some o =>
          have hne := hsome s o q
          dsimp only
          by_cases r : o < s
          · rw [if_pos r, if_pos (by omega), hk_mp_tw h, List.append_nil]
          · rw [if_neg r, if_neg (by omega)]
            rfl
      · rw [pr_set_ne _ _ e2]
        by_cases f : l2 = l
        · subst f
          rw [hk_Di_at, hk_Di_at]
          exact same s (Or.inl (fun z => e2 ⟨rfl, z⟩))
        · unfold hk_Di
          rw [if_neg f, if_neg f]
    · have e : hk_sg fo ru A tw l i = none := by
        unfold hk_sg
        rw [if_neg c, if_neg k]
      rw [e]
      dsimp only
      funext l2 s
      by_cases f : l2 = l
      · subst f
        rw [hk_Di_at, hk_Di_at]
        exact same s (Or.inr k)
      · unfold hk_Di
        rw [if_neg f, if_neg f]
theorem hk_mp_len (A : List Nat) (tw : Nat → Nat) (d : Nat → Nat → List Nat) (l s : Nat) : (hk_mp A tw (d l s)).length = hk_cnt A d l s := by
  unfold hk_mp hk_cnt
  rw [List.length_map]
theorem hk_Di_12 {nl : Nat} {fo ru : Nat → Int} {A : List Nat} {tw : Nat → Nat} (h : hk_K A tw) {d : Nat → Nat → List Nat} (h12 : ∀ l s, (d l s).length ≤ 12) {l i : Nat} (hl : l < nl) (hi : i < 100) (hcr : ¬ hk_cr nl fo ru A d) : ∀ p, hk_sg fo ru A tw l i = some p → (hk_Di fo ru A tw d l i l p).length + (hk_mp A tw (hk_Di fo ru A tw d l i l i)).length ≤ 12 := by
  intro p hp
  have hle : ∀ s, (hk_mp A tw (d l s)).length ≤ (d l s).length := fun s => by
    rw [hk_mp_len]
    exact hk_cnt_le A d l s
  unfold hk_sg at hp
  by_cases c : i ∈ A
  · rw [if_pos c] at hp
    cases hp
    rw [hk_Di_at, hk_Di_at, hk_tb_tw h c, hk_tb_old h c]
    dsimp only
    rw [if_neg (by omega), if_neg (fun z => z.2.1 c)]
    have h1 := hle i
    have h2 := h12 l i
    simp
    omega
  · rw [if_neg c] at hp
    by_cases k : hk_keep fo ru l
    · rw [if_pos k] at hp
      cases hp
      rw [hk_Di_at]
      cases q : hk_tb A tw i with
      | none =>
        dsimp only
        rw [if_neg (fun z => by omega), hk_mp_len]
        have : ¬ 12 < (d l i).length + hk_cnt A d l i := fun z => hcr ⟨l, hl, i, hi, k, c, z⟩
        omega
      | some o =>
        dsimp only
        by_cases r : o < i
        · rw [if_pos r, hk_mp_tw h]
          have h1 := hle o
          have h2 := h12 l o
          simp
          omega
        · rw [if_neg r]
          simp [hk_mp]
    · rw [if_neg k] at hp
      cases hp
