/-! copy: is there room? -/
abbrev hk_keep (fo ru : Nat → Int) (l : Nat) : Prop := fo l = 2 ∧ ru l ≠ 1
def hk_cnt (A : List Nat) (d : Nat → Nat → List Nat) (l s : Nat) : Nat := ((d l s).filter (fun x => decide (x ∈ A))).length
def hk_P (fo ru : Nat → Int) (A : List Nat) (d : Nat → Nat → List Nat) (l s : Nat) : Prop := hk_keep fo ru l ∧ s ∉ A ∧ 12 < (d l s).length + hk_cnt A d l s
def hk_cr (nl : Nat) (fo ru : Nat → Int) (A : List Nat) (d : Nat → Nat → List Nat) : Prop := ∃ l, l < nl ∧ ∃ s, s < 100 ∧ hk_P fo ru A d l s
theorem hk_cnt_le (A : List Nat) (d : Nat → Nat → List Nat) (l s : Nat) : hk_cnt A d l s ≤ (d l s).length := List.length_filter_le _ _
theorem ck_keep {nl l : Nat} {fo ru : Nat → Int} (hn : nl ≤ 10) (hl : l < nl) (hf : 0 ≤ fo l ∧ fo l ≤ 2) (hr : 0 ≤ ru l ∧ ru l ≤ 2) : ∃ b : Int, fX7_keepsOutsiders (nl : Int) fo ru (l : Int) = some b ∧ (b = 0 ∨ b = 1) ∧ (b = 0 ↔ ¬ hk_keep fo ru l) := by
  unfold fX7_keepsOutsiders
  rw [pt_hasForm hn hl ⟨by omega, by omega⟩ (by decide), pr_b]
  by_cases a : fo l = 2
  · rw [if_pos a, tl_gt (by decide), if_neg (by decide), pt_hasRule hn hl ⟨by omega, by omega⟩ (by decide), pr_b]
    by_cases b : ru l = 1
    · rw [if_pos b, tl_gt (by decide), if_neg (by decide)]
      exact ⟨0, rfl, Or.inl rfl, fun _ z => z.2 b, fun _ => rfl⟩
    · rw [if_neg b, tl_gt (by decide), if_pos rfl]
      exact ⟨1, rfl, Or.inr rfl, fun z => by omega, fun z => absurd ⟨a, b⟩ z⟩
  · rw [if_neg a, tl_gt (by decide), if_pos rfl]
    exact ⟨0, rfl, Or.inl rfl, fun _ z => a z.1, fun _ => rfl⟩
theorem ck_old_L {ob pa : Int} {A : List Nat} {al : Int} {ai as : Nat → Int} (hA : ps_S A al ai as) {d : Nat → Nat → List Nat} {dl : Nat → Int} {dw : Nat → Int64} (hd : pr_R d dl dw) {l s : Nat} (hl : l < 10) (hs : s < 100) :
    ∀ (n i : Nat) (c : Int), i ≤ (d l s).length → (d l s).length + 1 ≤ i + n → fX7_howManyOldHave_L1 al ai ob pa dl dw (l : Int) (s : Int) n (i : Int) c = some (c + ((((d l s).drop i).filter (fun x => decide (x ∈ A))).length : Int)) := by
  obtain ⟨_, h12, _, h4⟩ := hd l s hl hs
  intro n
  induction n with
  | zero => intro i c h1 h2; omega
  | succ n ih =>
    intro i c hi hn
    rw [fX7_howManyOldHave_L1]
    unfold fX1_had
    rw [pr_b, pr_lengthOf hd hl hs, pr_b, tl_gt ⟨⟨by omega, by omega⟩, ⟨by omega, by omega⟩⟩]
    by_cases q : i < (d l s).length
    · have hm := h4 _ (List.getElem_mem q)
      rw [if_pos (by omega), pr_b, pr_get hd hl hs q, pr_b, ps_holds hA hm, pr_b, show (i : Int) + 1 = ((i + 1 : Nat) : Int) by omega, List.drop_eq_getElem_cons q]
      by_cases r : (d l s)[i] ∈ A
      · rw [if_pos r, tl_gt (by decide), if_neg (by decide), ih (i + 1) (c + 1) q (by omega), List.filter_cons_of_pos (by simpa using r), List.length_cons]
        congr 1
        omega
      · rw [if_neg r, tl_gt (by decide), if_pos rfl, ih (i + 1) c q (by omega), List.filter_cons_of_neg (by simpa using r)]
    · rw [if_neg (by omega), List.drop_eq_nil_of_le (by omega)]
      simp
theorem ck_old {ob pa : Int} {A : List Nat} {al : Int} {ai as : Nat → Int} (hA : ps_S A al ai as) {d : Nat → Nat → List Nat} {dl : Nat → Int} {dw : Nat → Int64} (hd : pr_R d dl dw) {l s : Nat} (hl : l < 10) (hs : s < 100) : fX7_howManyOldHave al ai ob pa dl dw (l : Int) (s : Int) = some ((hk_cnt A d l s : Nat) : Int) := by
  have h12 := (hd l s hl hs).2.1
  have e := ck_old_L (ob := ob) (pa := pa) hA hd hl hs tl_N 0 0 (Nat.zero_le _) (by unfold tl_N; omega)
  rw [show ((0 : Nat) : Int) = (0 : Int) from rfl, List.drop_zero] at e
  unfold fX7_howManyOldHave hk_cnt
  rw [e, pr_b]
  congr 1
  omega
theorem ck_fit2 {ob pa : Int} {A : List Nat} {al : Int} {ai as : Nat → Int} (hA : ps_S A al ai as) {d : Nat → Nat → List Nat} {dl : Nat → Int} {dw : Nat → Int64} (hd : pr_R d dl dw) {nl l : Nat} {fo ru : Nat → Int} (hn : nl ≤ 10) (hl : l < nl) (hf : 0 ≤ fo l ∧ fo l ≤ 2) (hr : 0 ≤ ru l ∧ ru l ≤ 2) :
    ∀ (n i : Nat), i ≤ 100 → 101 ≤ i + n → (fX7_fit_L2 al ai (nl : Int) fo ru ob pa dl dw (l : Int) n (i : Int) = some (.inr (.inr 0)) ∧ ∃ s, i ≤ s ∧ s < 100 ∧ hk_P fo ru A d l s) ∨ (fX7_fit_L2 al ai (nl : Int) fo ru ob pa dl dw (l : Int) n (i : Int) = some (.inl ()) ∧ ∀ s, i ≤ s → s < 100 → ¬ hk_P fo ru A d l s) := by
  intro n
  induction n with
  | zero => intro i h1 h2; omega
  | succ n ih =>
    intro i hi hn2
    rw [fX7_fit_L2, tl_gt ⟨⟨by omega, by omega⟩, by decide⟩]
    by_cases q : i < 100
    · obtain ⟨b, b1, b2, b3⟩ := ck_keep hn hl hf hr
      have h12 := (hd l i (by omega) q).2.1
      have hcl := hk_cnt_le A d l i
      have e : (tl_gd (tl_R b) (if b = 0 then some (0 : Int) else (fX4_holds al ai (i : Int)).bind fun z9 => tl_gd (tl_R z9) (if z9 = 0 then (fX7_howManyOldHave al ai ob pa dl dw (l : Int) (i : Int)).bind fun z10 => some z10 else some (0 : Int)))) = some (if hk_keep fo ru l ∧ i ∉ A then ((hk_cnt A d l i : Nat) : Int) else 0) := by
        rw [tl_gt (show tl_R b from ⟨by omega, by omega⟩)]
        by_cases k : hk_keep fo ru l
        · rw [if_neg (fun z => (b3.mp z) k), ps_holds hA q, pr_b]
          by_cases m : i ∈ A
          · rw [if_pos m, tl_gt (by decide), if_neg (by decide), if_neg (fun z => z.2 m)]
          · rw [if_neg m, tl_gt (by decide), if_pos rfl, ck_old hA hd (by omega) q, pr_b, if_pos ⟨k, m⟩]
        · rw [if_pos (b3.mpr k), if_neg (fun z => k z.1)]
      unfold fX1_had
      rw [if_pos (by omega), b1, pr_b, e, pr_b, pr_b, pr_lengthOf hd (by omega) q, pr_b]
      by_cases km : hk_keep fo ru l ∧ i ∉ A
      · rw [if_pos km, tl_gt ⟨⟨by omega, by omega⟩, by decide⟩]
        by_cases v : 12 < (d l i).length + hk_cnt A d l i
        · rw [if_pos (by omega)]
          exact Or.inl ⟨rfl, i, Nat.le_refl _, q, km.1, km.2, v⟩
        · rw [if_neg (by omega), show (i : Int) + 1 = ((i + 1 : Nat) : Int) by omega]
          rcases ih (i + 1) q (by omega) with ⟨z1, s, z2, z3, z4⟩ | ⟨z1, z2⟩
          · exact Or.inl ⟨z1, s, by omega, z3, z4⟩
          · refine Or.inr ⟨z1, fun s h1 h2 => ?_⟩
            by_cases hsi : s = i
            · rw [hsi]
              exact fun z => v z.2.2
            · exact z2 s (by omega) h2
      · rw [if_neg km, tl_gt ⟨⟨by omega, by omega⟩, by decide⟩, if_neg (by omega), show (i : Int) + 1 = ((i + 1 : Nat) : Int) by omega]
        rcases ih (i + 1) q (by omega) with ⟨z1, s, z2, z3, z4⟩ | ⟨z1, z2⟩
        · exact Or.inl ⟨z1, s, by omega, z3, z4⟩
        · refine Or.inr ⟨z1, fun s h1 h2 => ?_⟩
          by_cases hsi : s = i
          · rw [hsi]
            exact fun z => km ⟨z.1, z.2.1⟩
          · exact z2 s (by omega) h2
    · rw [if_neg (by omega)]
      exact Or.inr ⟨rfl, fun s h1 h2 => by omega⟩
theorem ck_fit1 {ob pa : Int} {A : List Nat} {al : Int} {ai as : Nat → Int} (hA : ps_S A al ai as) {d : Nat → Nat → List Nat} {dl : Nat → Int} {dw : Nat → Int64} (hd : pr_R d dl dw) {nl : Nat} {fo ru : Nat → Int} (hn : nl ≤ 10) (hfr : ∀ l, l < nl → (0 ≤ fo l ∧ fo l ≤ 2) ∧ (0 ≤ ru l ∧ ru l ≤ 2)) :
    ∀ (n i : Nat), i ≤ nl → nl + 1 ≤ i + n → (fX7_fit_L1 al ai (nl : Int) fo ru ob pa dl dw n (i : Int) = some (.inr 0) ∧ ∃ l, i ≤ l ∧ l < nl ∧ ∃ s, s < 100 ∧ hk_P fo ru A d l s) ∨ (fX7_fit_L1 al ai (nl : Int) fo ru ob pa dl dw n (i : Int) = some (.inl ()) ∧ ∀ l, i ≤ l → l < nl → ∀ s, s < 100 → ¬ hk_P fo ru A d l s) := by
  intro n
  induction n with
  | zero => intro i h1 h2; omega
  | succ n ih =>
    intro i hi hn2
    rw [fX7_fit_L1]
    unfold fX5_howMany
    rw [pr_b, tl_gt ⟨⟨by omega, by omega⟩, ⟨by omega, by omega⟩⟩]
    by_cases q : i < nl
    · have e := ck_fit2 (ob := ob) (pa := pa) hA hd hn q (hfr i q).1 (hfr i q).2 tl_N 0 (by omega) (by unfold tl_N; omega)
      rw [show ((0 : Nat) : Int) = (0 : Int) from rfl] at e
      rw [if_pos (by omega)]
      rcases e with ⟨e1, s, _, e2, e3⟩ | ⟨e1, e2⟩
      · rw [e1, pr_b]
        exact Or.inl ⟨rfl, i, Nat.le_refl _, q, s, e2, e3⟩
      · rw [e1, pr_b, show (i : Int) + 1 = ((i + 1 : Nat) : Int) by omega]
        rcases ih (i + 1) q (by omega) with ⟨z1, l, z2, z3, z4⟩ | ⟨z1, z2⟩
        · exact Or.inl ⟨z1, l, by omega, z3, z4⟩
        · refine Or.inr ⟨z1, fun l h1 h2 s hs => ?_⟩
          by_cases hli : l = i
          · rw [hli]
            exact e2 s (Nat.zero_le _) hs
          · exact z2 l (by omega) h2 s hs
    · rw [if_neg (by omega)]
      exact Or.inr ⟨rfl, fun l h1 h2 => by omega⟩
theorem ck_fit {ob pa : Int} {A : List Nat} {al : Int} {ai as : Nat → Int} (hA : ps_S A al ai as) {d : Nat → Nat → List Nat} {dl : Nat → Int} {dw : Nat → Int64} (hd : pr_R d dl dw) {nl : Nat} {fo ru : Nat → Int} (hn : nl ≤ 10) (hfr : ∀ l, l < nl → (0 ≤ fo l ∧ fo l ≤ 2) ∧ (0 ≤ ru l ∧ ru l ≤ 2)) {m : Nat} (hob : ob = (m : Int)) (hm : m ≤ 100) : ∃ b : Int, fX7_fit al ai (nl : Int) fo ru ob pa dl dw = some b ∧ (b = 0 ∨ b = 1) ∧ (b = 0 ↔ 100 < m + A.length ∨ hk_cr nl fo ru A d) := by
  have hle := hA.le
  have he := hA.1
  unfold fX7_fit fX1_objects fX4_length
  rw [pr_b, pr_b, tl_gt ⟨⟨by omega, by omega⟩, by decide⟩]
  by_cases a : 100 < m + A.length
  · rw [if_pos (by omega)]
    exact ⟨0, rfl, Or.inl rfl, fun _ => Or.inl a, fun _ => rfl⟩
  · have e := ck_fit1 (ob := ob) (pa := pa) hA hd hn hfr tl_N 0 (by omega) (by unfold tl_N; omega)
    rw [show ((0 : Nat) : Int) = (0 : Int) from rfl] at e
    rw [if_neg (by omega)]
    rcases e with ⟨e1, l, _, e2, e3⟩ | ⟨e1, e2⟩
    · rw [e1, pr_b]
      exact ⟨0, rfl, Or.inl rfl, fun _ => Or.inr ⟨l, e2, e3⟩, fun _ => rfl⟩
    · rw [e1, pr_b]
      refine ⟨1, rfl, Or.inr rfl, fun z => by omega, fun z => ?_⟩
      rcases z with z | ⟨l, z1, s, z2, z3⟩
      · exact absurd z a
      · exact absurd z3 (e2 l (Nat.zero_le _) z1 s z2)
