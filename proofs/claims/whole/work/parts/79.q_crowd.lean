/-! copy: is there room? the reference counts from the other side -/
theorem hk_cnt_tw {w d : Nat → Nat → List Nat} {A : List Nat} {l s : Nat} (tw : ∀ l s x, x ∈ w l s ↔ s ∈ d l x) (hd : (d l s).Nodup) (hA : A.Nodup) : (A.filter (fun o => decide (s ∈ w l o))).length = hk_cnt A d l s := by
  unfold hk_cnt
  refine Nat.le_antisymm (hk_len _ _ (hA.sublist List.filter_sublist) (fun x hx => ?_)) (hk_len _ _ (hd.sublist List.filter_sublist) (fun x hx => ?_))
  · have h1 := List.mem_filter.mp hx
    exact List.mem_filter.mpr ⟨(tw l x s).mp (by simpa using h1.2), by simpa using h1.1⟩
  · have h1 := List.mem_filter.mp hx
    exact List.mem_filter.mpr ⟨by simpa using h1.2, by simpa using (tw l x s).mpr h1.1⟩
theorem qf_L2 : ∀ (n i : Nat) (x : Nat → Int), i ≤ 100 → 101 ≤ i + n → ∃ x', fX10_isCrowded_L2 n (i : Int) x = some x' ∧ ∀ k, k < 100 → x' k = if i ≤ k then 0 else x k := by
  intro n
  induction n with
  | zero => intro i x h1 h2; omega
  | succ n ih =>
    intro i x hi hn
    rw [fX10_isCrowded_L2, tl_gt ⟨⟨by omega, by omega⟩, by decide⟩]
    by_cases hq : i < 100
    · rw [if_pos (by omega), tl_gt ⟨by omega, by omega⟩, Int.toNat_natCast, show (i : Int) + 1 = ((i + 1 : Nat) : Int) by omega]
      obtain ⟨x', h1, h2⟩ := ih (i + 1) (va_up x i 0) hq (by omega)
      refine ⟨x', h1, fun k hk => ?_⟩
      rw [h2 k hk]
      by_cases h3 : k = i
      · rw [h3, va_up_self, if_neg (by omega), if_pos (by omega)]
      · rw [va_up_ne _ _ h3]
        by_cases h4 : i + 1 ≤ k
        · rw [if_pos h4, if_pos (by omega)]
        · rw [if_neg h4, if_neg (by omega)]
    · rw [if_neg (by omega)]
      exact ⟨x, rfl, fun k hk => by rw [if_neg (by omega)]⟩
theorem qf_L4 {has hasMany olds : Nat → Int} {U : Nat → Bool} {w : Nat → Nat → List Nat} (hh : qu_R U w hasMany has) {l o j : Nat} (hl : l < 10) (ho : o < 100) (hU : U o = true) (hn : (w l o).Nodup) (eo : olds j = (o : Int)) :
    ∀ (n i : Nat) (x : Nat → Int), i ≤ (w l o).length → (w l o).length + 1 ≤ i + n → ∃ x', fX10_isCrowded_L4 has hasMany olds (l : Int) (j : Int) n (i : Int) x = some x' ∧ ∀ k, x' k = x k + (if k ∈ (w l o).drop i then 1 else 0) := by
  obtain ⟨h1, h12, h3, h4⟩ := qu_many hh hl ho hU
  have er : (((l : Nat) : Int) * (100 : Int) + (o : Int)) = ((l * 100 + o : Nat) : Int) := by omega
  intro n
  induction n with
  | zero => intro i x a b; omega
  | succ n ih =>
    intro i x hi hn2
    rw [fX10_isCrowded_L4, Int.toNat_natCast, eo, er, tl_gt ⟨by omega, by omega⟩, Int.toNat_natCast, h1, tl_gt ⟨⟨by omega, by omega⟩, ⟨by omega, by omega⟩⟩]
    by_cases q : i < (w l o).length
    · have hm := h4 _ (List.getElem_mem q)
      rw [if_pos (by omega), tl_gt ⟨by omega, by omega⟩, qr_ix, h3 i q, tl_gt ⟨by omega, by omega⟩, tl_gt ⟨by omega, by omega⟩, Int.toNat_natCast, show (i : Int) + 1 = ((i + 1 : Nat) : Int) by omega]
      obtain ⟨x', a1, a2⟩ := ih (i + 1) (va_up x (w l o)[i] (x (w l o)[i] + 1)) q (by omega)
      refine ⟨x', a1, fun k => ?_⟩
      have hnd : (w l o)[i] ∉ (w l o).drop (i + 1) := by
        have : ((w l o).drop i).Nodup := hn.sublist (List.drop_sublist _ _)
        rw [List.drop_eq_getElem_cons q] at this
        exact (List.nodup_cons.mp this).1
      rw [a2 k, List.drop_eq_getElem_cons q]
      by_cases e : k = (w l o)[i]
      · rw [e, va_up_self, if_neg hnd, if_pos List.mem_cons_self]
        omega
      · rw [va_up_ne _ _ e]
        by_cases z : k ∈ (w l o).drop (i + 1)
        · rw [if_pos z, if_pos (List.mem_cons_of_mem _ z)]
        · rw [if_neg z, if_neg (fun v => (List.mem_cons.mp v).elim e z)]
    · rw [if_neg (by omega)]
      refine ⟨x, rfl, fun k => ?_⟩
      rw [List.drop_eq_nil_of_le (by omega), if_neg (by simp)]
      omega
theorem qf_L3 {has hasMany olds : Nat → Int} {U : Nat → Bool} {w : Nat → Nat → List Nat} (hh : qu_R U w hasMany has) (hn : ∀ l s, (w l s).Nodup) {A : List Nat} {l : Nat} (hl : l < 10) (hA : ∀ o ∈ A, o < 100 ∧ U o = true) (hAl : A.length ≤ 100) (eo : ∀ (i : Nat) (h : i < A.length), olds i = ((A[i] : Nat) : Int)) :
    ∀ (n j : Nat) (x : Nat → Int), j ≤ A.length → A.length + 1 ≤ j + n → ∃ x', fX10_isCrowded_L3 has hasMany olds (A.length : Int) (l : Int) n (j : Int) x = some x' ∧ ∀ k, x' k = x k + (((A.drop j).filter (fun o => decide (k ∈ w l o))).length : Int) := by
  intro n
  induction n with
  | zero => intro j x a b; omega
  | succ n ih =>
    intro j x hj hn2
    rw [fX10_isCrowded_L3, tl_gt ⟨⟨by omega, by omega⟩, ⟨by omega, by omega⟩⟩]
    by_cases q : j < A.length
    · obtain ⟨o1, o2⟩ := hA _ (List.getElem_mem q)
      have h12 := (qu_many hh hl o1 o2).2.1
      obtain ⟨x1, a1, a2⟩ := qf_L4 hh hl o1 o2 (hn l _) (eo j q) tl_N 0 x (Nat.zero_le _) (by unfold tl_N; omega)
      rw [show ((0 : Nat) : Int) = (0 : Int) from rfl] at a1
      rw [List.drop_zero] at a2
      obtain ⟨x2, b1, b2⟩ := ih (j + 1) x1 q (by omega)
      rw [if_pos (by omega), tl_gt ⟨by omega, by omega⟩, a1, pr_b, show (j : Int) + 1 = ((j + 1 : Nat) : Int) by omega]
      refine ⟨x2, b1, fun k => ?_⟩
      rw [b2 k, a2 k, List.drop_eq_getElem_cons q]
      by_cases z : k ∈ w l A[j]
      · rw [if_pos z, List.filter_cons_of_pos (by simpa using z), List.length_cons]
        omega
      · rw [if_neg z, List.filter_cons_of_neg (by simpa using z)]
        omega
    · rw [if_neg (by omega)]
      refine ⟨x, rfl, fun k => ?_⟩
      rw [List.drop_eq_nil_of_le (by omega)]
      simp
theorem qf_L5 {U : Nat → Bool} {fo ru : Nat → Int} {w d : Nat → Nat → List Nat} {A : List Nat} {had hadMany under used more : Nat → Int} (hd : qu_R U d hadMany had) (hno : ∀ s l, U s = false → d l s = []) (hu : ∀ k, k < 100 → used k = if U k = true then 1 else 0) (hund : ∀ k, k < 100 → under k = if k ∈ A then 1 else 0) {l : Nat} (hl : l < 10) (hk : hk_keep fo ru l) (hmo : ∀ k, k < 100 → more k = ((hk_cnt A d l k : Nat) : Int)) :
    ∀ (n i : Nat), i ≤ 100 → 101 ≤ i + n → (fX10_isCrowded_L5 hadMany under used (l : Int) more n (i : Int) = some (.inr (.inr (1, more))) ∧ ∃ s, i ≤ s ∧ s < 100 ∧ hk_P fo ru A d l s) ∨ (fX10_isCrowded_L5 hadMany under used (l : Int) more n (i : Int) = some (.inl ()) ∧ ∀ s, i ≤ s → s < 100 → ¬ hk_P fo ru A d l s) := by
  intro n
  induction n with
  | zero => intro i h1 h2; omega
  | succ n ih =>
    intro i hi hn2
    rw [fX10_isCrowded_L5, tl_gt ⟨⟨by omega, by omega⟩, by decide⟩]
    by_cases q : i < 100
    · have iI : tl_in (i : Int) 100 := ⟨by omega, by omega⟩
      have next : ¬ hk_P fo ru A d l i → (fX10_isCrowded_L5 hadMany under used (l : Int) more n ((i + 1 : Nat) : Int) = some (.inr (.inr (1, more))) ∧ ∃ s, i ≤ s ∧ s < 100 ∧ hk_P fo ru A d l s) ∨ (fX10_isCrowded_L5 hadMany under used (l : Int) more n ((i + 1 : Nat) : Int) = some (.inl ()) ∧ ∀ s, i ≤ s → s < 100 → ¬ hk_P fo ru A d l s) := by
        intro hp
        rcases ih (i + 1) q (by omega) with ⟨z1, s, z2, z3, z4⟩ | ⟨z1, z2⟩
        · exact Or.inl ⟨z1, s, by omega, z3, z4⟩
        · refine Or.inr ⟨z1, fun s h1 h2 => ?_⟩
          by_cases hsi : s = i
          · rw [hsi]
            exact hp
          · exact z2 s (by omega) h2
      rw [if_pos (by omega), tl_gt iI, Int.toNat_natCast, tl_gt (hq_uR hu i q), show (i : Int) + 1 = ((i + 1 : Nat) : Int) by omega]
      by_cases r : U i = true
      · obtain ⟨m1, m2, _, _⟩ := qu_many hd hl q r
        have hcl := hk_cnt_le A d l i
        have hm := hmo i q
        rw [hu i q, if_pos r, if_neg (by decide), tl_gt iI, hund i q]
        by_cases a : i ∈ A
        · rw [if_pos a, tl_gt (by decide), if_neg (by decide)]
          exact next (fun z => z.2.1 a)
        · rw [if_neg a, tl_gt (by decide), if_pos rfl, tl_gt iI, tl_gt (show tl_R (more i) from ⟨by omega, by omega⟩)]
          by_cases b : 0 < more i
          · rw [if_pos b, tl_gt ⟨by omega, by omega⟩, tl_gt iI, show (((l : Int) * 100 + (i : Int))).toNat = l * 100 + i by omega, tl_gt ⟨⟨by omega, by omega⟩, by decide⟩]
            by_cases c : 12 < (d l i).length + hk_cnt A d l i
            · rw [if_pos (by omega)]
              exact Or.inl ⟨rfl, i, Nat.le_refl _, q, hk, a, c⟩
            · rw [if_neg (by omega)]
              exact next (fun z => c z.2.2)
          · rw [if_neg b]
            exact next (fun z => by have := z.2.2; omega)
      · have hf : U i = false := by simpa using r
        rw [hu i q, if_neg r, if_pos rfl]
        refine next (fun z => ?_)
        have h1 := z.2.2
        have h2 := hk_cnt_le A d l i
        rw [hno i l hf] at h1 h2
        simp at h1 h2
        omega
    · rw [if_neg (by omega)]
      exact Or.inr ⟨rfl, fun s h1 h2 => by omega⟩
theorem qf_L1 {nl : Nat} {fo fr ru to fo2 fr2 ru2 to2 : Nat → Int} (hT : ht_R nl fo fr ru to fo2 fr2 ru2 to2) {g : Int} {U : Nat → Bool} {nu : Nat → Int} {w d : Nat → Nat → List Nat} (h : hs_I nl fo ru g U nu w d) {A : List Nat} {had hadMany has hasMany under used olds : Nat → Int} (hd : qu_R U d hadMany had) (hh : qu_R U w hasMany has) (hu : ∀ k, k < 100 → used k = if U k = true then 1 else 0) (hund : ∀ k, k < 100 → under k = if k ∈ A then 1 else 0) (hA : ∀ o ∈ A, o < 100 ∧ U o = true) (hAn : A.Nodup) (eo : ∀ (i : Nat) (h : i < A.length), olds i = ((A[i] : Nat) : Int)) :
    ∀ (n i : Nat) (more : Nat → Int), i ≤ nl → nl + 1 ≤ i + n → ∃ more', (fX10_isCrowded_L1 (nl : Int) fo2 hadMany has hasMany olds ru2 under used (A.length : Int) n (i : Int) more = some (.inr (1, more')) ∧ ∃ l, i ≤ l ∧ l < nl ∧ ∃ s, s < 100 ∧ hk_P fo ru A d l s) ∨ (fX10_isCrowded_L1 (nl : Int) fo2 hadMany has hasMany olds ru2 under used (A.length : Int) n (i : Int) more = some (.inl more') ∧ ∀ l, i ≤ l → l < nl → ∀ s, s < 100 → ¬ hk_P fo ru A d l s) := by
  have hn10 := hT.1
  have hAl := ps_len 100 A hAn (fun o ho => (hA o ho).1)
  intro n
  induction n with
  | zero => intro i more h1 h2; omega
  | succ n ih =>
    intro i more hi hn2
    rw [fX10_isCrowded_L1, tl_gt ⟨⟨by omega, by omega⟩, ⟨by omega, by omega⟩⟩]
    by_cases q : i < nl
    · have hTl := hT.2 i q
      have iL : tl_in (i : Int) 10 := ⟨by omega, by omega⟩
      have next : ∀ mo : Nat → Int, (∀ s, s < 100 → ¬ hk_P fo ru A d i s) → ∃ more', (fX10_isCrowded_L1 (nl : Int) fo2 hadMany has hasMany olds ru2 under used (A.length : Int) n ((i + 1 : Nat) : Int) mo = some (.inr (1, more')) ∧ ∃ l, i ≤ l ∧ l < nl ∧ ∃ s, s < 100 ∧ hk_P fo ru A d l s) ∨ (fX10_isCrowded_L1 (nl : Int) fo2 hadMany has hasMany olds ru2 under used (A.length : Int) n ((i + 1 : Nat) : Int) mo = some (.inl more') ∧ ∀ l, i ≤ l → l < nl → ∀ s, s < 100 → ¬ hk_P fo ru A d l s) := by
        intro mo hp
        obtain ⟨more', z⟩ := ih (i + 1) mo q (by omega)
        refine ⟨more', ?_⟩
        rcases z with ⟨z1, l, z2, z3, z4⟩ | ⟨z1, z2⟩
        · exact Or.inl ⟨z1, l, by omega, z3, z4⟩
        · refine Or.inr ⟨z1, fun l h1 h2 => ?_⟩
          by_cases hli : l = i
          · rw [hli]
            exact hp
          · exact z2 l (by omega) h2
      rw [if_pos (by omega), tl_gt iL, Int.toNat_natCast, hTl.2.2.1, hTl.1, tl_gt ⟨⟨by omega, by omega⟩, by decide⟩, show (i : Int) + 1 = ((i + 1 : Nat) : Int) by omega]
      by_cases r : ru i = 1
      · rw [if_pos r]
        exact next more (fun s _ z => z.1.2 r)
      · rw [if_neg r, tl_gt iL, tl_gt ⟨⟨by omega, by omega⟩, by decide⟩]
        by_cases f : fo i = 2
        · obtain ⟨x1, a1, a2⟩ := qf_L2 tl_N 0 more (by omega) (by unfold tl_N; omega)
          obtain ⟨x2, b1, b2⟩ := qf_L3 hh (fun l s => (h.nd l s).1) (l := i) (by omega) hA hAl eo tl_N 0 x1 (Nat.zero_le _) (by unfold tl_N; omega)
          rw [List.drop_zero] at b2
          have hmo : ∀ k, k < 100 → x2 k = ((hk_cnt A d i k : Nat) : Int) := by
            intro k hk
            rw [b2 k, a2 k hk, if_pos (Nat.zero_le _), hk_cnt_tw h.tw (h.nd i k).2 hAn]
            omega
          have c := qf_L5 (fo := fo) (ru := ru) (w := w) hd (fun s l hs => (h.none hs l).2) hu hund (l := i) (by omega) ⟨f, r⟩ hmo tl_N 0 (by omega) (by unfold tl_N; omega)
          rw [show ((0 : Nat) : Int) = (0 : Int) from rfl] at a1 b1 c
          rw [if_pos f, a1, pr_b, b1, pr_b]
          rcases c with ⟨c1, s, _, c2, c3⟩ | ⟨c1, c2⟩
          · rw [c1, pr_b]
            exact ⟨x2, Or.inl ⟨rfl, i, Nat.le_refl _, q, s, c2, c3⟩⟩
          · rw [c1, pr_b]
            exact next x2 (fun s hs => c2 s (Nat.zero_le _) hs)
        · rw [if_neg f]
          exact next more (fun s _ z => f z.1.1)
    · rw [if_neg (by omega)]
      exact ⟨more, Or.inr ⟨rfl, fun l h1 h2 => by omega⟩⟩
theorem hq_crowd {t o m pm km lv ra : Int} {nl : Nat} {fo fr ru to fo2 fr2 ru2 to2 : Nat → Int} (hT : ht_R nl fo fr ru to fo2 fr2 ru2 to2) {g : Int} {U : Nat → Bool} {nu : Nat → Int} {w d : Nat → Nat → List Nat} (h : hs_I nl fo ru g U nu w d) {A : List Nat} {had hadMany has hasMany under used olds more : Nat → Int} (hd : qu_R U d hadMany had) (hh : qu_R U w hasMany has) (hu : ∀ k, k < 100 → used k = if U k = true then 1 else 0) (hund : ∀ k, k < 100 → under k = if k ∈ A then 1 else 0) (hA : ∀ o ∈ A, o < 100 ∧ U o = true) (hAn : A.Nodup) (eo : ∀ (i : Nat) (h : i < A.length), olds i = ((A[i] : Nat) : Int)) :
    ∃ (b : Int) (more' : Nat → Int), fX10_isCrowded t (nl : Int) o m pm km lv ra fo2 hadMany has hasMany more olds ru2 under used (A.length : Int) = some (b, more') ∧ (b = 0 ∨ b = 1) ∧ (b = 1 ↔ hk_cr nl fo ru A d) := by
  obtain ⟨more', e⟩ := qf_L1 hT h hd hh hu hund hA hAn eo tl_N 0 more (by omega) (by have := hT.1; unfold tl_N; omega)
  rw [show ((0 : Nat) : Int) = (0 : Int) from rfl] at e
  unfold fX10_isCrowded
  rcases e with ⟨e1, l, _, e2, e3⟩ | ⟨e1, e2⟩
  · rw [e1, pr_b]
    exact ⟨1, more', rfl, Or.inr rfl, fun _ => ⟨l, e2, e3⟩, fun _ => rfl⟩
  · rw [e1, pr_b]
    refine ⟨0, more', rfl, Or.inl rfl, fun z => by omega, fun z => ?_⟩
    obtain ⟨l, z1, s, z2, z3⟩ := z
    exact absurd z3 (e2 l (Nat.zero_le _) z1 s z2)
