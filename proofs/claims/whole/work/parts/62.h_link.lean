/-! link, make -/
def lf_link : Nat → Int
  | 0 => 1
  | 5 => 2
  | _ => 0
theorem qn_rng {p b : Int} (hp : tl_R p) (hb : tl_R b) (X : Option Int) : tl_gd (tl_R p) (if p < 0 then some (1 : Int) else tl_gd (tl_R p ∧ tl_R b) (if b < p then some (1 : Int) else X)) = if 0 ≤ p ∧ p ≤ b then X else some 1 := by
  rw [tl_gt hp]
  by_cases h : p < 0
  · rw [if_pos h, if_neg (fun z => by omega)]
  · rw [if_neg h, tl_gt ⟨hp, hb⟩]
    by_cases h2 : b < p
    · rw [if_pos h2, if_neg (fun z => by omega)]
    · rw [if_neg h2, if_pos ⟨by omega, by omega⟩]
theorem qn_fails0 {t lk o m pm km lv ra : Int} : fX10_fails t lk o m pm km lv ra 0 = some (0, 0) := by
  unfold fX10_fails
  rw [tl_gt (by decide), if_pos rfl]
theorem qn_fails1 {t lk o m pm km lv ra c : Int} (hR : tl_R c) (hc : c ≠ 0) : fX10_fails t lk o m pm km lv ra c = some (1, c) := by
  unfold fX10_fails
  rw [tl_gt hR, if_neg hc]
theorem hs_I.more {nl nl2 : Nat} {fo ru fo2 ru2 : Nat → Int} {g : Int} {U : Nat → Bool} {nu : Nat → Int} {w d : Nat → Nat → List Nat} (h : hs_I nl fo ru g U nu w d) (hn : nl ≤ nl2) (e : ∀ l, l < nl → fo2 l = fo l ∧ ru2 l = ru l) : hs_I nl2 fo2 ru2 g U nu w d := by
  refine ⟨h.num, h.inj, fun l s x hx => ?_, h.tw, h.nd, h.len, fun l h1 h2 s => ?_, fun n x q => h.ac n x (hs_pa_mono (fun a b hb => ?_) _ _ _ q)⟩
  · obtain ⟨a, b⟩ := h.row l s x hx
    exact ⟨by omega, b⟩
  · by_cases q : l < nl
    · rw [(e l q).1] at h2
      exact h.one l q h2 s
    · have : w l s = [] := List.eq_nil_iff_forall_not_mem.mpr (fun z hz => q (h.row l s z hz).1)
      rw [this]
      exact Nat.zero_le _
  · obtain ⟨k, k1, k2, k3⟩ := pw_mem_own.mp hb
    have hk := (h.row k a b k3).1
    rw [(e k hk).2] at k2
    exact pw_mem_own.mpr ⟨k, hk, k2, k3⟩
theorem ca_link {g lv t ob g2 pm km lv2 ra : Int} {nl : Nat} {fo fr ru to fo2 fr2 ru2 to2 : Nat → Int} (hT : ht_R nl fo fr ru to fo2 fr2 ru2 to2) {p1 p2 p3 p4 : Int} (h1 : tl_R p1) (h2 : tl_R p2) (h3 : tl_R p3) (h4 : tl_R p4) :
    ∃ (c : Nat ⊕ Int) (b t' : Int) (nl' : Nat) (fo' fr' ru' to' fo2' fr2' ru2' to2' : Nat → Int), fX9_link g lv (nl : Int) fo fr ru to p1 p2 p3 p4 = some (c, fo', fr', ru', to', (nl' : Int)) ∧ fX10_link t (nl : Int) ob g2 pm km lv2 ra fo2 fr2 ru2 to2 p1 p2 p3 p4 = some (b, fo2', fr2', ru2', to2', (nl' : Int), t') ∧ lm_A lf_link c b t' ∧ ht_R nl' fo' fr' ru' to' fo2' fr2' ru2' to2' ∧ nl ≤ nl' ∧ ∀ l, l < nl → fo' l = fo l ∧ ru' l = ru l := by
  have hn := hT.1
  unfold fX9_link fX10_link
  rw [cn_below h1 (by decide), cn_below h2 (by decide), cn_below h3 (by decide), cn_below h4 (by decide), qn_rng h1 (by decide), qn_rng h2 (by decide), qn_rng h3 (by decide), qn_rng h4 (by decide)]
  have bad : ∀ (X : Option (Int × (Nat → Int) × (Nat → Int) × (Nat → Int) × (Nat → Int) × Int × Int)), X = some (0, fo2, fr2, ru2, to2, (nl : Int), 1) → ∃ (c : Nat ⊕ Int) (b t' : Int) (nl' : Nat) (fo' fr' ru' to' fo2' fr2' ru2' to2' : Nat → Int), (some (Sum.inl 0, fo, fr, ru, to, (nl : Int)) : Option ((Nat ⊕ Int) × (Nat → Int) × (Nat → Int) × (Nat → Int) × (Nat → Int) × Int)) = some (c, fo', fr', ru', to', (nl' : Int)) ∧ X = some (b, fo2', fr2', ru2', to2', (nl' : Int), t') ∧ lm_A lf_link c b t' ∧ ht_R nl' fo' fr' ru' to' fo2' fr2' ru2' to2' ∧ nl ≤ nl' ∧ ∀ l, l < nl → fo' l = fo l ∧ ru' l = ru l := by
    intro X hX
    exact ⟨_, 0, 1, nl, fo, fr, ru, to, fo2, fr2, ru2, to2, rfl, hX, lm_A.thr rfl (by decide), hT, Nat.le_refl _, fun l _ => ⟨rfl, rfl⟩⟩
  by_cases a1 : 0 ≤ p1 ∧ p1 < 10
  · rw [if_pos a1, if_pos (show 0 ≤ p1 ∧ p1 ≤ 9 by omega), pr_b]
    dsimp only
    by_cases a2 : 0 ≤ p2 ∧ p2 < 10
    · rw [if_pos a2, if_pos (show 0 ≤ p2 ∧ p2 ≤ 9 by omega), pr_b]
      dsimp only
      by_cases a3 : 0 ≤ p3 ∧ p3 < 3
      · rw [if_pos a3, if_pos (show 0 ≤ p3 ∧ p3 ≤ 2 by omega), pr_b]
        dsimp only
        by_cases a4 : 0 ≤ p4 ∧ p4 < 3
        · rw [if_pos a4, if_pos (show 0 ≤ p4 ∧ p4 ≤ 2 by omega), pr_b]
          dsimp only
          unfold fX5_howMany fX5_tell
          have R1 : tl_R (nl : Int) ∧ tl_R (10 : Int) := ⟨⟨by omega, by omega⟩, by decide⟩
          rw [pr_b, pr_b, tl_gt (show tl_R (0 : Int) by decide), if_pos rfl, tl_gt R1, tl_gt R1]
          by_cases a5 : nl < 10
          · have R2 : tl_in (nl : Int) 10 := ⟨by omega, by omega⟩
            refine ⟨.inr ((nl : Int) + 1 - 1), (nl : Int) + 1 - 1, 0, nl + 1, va_up fo nl p3, va_up fr nl p1, va_up ru nl p4, va_up to nl p2, va_up fo2 nl p3, va_up fr2 nl p1, va_up ru2 nl p4, va_up to2 nl p2, ?_, ?_, lm_A.ret rfl rfl, ⟨by omega, fun l hl => ?_⟩, by omega, fun l hl => ?_⟩
            · rw [if_pos (by omega), if_pos (by omega), tl_gt R2, tl_gt R2, tl_gt R2, tl_gt R2, pr_b, Int.toNat_natCast]
              rfl
            · rw [tl_gt R1, if_neg (by omega), pr_b, qn_fails0, pr_b, tl_gt (show tl_R (0 : Int) by decide), if_pos rfl, tl_gt R2, tl_gt R2, tl_gt R2, tl_gt R2, Int.toNat_natCast]
              rfl
            · by_cases q : l = nl
              · subst q
                simp only [va_up_self, true_and]
                exact ⟨⟨by omega, by omega⟩, ⟨by omega, by omega⟩, ⟨by omega, by omega⟩, ⟨by omega, by omega⟩⟩
              · simp only [va_up_ne _ _ q]
                exact hT.2 l (by omega)
            · have q : l ≠ nl := by omega
              rw [va_up_ne _ _ q, va_up_ne _ _ q]
              exact ⟨rfl, rfl⟩
          · refine ⟨.inl 5, 0, 2, nl, fo, fr, ru, to, fo2, fr2, ru2, to2, ?_, ?_, lm_A.thr rfl (by decide), hT, Nat.le_refl _, fun l _ => ⟨rfl, rfl⟩⟩
            · rw [if_neg (by omega)]
            · rw [tl_gt R1, if_pos (by omega), pr_b, qn_fails1 (by decide) (by decide), pr_b, tl_gt (by decide), if_neg (by decide)]
        · rw [if_neg a4, if_neg (show ¬ (0 ≤ p4 ∧ p4 ≤ 2) by omega), pr_b]
          dsimp only
          refine bad _ ?_
          rw [pr_b, tl_gt (by decide), if_neg (by decide), pr_b, qn_fails1 (by decide) (by decide), pr_b, tl_gt (by decide), if_neg (by decide)]
      · rw [if_neg a3, if_neg (show ¬ (0 ≤ p3 ∧ p3 ≤ 2) by omega), pr_b]
        dsimp only
        refine bad _ ?_
        rw [pr_b, tl_gt (by decide), if_neg (by decide), pr_b, qn_fails1 (by decide) (by decide), pr_b, tl_gt (by decide), if_neg (by decide)]
    · rw [if_neg a2, if_neg (show ¬ (0 ≤ p2 ∧ p2 ≤ 9) by omega), pr_b]
      dsimp only
      refine bad _ ?_
      rw [pr_b, tl_gt (by decide), if_neg (by decide), pr_b, qn_fails1 (by decide) (by decide), pr_b, tl_gt (by decide), if_neg (by decide)]
  · rw [if_neg a1, if_neg (show ¬ (0 ≤ p1 ∧ p1 ≤ 9) by omega), pr_b]
    dsimp only
    refine bad _ ?_
    rw [pr_b, tl_gt (by decide), if_neg (by decide), pr_b, qn_fails1 (by decide) (by decide), pr_b, tl_gt (by decide), if_neg (by decide)]
theorem ca_make {lv t lk pm km lv2 ra : Int} {nl : Nat} {fo ru : Nat → Int} {g : Int} {U : Nat → Bool} {nu ki : Nat → Int} {w d : Nat → Nat → List Nat} (h : hs_I nl fo ru g U nu w d) (hg0 : 0 ≤ g) (hg : g ≤ 1000000) {ob pa : Int} {dl : Nat → Int} {dw : Nat → Int64} {hl : Nat → Int} {hw : Nat → Int64} {kk nn : Nat → Int} (hR : hc_R U nu ki w d ob pa dl dw hl hw kk nn) {ob2 : Int} {had hadMany has hasMany kind number used : Nat → Int} (hQ : hq_R U nu ki w d ob2 had hadMany has hasMany kind number used) {p1 : Int} (h1 : tl_R p1) :
    ∃ (c : Nat ⊕ Int) (b t' g' ob' ob2' : Int) (U' : Nat → Bool) (nu' ki' kk' nn' hadMany' hasMany' kind' number' used' : Nat → Int), fX9_make g lv ob pa kk nn p1 = some (c, kk', nn', ob', g') ∧ fX10_make t lk ob2 g pm km lv2 ra hadMany hasMany kind number used p1 = some (b, hadMany', hasMany', kind', number', used', g', ob2', t') ∧ lm_A lf_link c b t' ∧ hs_I nl fo ru g' U' nu' w d ∧ hc_R U' nu' ki' w d ob' pa dl dw hl hw kk' nn' ∧ hq_R U' nu' ki' w d ob2' had hadMany' has hasMany' kind' number' used' ∧ g ≤ g' ∧ g' ≤ g + 1 := by
  have hob := hR.1
  have hob2 := hQ.1
  have hn100 : hs_n U ≤ 100 := by
    have : ∀ n, hs_sum (fun k => if U k = true then 1 else 0) n ≤ n := by
      intro n
      induction n with
      | zero => exact Nat.le_refl _
      | succ n ih =>
        rw [hs_sum]
        by_cases q : U n = true
        · simp only [if_pos q]
          omega
        · simp only [if_neg q]
          omega
    exact this 100
  unfold fX9_make fX10_make fX1_objects
  rw [cn_below h1 (by decide), qn_rng h1 (by decide)]
  by_cases a1 : 0 ≤ p1 ∧ p1 < 10
  · rw [if_pos a1, if_pos (show 0 ≤ p1 ∧ p1 ≤ 9 by omega), pr_b]
    dsimp only
    rw [pr_b, tl_gt ⟨⟨by omega, by omega⟩, by decide⟩, tl_gt ⟨⟨by omega, by omega⟩, by decide⟩]
    by_cases a2 : hs_n U < 100
    · obtain ⟨p, hp, hU, hm, e1, e2⟩ := hc_adm h hg a2 hR h1
      obtain ⟨hm2, ha2, e3, e4⟩ := hq_fresh (t := 0) (lk := lk) (pm := pm) (km := km) (lv := lv2) (ra := ra) h hg0 hg hQ h1 hp hU hm
      rw [if_pos (by omega), if_neg (by omega), e1, pr_b, pr_b, qn_fails0, pr_b, tl_gt (by decide), if_pos rfl, e3, pr_b, tl_gt ⟨by omega, by omega⟩]
      refine ⟨_, _, _, _, _, _, _, _, _, _, _, _, _, _, _, _, rfl, rfl, lm_A.ret rfl ?_, h.adm hg0, e2, e4, by omega, by omega⟩
      rw [Int.toNat_natCast]
      exact (va_up_self _ _ _).symm
    · rw [if_neg (by omega), if_pos (by omega), pr_b, qn_fails1 (by decide) (by decide), pr_b, tl_gt (by decide), if_neg (by decide)]
      exact ⟨_, _, _, _, _, _, _, _, _, _, _, _, _, _, _, _, rfl, rfl, lm_A.thr rfl (by decide), h, hR, hQ, by omega, by omega⟩
  · rw [if_neg a1, if_neg (show ¬ (0 ≤ p1 ∧ p1 ≤ 9) by omega), pr_b]
    dsimp only
    rw [pr_b, qn_fails1 (by decide) (by decide), pr_b, tl_gt (by decide), if_neg (by decide)]
    exact ⟨_, _, _, _, _, _, _, _, _, _, _, _, _, _, _, _, rfl, rfl, lm_A.thr rfl (by decide), h, hR, hQ, by omega, by omega⟩
