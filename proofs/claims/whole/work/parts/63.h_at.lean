/-! at, back, size, path -/
def lf_at : Nat → Int
  | 0 => 1
  | 1 => 2
  | 2 => 3
  | 4 => 4
  | _ => 0
def lf_cut : Nat → Int
  | 0 => 1
  | 1 => 2
  | 2 => 3
  | _ => 0
def lf_ask : Nat → Int
  | 0 => 1
  | 1 => 2
  | _ => 0
def lf_path : Nat → Int
  | 4 => 1
  | _ => 0
theorem pr_get_out {Rw : Nat → Nat → List Nat} {len : Nat → Int} {w : Nat → Int64} (h : pr_R Rw len w) {l s : Nat} (hl : l < 10) (hs : s < 100) {i : Int} (hR : tl_R i) (hi : ¬ (0 ≤ i ∧ i < ((Rw l s).length : Int))) : fX3_get len w (l : Int) (s : Int) i = some (-1) := by
  have h12 := (h l s hl hs).2.1
  unfold fX3_get
  rw [tl_gt hR]
  by_cases q : i < 0
  · rw [if_pos q]
  · rw [if_neg q, pr_lengthOf h hl hs, pr_b, tl_gt ⟨hR, ⟨by omega, by omega⟩⟩, if_neg (fun z => hi ⟨by omega, z⟩)]
theorem ca_at {lv t lk2 ob3 g3 pm km lv2 ra : Int} {nl : Nat} {fo fr ru to fo2 fr2 ru2 to2 : Nat → Int} (hT : ht_R nl fo fr ru to fo2 fr2 ru2 to2) {g : Int} {U : Nat → Bool} {nu ki : Nat → Int} {w d : Nat → Nat → List Nat} (h : hs_I nl fo ru g U nu w d) (hg : g ≤ 1000000) {ob pa : Int} {dl : Nat → Int} {dw : Nat → Int64} {hl : Nat → Int} {hw : Nat → Int64} {kk nn : Nat → Int} (hR : hc_R U nu ki w d ob pa dl dw hl hw kk nn) {ob2 : Int} {had hadMany has hasMany kind number used : Nat → Int} (hQ : hq_R U nu ki w d ob2 had hadMany has hasMany kind number used) {p1 p2 p3 : Int} (h1 : tl_R p1) (h2 : tl_R p2) (h3 : tl_R p3) :
    ∃ (c : Nat ⊕ Int) (b t' : Int), fX9_at g3 lv ob pa hl hw kk nn (nl : Int) fr p1 p2 p3 = some c ∧ fX10_at t (nl : Int) ob3 g3 pm km lv2 ra fr2 has hasMany kind number used p1 p2 p3 = some (b, t') ∧ lm_A lf_at c b t' := by
  have hn := hT.1
  unfold fX9_at fX10_at fX9_numberInRow fX1_has
  rw [cn_link hn h1, qn_link hn h1]
  by_cases a1 : 0 ≤ p1 ∧ p1 < (nl : Int)
  · obtain ⟨l, rfl⟩ : ∃ l : Nat, p1 = (l : Int) := ⟨p1.toNat, by omega⟩
    have hl10 : l < 10 := by omega
    have hTl := hT.2 l (by omega)
    rw [if_pos a1, if_pos a1, pr_b]
    dsimp only
    rcases hs_find U nu p2 with ⟨s, hs, hU, he⟩ | hno
    · have hki := hQ.2.2.2.1 s hs
      have hkR := hki.1
      rw [hki.2 hU] at hkR
      have hmy := qu_many hQ.2.2.1 hl10 hs hU
      rw [cn_slot h hg hR h2 hs hU he, qn_place h hQ h2 hs hU he, pr_b, pr_b, pr_b]
      dsimp only
      rw [pt_fromKind hn (by omega), pr_b, cn_kind hR (by exact ⟨by omega, by omega⟩) hs hU, pr_b, tl_gt (show tl_R (1 : Int) by decide), if_neg (show ¬ (1 : Int) = 0 by decide), tl_gt (show tl_R (s : Int) from ⟨by omega, by omega⟩), if_neg (show ¬ (s : Int) < 0 by omega), tl_gt (show tl_in (s : Int) 100 from ⟨by omega, by omega⟩), tl_gt (show tl_in (l : Int) 10 from ⟨by omega, by omega⟩), Int.toNat_natCast, Int.toNat_natCast, hki.2 hU, hTl.2.1, tl_gt ⟨hkR, ⟨by omega, by omega⟩⟩, show (((l : Int) * 100 + (s : Int))).toNat = l * 100 + s by omega, hmy.1]
      by_cases a3 : ki s = fr l
      · rw [if_pos a3, if_pos a3, tl_gt h3]
        dsimp only
        by_cases a4 : 0 ≤ p3 ∧ p3 < ((w l s).length : Int)
        · obtain ⟨i, rfl⟩ : ∃ i : Nat, p3 = (i : Int) := ⟨p3.toNat, by omega⟩
          have hi : i < (w l s).length := by omega
          have hm := (h.row l s _ (List.getElem_mem hi))
          rw [pr_b, pr_get hR.2.2.2.1 hl10 hs hi, pr_b, tl_gt ⟨⟨by omega, by omega⟩, by decide⟩, if_neg (by omega), ph_numberOf hm.2.2.1, pr_b, pr_b]
          dsimp only
          rw [if_neg (by omega), tl_gt ⟨by omega, by omega⟩, tl_gt ⟨⟨by omega, by omega⟩, ⟨by omega, by omega⟩⟩, if_pos (by omega), pr_b, qn_fails0, pr_b, tl_gt (by decide), if_pos rfl, tl_gt ⟨by omega, by omega⟩, show (((l : Int) * 100 + (s : Int)) * 12 + (i : Int)).toNat = (l * 100 + s) * 12 + i by omega, hmy.2.2.1 i hi, tl_gt ⟨by omega, by omega⟩, Int.toNat_natCast, (hQ.2.2.2.2.1 _ hm.2.2.1).2 hm.2.2.2.2, hR.2.2.2.2.2 _ hm.2.2.1, if_pos hm.2.2.2.2]
          exact ⟨_, _, _, rfl, rfl, lm_A.ret rfl rfl⟩
        · rw [pr_b, pr_get_out hR.2.2.2.1 hl10 hs h3 a4, pr_b, tl_gt (by decide), if_pos rfl, pr_b]
          dsimp only
          by_cases a5 : p3 < 0
          · rw [if_pos a5, pr_b, qn_fails1 (by decide) (by decide), pr_b, tl_gt (by decide), if_neg (by decide)]
            exact ⟨_, _, _, rfl, rfl, lm_A.thr rfl (by decide)⟩
          · rw [if_neg a5, tl_gt ⟨by omega, by omega⟩, tl_gt ⟨h3, ⟨by omega, by omega⟩⟩, if_neg (by omega), pr_b, qn_fails1 (by decide) (by decide), pr_b, tl_gt (by decide), if_neg (by decide)]
            exact ⟨_, _, _, rfl, rfl, lm_A.thr rfl (by decide)⟩
      · rw [if_neg a3, if_neg a3]
        dsimp only
        rw [pr_b, qn_fails1 (by decide) (by decide), pr_b, tl_gt (by decide), if_neg (by decide)]
        exact ⟨_, _, _, rfl, rfl, lm_A.thr rfl (by decide)⟩
    · rw [cn_noslot h hg hR h2 hno, qn_noplace hQ h2 hno, pr_b, pr_b, pr_b, tl_gt (by decide), if_neg (by decide), tl_gt (by decide), if_pos (by decide), pr_b, qn_fails1 (by decide) (by decide), pr_b, tl_gt (by decide), if_neg (by decide)]
      exact ⟨_, _, _, rfl, rfl, lm_A.thr rfl (by decide)⟩
  · have hpl : ∃ r, fX10_placeOf t (nl : Int) ob3 g3 pm km lv2 ra number used p2 = some r := by
      rcases hs_find U nu p2 with ⟨s, hs, hU, he⟩ | hno
      · exact ⟨_, qn_place h hQ h2 hs hU he⟩
      · exact ⟨_, qn_noplace hQ h2 hno⟩
    obtain ⟨r, hr⟩ := hpl
    rw [if_neg a1, if_neg a1, hr, pr_b, pr_b, pr_b, tl_gt (by decide), if_pos rfl, pr_b, qn_fails1 (by decide) (by decide), pr_b, tl_gt (by decide), if_neg (by decide)]
    exact ⟨_, _, _, rfl, rfl, lm_A.thr rfl (by decide)⟩
theorem ca_back {lv t lk2 ob3 g3 pm km lv2 ra : Int} {nl : Nat} {fo fr ru to fo2 fr2 ru2 to2 : Nat → Int} (hT : ht_R nl fo fr ru to fo2 fr2 ru2 to2) {g : Int} {U : Nat → Bool} {nu ki : Nat → Int} {w d : Nat → Nat → List Nat} (h : hs_I nl fo ru g U nu w d) (hg : g ≤ 1000000) {ob pa : Int} {dl : Nat → Int} {dw : Nat → Int64} {hl : Nat → Int} {hw : Nat → Int64} {kk nn : Nat → Int} (hR : hc_R U nu ki w d ob pa dl dw hl hw kk nn) {ob2 : Int} {had hadMany has hasMany kind number used : Nat → Int} (hQ : hq_R U nu ki w d ob2 had hadMany has hasMany kind number used) {p1 p2 p3 : Int} (h1 : tl_R p1) (h2 : tl_R p2) (h3 : tl_R p3) :
    ∃ (c : Nat ⊕ Int) (b t' : Int), fX9_back g3 lv ob pa dl dw kk nn (nl : Int) to p1 p2 p3 = some c ∧ fX10_back t (nl : Int) ob3 g3 pm km lv2 ra had hadMany kind number to2 used p1 p2 p3 = some (b, t') ∧ lm_A lf_at c b t' := by
  have hn := hT.1
  unfold fX9_back fX10_back fX9_numberInRow fX1_had
  rw [cn_link hn h1, qn_link hn h1]
  by_cases a1 : 0 ≤ p1 ∧ p1 < (nl : Int)
  · obtain ⟨l, rfl⟩ : ∃ l : Nat, p1 = (l : Int) := ⟨p1.toNat, by omega⟩
    have hl10 : l < 10 := by omega
    have hTl := hT.2 l (by omega)
    rw [if_pos a1, if_pos a1, pr_b]
    dsimp only
    rcases hs_find U nu p2 with ⟨s, hs, hU, he⟩ | hno
    · have hki := hQ.2.2.2.1 s hs
      have hkR := hki.1
      rw [hki.2 hU] at hkR
      have hmy := qu_many hQ.2.1 hl10 hs hU
      rw [cn_slot h hg hR h2 hs hU he, qn_place h hQ h2 hs hU he, pr_b, pr_b, pr_b]
      dsimp only
      rw [pt_toKind hn (by omega), pr_b, cn_kind hR (by exact ⟨by omega, by omega⟩) hs hU, pr_b, tl_gt (show tl_R (1 : Int) by decide), if_neg (show ¬ (1 : Int) = 0 by decide), tl_gt (show tl_R (s : Int) from ⟨by omega, by omega⟩), if_neg (show ¬ (s : Int) < 0 by omega), tl_gt (show tl_in (s : Int) 100 from ⟨by omega, by omega⟩), tl_gt (show tl_in (l : Int) 10 from ⟨by omega, by omega⟩), Int.toNat_natCast, Int.toNat_natCast, hki.2 hU, hTl.2.2.2.1, tl_gt ⟨hkR, ⟨by omega, by omega⟩⟩, show (((l : Int) * 100 + (s : Int))).toNat = l * 100 + s by omega, hmy.1]
      by_cases a3 : ki s = to l
      · rw [if_pos a3, if_pos a3, tl_gt h3]
        dsimp only
        by_cases a4 : 0 ≤ p3 ∧ p3 < ((d l s).length : Int)
        · obtain ⟨i, rfl⟩ : ∃ i : Nat, p3 = (i : Int) := ⟨p3.toNat, by omega⟩
          have hi : i < (d l s).length := by omega
          have hm0 := h.row l _ s ((h.tw l _ s).mpr (List.getElem_mem hi))
          have hm : True ∧ True ∧ (d l s)[i] < 100 ∧ True ∧ U (d l s)[i] = true := ⟨trivial, trivial, hm0.2.1, trivial, hm0.2.2.2.1⟩
          rw [pr_b, pr_get hR.2.2.1 hl10 hs hi, pr_b, tl_gt ⟨⟨by omega, by omega⟩, by decide⟩, if_neg (by omega), ph_numberOf hm.2.2.1, pr_b, pr_b]
          dsimp only
          rw [if_neg (by omega), tl_gt ⟨by omega, by omega⟩, tl_gt ⟨⟨by omega, by omega⟩, ⟨by omega, by omega⟩⟩, if_pos (by omega), pr_b, qn_fails0, pr_b, tl_gt (by decide), if_pos rfl, tl_gt ⟨by omega, by omega⟩, show (((l : Int) * 100 + (s : Int)) * 12 + (i : Int)).toNat = (l * 100 + s) * 12 + i by omega, hmy.2.2.1 i hi, tl_gt ⟨by omega, by omega⟩, Int.toNat_natCast, (hQ.2.2.2.2.1 _ hm.2.2.1).2 hm.2.2.2.2, hR.2.2.2.2.2 _ hm.2.2.1, if_pos hm.2.2.2.2]
          exact ⟨_, _, _, rfl, rfl, lm_A.ret rfl rfl⟩
        · rw [pr_b, pr_get_out hR.2.2.1 hl10 hs h3 a4, pr_b, tl_gt (by decide), if_pos rfl, pr_b]
          dsimp only
          by_cases a5 : p3 < 0
          · rw [if_pos a5, pr_b, qn_fails1 (by decide) (by decide), pr_b, tl_gt (by decide), if_neg (by decide)]
            exact ⟨_, _, _, rfl, rfl, lm_A.thr rfl (by decide)⟩
          · rw [if_neg a5, tl_gt ⟨by omega, by omega⟩, tl_gt ⟨h3, ⟨by omega, by omega⟩⟩, if_neg (by omega), pr_b, qn_fails1 (by decide) (by decide), pr_b, tl_gt (by decide), if_neg (by decide)]
            exact ⟨_, _, _, rfl, rfl, lm_A.thr rfl (by decide)⟩
      · rw [if_neg a3, if_neg a3]
        dsimp only
        rw [pr_b, qn_fails1 (by decide) (by decide), pr_b, tl_gt (by decide), if_neg (by decide)]
        exact ⟨_, _, _, rfl, rfl, lm_A.thr rfl (by decide)⟩
    · rw [cn_noslot h hg hR h2 hno, qn_noplace hQ h2 hno, pr_b, pr_b, pr_b, tl_gt (by decide), if_neg (by decide), tl_gt (by decide), if_pos (by decide), pr_b, qn_fails1 (by decide) (by decide), pr_b, tl_gt (by decide), if_neg (by decide)]
      exact ⟨_, _, _, rfl, rfl, lm_A.thr rfl (by decide)⟩
  · have hpl : ∃ r, fX10_placeOf t (nl : Int) ob3 g3 pm km lv2 ra number used p2 = some r := by
      rcases hs_find U nu p2 with ⟨s, hs, hU, he⟩ | hno
      · exact ⟨_, qn_place h hQ h2 hs hU he⟩
      · exact ⟨_, qn_noplace hQ h2 hno⟩
    obtain ⟨r, hr⟩ := hpl
    rw [if_neg a1, if_neg a1, hr, pr_b, pr_b, pr_b, tl_gt (by decide), if_pos rfl, pr_b, qn_fails1 (by decide) (by decide), pr_b, tl_gt (by decide), if_neg (by decide)]
    exact ⟨_, _, _, rfl, rfl, lm_A.thr rfl (by decide)⟩
