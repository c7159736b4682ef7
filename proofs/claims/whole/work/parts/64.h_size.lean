/-! size, path -/
theorem ca_size {lv t ob3 g3 pm km lv2 ra : Int} {nl : Nat} {fo fr ru to fo2 fr2 ru2 to2 : Nat → Int} (hT : ht_R nl fo fr ru to fo2 fr2 ru2 to2) {g : Int} {U : Nat → Bool} {nu ki : Nat → Int} {w d : Nat → Nat → List Nat} (h : hs_I nl fo ru g U nu w d) (hg : g ≤ 1000000) {ob pa : Int} {dl : Nat → Int} {dw : Nat → Int64} {hl : Nat → Int} {hw : Nat → Int64} {kk nn : Nat → Int} (hR : hc_R U nu ki w d ob pa dl dw hl hw kk nn) {ob2 : Int} {had hadMany has hasMany kind number used : Nat → Int} (hQ : hq_R U nu ki w d ob2 had hadMany has hasMany kind number used) {p1 p2 p3 : Int} (h1 : tl_R p1) (h2 : tl_R p2) (h3 : tl_R p3) :
    ∃ (c : Nat ⊕ Int) (b t' : Int), fX9_size g3 lv ob pa dl hl kk nn (nl : Int) fr to p1 p2 p3 = some c ∧ fX10_size t (nl : Int) ob3 g3 pm km lv2 ra fr2 hadMany hasMany kind number to2 used p1 p2 p3 = some (b, t') ∧ lm_A lf_cut c b t' := by
  have hn := hT.1
  have hpl : ∃ r, fX10_placeOf t (nl : Int) ob3 g3 pm km lv2 ra number used p2 = some r := by
    rcases hs_find U nu p2 with ⟨s, hs, hU, he⟩ | hno
    · exact ⟨_, qn_place h hQ h2 hs hU he⟩
    · exact ⟨_, qn_noplace hQ h2 hno⟩
  by_cases a1 : 0 ≤ p1 ∧ p1 < (nl : Int)
  · obtain ⟨l, rfl⟩ : ∃ l : Nat, p1 = (l : Int) := ⟨p1.toNat, by omega⟩
    have hl10 : l < 10 := by omega
    have hTl := hT.2 l (by omega)
    by_cases a2 : 0 ≤ p3 ∧ p3 < 2
    · have a2' : 0 ≤ p3 ∧ p3 ≤ 1 := by omega
      rcases hs_find U nu p2 with ⟨s, hs, hU, he⟩ | hno
      · have hki := hQ.2.2.2.1 s hs
        have hkR := hki.1
        rw [hki.2 hU] at hkR
        have hmy := qu_many hQ.2.2.1 hl10 hs hU
        have hmd := qu_many hQ.2.1 hl10 hs hU
        have e2 : ∀ X : Int, tl_R X → (fX10_size t (nl : Int) ob3 g3 pm km lv2 ra fr2 hadMany hasMany kind number to2 used (l : Int) p2 p3 = if ki s = (if p3 = 0 then fr l else to l) then some (if p3 = 0 then ((w l s).length : Int) else ((d l s).length : Int), 0) else some (0, 3)) := by
          intro X _
          unfold fX10_size
          rw [qn_place h hQ h2 hs hU he, pr_b, qn_link hn h1, if_pos a1, pr_b, tl_gt (show tl_R (1 : Int) by decide), if_neg (show ¬ (1 : Int) = 0 by decide), qn_rng h3 (by decide), if_pos a2', tl_gt (show tl_R (s : Int) from ⟨by omega, by omega⟩), if_neg (show ¬ (s : Int) < 0 by omega), tl_gt (show tl_in (s : Int) 100 from ⟨by omega, by omega⟩), tl_gt h3, tl_gt (show tl_in (l : Int) 10 from ⟨by omega, by omega⟩), tl_gt (show tl_in (l : Int) 10 from ⟨by omega, by omega⟩), Int.toNat_natCast, Int.toNat_natCast, hki.2 hU, hTl.2.1, hTl.2.2.2.1, show (((l : Int) * 100 + (s : Int))).toNat = l * 100 + s by omega, hmy.1, hmd.1]
          by_cases a3 : p3 = 0
          · rw [if_pos a3, if_pos a3, if_pos a3, pr_b, tl_gt ⟨hkR, ⟨by omega, by omega⟩⟩]
            by_cases a4 : ki s = fr l
            · rw [if_pos a4, if_pos a4, pr_b, qn_fails0, pr_b, tl_gt (by decide), if_pos rfl, tl_gt h3, if_pos a3, tl_gt ⟨by omega, by omega⟩]
            · rw [if_neg a4, if_neg a4, pr_b, qn_fails1 (by decide) (by decide), pr_b, tl_gt (by decide), if_neg (by decide)]
          · rw [if_neg a3, if_neg a3, if_neg a3, pr_b, tl_gt ⟨hkR, ⟨by omega, by omega⟩⟩]
            by_cases a4 : ki s = to l
            · rw [if_pos a4, if_pos a4, pr_b, qn_fails0, pr_b, tl_gt (by decide), if_pos rfl, tl_gt h3, if_neg a3, tl_gt ⟨by omega, by omega⟩]
            · rw [if_neg a4, if_neg a4, pr_b, qn_fails1 (by decide) (by decide), pr_b, tl_gt (by decide), if_neg (by decide)]
        have e1 : fX9_size g3 lv ob pa dl hl kk nn (nl : Int) fr to (l : Int) p2 p3 = if ki s = (if p3 = 0 then fr l else to l) then some (.inr (if p3 = 0 then ((w l s).length : Int) else ((d l s).length : Int))) else some (.inl 2) := by
          unfold fX9_size fX1_has fX1_had
          rw [cn_link hn h1, if_pos a1, pr_b]
          dsimp only
          rw [cn_below h3 (by decide), if_pos a2, pr_b]
          dsimp only
          rw [cn_slot h hg hR h2 hs hU he, pr_b]
          dsimp only
          rw [tl_gt h3]
          by_cases a3 : p3 = 0
          · rw [if_pos a3, if_pos a3, if_pos a3, pt_fromKind hn (by omega), pr_b, pr_b, cn_kind hR (by exact ⟨by omega, by omega⟩) hs hU, pr_b]
            by_cases a4 : ki s = fr l
            · rw [if_pos a4, if_pos a4]
              dsimp only
              rw [tl_gt h3, if_pos a3, pr_b, pr_lengthOf hR.2.2.2.1 hl10 hs, pr_b]
            · rw [if_neg a4, if_neg a4]
          · rw [if_neg a3, if_neg a3, if_neg a3, pt_toKind hn (by omega), pr_b, pr_b, cn_kind hR (by exact ⟨by omega, by omega⟩) hs hU, pr_b]
            by_cases a4 : ki s = to l
            · rw [if_pos a4, if_pos a4]
              dsimp only
              rw [tl_gt h3, if_neg a3, pr_b, pr_lengthOf hR.2.2.1 hl10 hs, pr_b]
            · rw [if_neg a4, if_neg a4]
        rw [e1, e2 0 (by decide)]
        by_cases a4 : ki s = (if p3 = 0 then fr l else to l)
        · rw [if_pos a4, if_pos a4]
          exact ⟨_, _, _, rfl, rfl, lm_A.ret rfl rfl⟩
        · rw [if_neg a4, if_neg a4]
          exact ⟨_, _, _, rfl, rfl, lm_A.thr rfl (by decide)⟩
      · refine ⟨.inl 1, 0, 2, ?_, ?_, lm_A.thr rfl (by decide)⟩
        · unfold fX9_size
          rw [cn_link hn h1, if_pos a1, pr_b]
          dsimp only
          rw [cn_below h3 (by decide), if_pos a2, pr_b]
          dsimp only
          rw [cn_noslot h hg hR h2 hno, pr_b]
        · unfold fX10_size
          rw [qn_noplace hQ h2 hno, pr_b, qn_link hn h1, if_pos a1, pr_b, tl_gt (show tl_R (1 : Int) by decide), if_neg (show ¬ (1 : Int) = 0 by decide), qn_rng h3 (by decide), if_pos a2', tl_gt (by decide), if_pos (by decide), pr_b, qn_fails1 (by decide) (by decide), pr_b, tl_gt (by decide), if_neg (by decide)]
    · obtain ⟨r, hr⟩ := hpl
      refine ⟨.inl 0, 0, 1, ?_, ?_, lm_A.thr rfl (by decide)⟩
      · unfold fX9_size
        rw [cn_link hn h1, if_pos a1, pr_b]
        dsimp only
        rw [cn_below h3 (by decide), if_neg a2, pr_b]
      · unfold fX10_size
        rw [hr, pr_b, qn_link hn h1, if_pos a1, pr_b, tl_gt (show tl_R (1 : Int) by decide), if_neg (show ¬ (1 : Int) = 0 by decide), qn_rng h3 (by decide), if_neg (show ¬ (0 ≤ p3 ∧ p3 ≤ 1) by omega), pr_b, qn_fails1 (by decide) (by decide), pr_b, tl_gt (by decide), if_neg (by decide)]
  · obtain ⟨r, hr⟩ := hpl
    refine ⟨.inl 0, 0, 1, ?_, ?_, lm_A.thr rfl (by decide)⟩
    · unfold fX9_size
      rw [cn_link hn h1, if_neg a1, pr_b]
    · unfold fX10_size
      rw [hr, pr_b, qn_link hn h1, if_neg a1, pr_b, tl_gt (by decide), if_pos rfl, pr_b, qn_fails1 (by decide) (by decide), pr_b, tl_gt (by decide), if_neg (by decide)]
theorem ca_path {g lv t lk ob g3 km lv2 ra : Int} {L : List Int} {tl pm : Int} {tv pv : Nat → Int} (hL : pt_T 100 L tl tv) (hP : pt_T 101 L pm pv) {p1 : Int} (h1 : tl_R p1) : ∃ (c : Nat ⊕ Int) (b t' : Int), fX9_path g lv tl tv p1 = some c ∧ fX10_path t lk ob g3 pm km lv2 ra pv p1 = some (b, t') ∧ lm_A lf_path c b t' := by
  obtain ⟨e1, e2, e3⟩ := hL
  obtain ⟨f1, f2, f3⟩ := hP
  subst e1 f1
  unfold fX9_path fX10_path fX6_length fX6_get
  by_cases a1 : p1 < 0
  · refine ⟨.inl 4, 0, 1, ?_, ?_, lm_A.thr rfl (by decide)⟩
    · rw [tl_gt h1, if_pos a1]
    · rw [tl_gt h1, if_pos a1, pr_b, qn_fails1 (by decide) (by decide), pr_b, tl_gt (by decide), if_neg (by decide)]
  · have R1 : tl_R p1 ∧ tl_R (L.length : Int) := ⟨h1, ⟨by omega, by omega⟩⟩
    by_cases a2 : p1 < (L.length : Int)
    · obtain ⟨i, rfl⟩ : ∃ i : Nat, p1 = (i : Int) := ⟨p1.toNat, by omega⟩
      have hi : i < L.length := by omega
      refine ⟨.inr L[i], L[i], 0, ?_, ?_, lm_A.ret rfl rfl⟩
      · rw [tl_gt h1, if_neg a1, pr_b, tl_gt R1, if_pos a2, tl_gt h1, if_neg a1, tl_gt R1, if_pos a2, tl_gt ⟨by omega, by omega⟩, pr_b, Int.toNat_natCast, e3 i hi]
      · rw [tl_gt h1, if_neg a1, tl_gt R1, if_pos a2, pr_b, qn_fails0, pr_b, tl_gt (by decide), if_pos rfl, tl_gt ⟨by omega, by omega⟩, Int.toNat_natCast, f3 i hi]
    · refine ⟨.inl 4, 0, 1, ?_, ?_, lm_A.thr rfl (by decide)⟩
      · rw [tl_gt h1, if_neg a1, pr_b, tl_gt R1, if_neg a2]
      · rw [tl_gt h1, if_neg a1, tl_gt R1, if_neg a2, pr_b, qn_fails1 (by decide) (by decide), pr_b, tl_gt (by decide), if_neg (by decide)]
