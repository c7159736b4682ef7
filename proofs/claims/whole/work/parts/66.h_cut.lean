/-! cut -/
theorem ca_cut {lv t ob3 g3 g4 pm km lv2 ra : Int} {nl : Nat} {fo fr ru to fo2 fr2 ru2 to2 : Nat → Int} (hT : ht_R nl fo fr ru to fo2 fr2 ru2 to2) {g : Int} {U : Nat → Bool} {nu ki : Nat → Int} {w d : Nat → Nat → List Nat} (h : hs_I nl fo ru g U nu w d) (hg : g ≤ 1000000) {ob pa : Int} {dl : Nat → Int} {dw : Nat → Int64} {hl : Nat → Int} {hw : Nat → Int64} {kk nn : Nat → Int} (hR : hc_R U nu ki w d ob pa dl dw hl hw kk nn) {ob2 : Int} {had hadMany has hasMany kind number used : Nat → Int} (hQ : hq_R U nu ki w d ob2 had hadMany has hasMany kind number used) {p1 p2 p3 : Int} (h1 : tl_R p1) (h2 : tl_R p2) (h3 : tl_R p3) :
    ∃ (c : Nat ⊕ Int) (b t' : Int) (w' d' : Nat → Nat → List Nat) (dl' : Nat → Int) (dw' : Nat → Int64) (hl' : Nat → Int) (hw' : Nat → Int64) (pa' : Int) (had' hadMany' has' hasMany' : Nat → Int), fX9_cut g3 lv ob pa dl dw hl hw kk nn (nl : Int) fr to p1 p2 p3 = some (c, dl', dw', hl', hw', pa') ∧ fX10_cut t (nl : Int) ob3 g4 pm km lv2 ra fr2 had hadMany has hasMany kind number to2 used p1 p2 p3 = some (b, had', hadMany', has', hasMany', t') ∧ lm_A lf_cut c b t' ∧ hs_I nl fo ru g U nu w' d' ∧ hc_R U nu ki w' d' ob pa' dl' dw' hl' hw' kk nn ∧ hq_R U nu ki w' d' ob2 had' hadMany' has' hasMany' kind number used := by
  have hn := hT.1
  unfold fX9_cut fX10_cut
  rw [cn_link hn h1]
  by_cases a1 : 0 ≤ p1 ∧ p1 < (nl : Int)
  · obtain ⟨l, rfl⟩ : ∃ l : Nat, p1 = (l : Int) := ⟨p1.toNat, by omega⟩
    have hl10 : l < 10 := by omega
    have hTl := hT.2 l (by omega)
    rw [if_pos a1, pr_b]
    dsimp only
    rcases hs_find U nu p2 with ⟨x, hx, hUx, ex⟩ | hno
    · rw [cn_slot h hg hR h2 hx hUx ex, pr_b]
      dsimp only
      rcases hs_find U nu p3 with ⟨y, hy, hUy, ey⟩ | hno
      · rw [cn_slot h hg hR h3 hy hUy ey, pr_b]
        dsimp only
        rw [pt_fromKind hn (by omega), pr_b, cn_kind hR (by exact ⟨by omega, by omega⟩) hx hUx, pr_b, qn_wrong3 hT h hQ h2 h3 (by omega) hx hUx ex hy hUy ey, pr_b]
        by_cases a3 : ki x = fr l
        · rw [if_pos a3, if_pos a3]
          dsimp only
          rw [pt_toKind hn (by omega), pr_b, cn_kind hR (by exact ⟨by omega, by omega⟩) hy hUy, pr_b]
          by_cases a4 : ki y = to l
          · rw [if_pos a4, if_pos a4]
            dsimp only
            obtain ⟨r1, r2, r3, r4, r5, r6⟩ := hR
            obtain ⟨q1, q2, q3, q4, q5, q6⟩ := hQ
            obtain ⟨dl', dw', hl', hw', pa', e1, e2, e3, e4⟩ := hc_sep (ob := ob) (pa := pa) (x := x) (y := y) r3 r4 hl10 hx hy (h.nd l x).1 (h.tw l x y) r2
            rw [e1, pr_b, qn_fails0, pr_b, tl_gt (show tl_R (0 : Int) by decide), if_pos rfl, qn_place h ⟨q1, q2, q3, q4, q5, q6⟩ h2 hx hUx ex, pr_b, qn_place h ⟨q1, q2, q3, q4, q5, q6⟩ h3 hy hUy ey, pr_b, hq_isHad q3 hl10 hx hy hUx, pr_b]
            by_cases a5 : y ∈ w l x
            · obtain ⟨had', hadMany', has', hasMany', f1, f2, f3⟩ := hq_part (t := 0) (lk := (nl : Int)) (o := ob3) (m := g4) (pm := pm) (km := km) (lv := lv2) (ra := ra) q2 q3 hl10 hx hy hUx hUy (h.nd l x).1 (h.nd l y).2 a5 ((h.tw l x y).mp a5)
              rw [if_pos a5]
              dsimp only
              rw [tl_gt (by decide), if_neg (by decide), tl_gt (by decide), if_neg (by decide), f1, pr_b]
              exact ⟨_, _, _, _, _, _, _, _, _, _, _, _, _, _, rfl, rfl, lm_A.ret rfl rfl, h.cut l x y, ⟨r1, e4, e2, e3, r5, r6⟩, ⟨q1, f2, f3, q4, q5, q6⟩⟩
            · have z1 : hs_cut w l x y = w := by
                unfold hs_cut
                rw [pr_wo_none a5, pr_set_self]
              have z2 : hs_cut d l y x = d := by
                unfold hs_cut
                rw [pr_wo_none (fun z => a5 ((h.tw l x y).mpr z)), pr_set_self]
              rw [z2] at e2
              rw [z1] at e3 e4
              rw [if_neg a5]
              dsimp only
              rw [tl_gt (by decide), if_pos rfl, tl_gt (by decide), if_pos rfl]
              exact ⟨_, _, _, w, d, _, _, _, _, _, _, _, _, _, rfl, rfl, lm_A.ret rfl rfl, h, ⟨r1, e4, e2, e3, r5, r6⟩, ⟨q1, q2, q3, q4, q5, q6⟩⟩
          · rw [if_neg a4, if_neg a4]
            dsimp only
            rw [qn_fails1 (by decide) (by decide), pr_b, tl_gt (by decide), if_neg (by decide)]
            exact ⟨_, _, _, w, d, _, _, _, _, _, _, _, _, _, rfl, rfl, lm_A.thr rfl (by decide), h, hR, hQ⟩
        · rw [if_neg a3, if_neg a3]
          dsimp only
          rw [qn_fails1 (by decide) (by decide), pr_b, tl_gt (by decide), if_neg (by decide)]
          exact ⟨_, _, _, w, d, _, _, _, _, _, _, _, _, _, rfl, rfl, lm_A.thr rfl (by decide), h, hR, hQ⟩
      · rw [cn_noslot h hg hR h3 hno, pr_b, qn_wrong2 h hQ hn h1 h2 h3 a1 (Or.inr hno), pr_b, qn_fails1 (by decide) (by decide), pr_b, tl_gt (by decide), if_neg (by decide)]
        exact ⟨_, _, _, w, d, _, _, _, _, _, _, _, _, _, rfl, rfl, lm_A.thr rfl (by decide), h, hR, hQ⟩
    · rw [cn_noslot h hg hR h2 hno, pr_b, qn_wrong2 h hQ hn h1 h2 h3 a1 (Or.inl hno), pr_b, qn_fails1 (by decide) (by decide), pr_b, tl_gt (by decide), if_neg (by decide)]
      exact ⟨_, _, _, w, d, _, _, _, _, _, _, _, _, _, rfl, rfl, lm_A.thr rfl (by decide), h, hR, hQ⟩
  · rw [if_neg a1, pr_b, qn_wrong1 hn h1 a1, pr_b, qn_fails1 (by decide) (by decide), pr_b, tl_gt (by decide), if_neg (by decide)]
    exact ⟨_, _, _, w, d, _, _, _, _, _, _, _, _, _, rfl, rfl, lm_A.thr rfl (by decide), h, hR, hQ⟩
