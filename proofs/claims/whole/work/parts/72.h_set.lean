/-! set -/
def lf_set : Nat → Int
  | 0 => 1
  | 1 => 2
  | 2 => 3
  | 3 => 4
  | 4 => 5
  | 5 => 6
  | _ => 0
theorem ca_set {lv t ob3 g3 km lv2 ra : Int} {nl : Nat} {fo fr ru to fo2 fr2 ru2 to2 : Nat → Int} (hT : ht_R nl fo fr ru to fo2 fr2 ru2 to2) {g : Int} {U : Nat → Bool} {nu ki : Nat → Int} {w d : Nat → Nat → List Nat} (h : hs_I nl fo ru g U nu w d) (hg : g ≤ 1000000) {ob pa : Int} {dl : Nat → Int} {dw : Nat → Int64} {hl : Nat → Int} {hw : Nat → Int64} {kk nn : Nat → Int} (hR : hc_R U nu ki w d ob pa dl dw hl hw kk nn) {ob2 : Int} {had hadMany has hasMany kind number used : Nat → Int} (hQ : hq_R U nu ki w d ob2 had hadMany has hasMany kind number used) {R T : List Nat} {L : List Int} {rl spl tl pm : Int} {ri rs spi sps st tv pv gone queue steps : Nat → Int} (hS : ps_S R rl ri rs) (hT2 : ps_S T spl spi sps) (hL : pt_T 100 L tl tv) (hP : pt_T 101 L pm pv) (hgo : ∀ k, k < 100 → tl_R (gone k)) {p1 p2 p3 p4 : Int} (h1 : tl_R p1) (h2 : tl_R p2) (h3 : tl_R p3) (h4 : tl_R p4) :
    ∃ (c : Nat ⊕ Int) (b t' : Int) (w' d' : Nat → Nat → List Nat) (R' T' : List Nat) (L' : List Int) (dl' : Nat → Int) (dw' : Nat → Int64) (hl' : Nat → Int) (hw' : Nat → Int64) (tv' ri' rs' spi' sps' st' : Nat → Int) (pa' tl' rl' spl' : Int) (had' hadMany' has' hasMany' pv' queue' steps' : Nat → Int) (pm' : Int), fX9_set g3 lv ob pa dl dw hl hw kk nn (nl : Int) fo fr ru to tl tv rl ri rs spl spi sps st p1 p2 p3 p4 = some (c, dl', dw', hl', hw', tv', ri', rs', spi', sps', st', pa', tl', rl', spl') ∧ fX10_set t (nl : Int) ob3 g3 pm km lv2 ra fo2 fr2 gone had hadMany has hasMany kind number pv queue ru2 steps to2 used p1 p2 p3 p4 = some (b, had', hadMany', has', hasMany', pv', queue', steps', pm', t') ∧ lm_A lf_set c b t' ∧ hs_I nl fo ru g U nu w' d' ∧ hc_R U nu ki w' d' ob pa' dl' dw' hl' hw' kk nn ∧ hq_R U nu ki w' d' ob2 had' hadMany' has' hasMany' kind number used ∧ ps_S R' rl' ri' rs' ∧ ps_S T' spl' spi' sps' ∧ pt_T 100 L' tl' tv' ∧ pt_T 101 L' pm' pv' := by
  have hn := hT.1
  have R4 : tl_R p4 ∧ tl_R (-1 : Int) := ⟨h4, by decide⟩
  by_cases a1 : 0 ≤ p1 ∧ p1 < (nl : Int)
  · obtain ⟨l, rfl⟩ : ∃ l : Nat, p1 = (l : Int) := ⟨p1.toNat, by omega⟩
    have hln : l < nl := by omega
    have hl10 : l < 10 := by omega
    have hTl := hT.2 l hln
    by_cases a2 : p4 < -1
    · refine ⟨.inl 0, 0, 1, w, d, R, T, L, dl, dw, hl, hw, tv, ri, rs, spi, sps, st, pa, tl, rl, spl, had, hadMany, has, hasMany, pv, queue, steps, pm, ?_, ?_, lm_A.thr rfl (by decide), h, hR, hQ, hS, hT2, hL, hP⟩
      · unfold fX9_set
        rw [cn_link hn h1, if_pos a1, pr_b]
        dsimp only
        rw [tl_gt R4, if_pos a2]
      · unfold fX10_set
        rw [tl_gt R4, if_pos a2, pr_b, qn_fails1 (by decide) (by decide), pr_b, tl_gt (by decide), if_neg (by decide)]
    · rcases hs_find U nu p2 with ⟨x, hx, hUx, ex⟩ | hno
      · rcases hs_find U nu p3 with ⟨y, hy, hUy, ey⟩ | hno
        · by_cases a3 : ki x = fr l
          · by_cases a4 : ki y = to l
            · obtain ⟨r1, r2, r3, r4, r5, r6⟩ := id hR
              obtain ⟨q1, q2, q3, q4, q5, q6⟩ := id hQ
              have hf := hTl.2.2.2.2.1
              have hru := hTl.2.2.2.2.2.2.1
              have hfo := hTl.1
              have hru2 := hTl.2.2.1
              have h12 := h.len l x
              have h12y := h.len l y
              have eX : ((l : Int) * 100 + (x : Int)).toNat = l * 100 + x := by omega
              have eY : ((l : Int) * 100 + (y : Int)).toNat = l * 100 + y := by omega
              have eX2 : (((l : Int) * 100 + (x : Int)) * 12).toNat = (l * 100 + x) * 12 := by omega
              have eY2 : (((l : Int) * 100 + (y : Int)) * 12).toNat = (l * 100 + y) * 12 := by omega
              have iX : tl_in ((l : Int) * 100 + (x : Int)) 1000 := ⟨by omega, by omega⟩
              have iY : tl_in ((l : Int) * 100 + (y : Int)) 1000 := ⟨by omega, by omega⟩
              have iL : tl_in (l : Int) 10 := ⟨by omega, by omega⟩
              have hmx := qu_many q3 hl10 hx hUx
              have hmy := qu_many q2 hl10 hy hUy
              by_cases a5 : y ∈ w l x
              · have hpos := List.length_pos_of_mem a5
                by_cases a6 : ((w l x).length : Int) - 1 < p4
                · obtain ⟨k, _, _, e1, _, _⟩ := qu_cut q3 hl10 hx hy hUx (h.nd l x).1 a5
                  have hk : k < 100 := by
                    have e := qu_indexIn q3 hl10 hx hy hUx
                    rw [e1] at e
                    unfold qr_idx at e
                    rw [if_pos a5] at e
                    have e2 := Option.some.inj e
                    have e3 := List.idxOf_lt_length_of_mem a5
                    omega
                  refine ⟨.inl 4, 0, 5, w, d, R, T, L, dl, dw, hl, hw, tv, ri, rs, spi, sps, st, pa, tl, rl, spl, had, hadMany, has, hasMany, pv, queue, steps, pm, ?_, ?_, lm_A.thr rfl (by decide), h, hR, hQ, hS, hT2, hL, hP⟩
                  · unfold fX9_set
                    rw [cn_link hn h1, if_pos a1, pr_b]
                    dsimp only
                    rw [tl_gt R4, if_neg a2]
                    rw [cn_slot h hg hR h2 hx hUx ex, pr_b]
                    dsimp only
                    rw [cn_slot h hg hR h3 hy hUy ey, pr_b]
                    dsimp only
                    rw [pt_fromKind hn hln, pr_b, cn_kind hR (by exact ⟨by omega, by omega⟩) hx hUx, pr_b]
                    rw [if_pos a3]
                    dsimp only
                    rw [pt_toKind hn hln, pr_b, cn_kind hR (by exact ⟨by omega, by omega⟩) hy hUy, pr_b]
                    rw [if_pos a4]
                    dsimp only
                    rw [cs_joined r4 hl10 hx hy, pr_b]
                    rw [if_pos a5, tl_gt (show tl_R (1 : Int) by decide), if_neg (show ¬ (1 : Int) = 0 by decide)]
                    unfold fX9_moveInRow fX1_has
                    rw [pr_b, pr_lengthOf r4 hl10 hx, pr_b, tl_gt ⟨h4, ⟨by omega, by omega⟩⟩, if_pos a6, pr_b]
                  · unfold fX10_set
                    rw [tl_gt R4, if_neg a2, qn_wrong3 hT h hQ h2 h3 hln hx hUx ex hy hUy ey, pr_b, pr_b, if_pos a3, if_pos a4, qn_fails0, pr_b]
                    dsimp only
                    rw [tl_gt (show tl_R (0 : Int) by decide), if_pos rfl, qn_place h hQ h2 hx hUx ex, pr_b, qn_place h hQ h3 hy hUy ey, pr_b]
                    rw [e1, pr_b, tl_gt ⟨by omega, by omega⟩, if_neg (by omega), tl_gt iX]
                    simp only [eX, hmx.1]
                    rw [tl_gt ⟨h4, ⟨by omega, by omega⟩⟩, if_pos a6, pr_b, qn_fails1 (by decide) (by decide), pr_b, tl_gt (by decide), if_neg (by decide)]
                · obtain ⟨w3, i, k, hl3, hw3, has2, hasMany2, has3, hasMany3, m1, m2, mk, m3, m4, m5, m6, m7, m8, m9, m10⟩ := hx_move (ob := ob) (pa := pa) (g3 := g3) (lv3 := lv) h r4 q3 hl10 hx hy hUx a5 h4 (by omega) a6
                  refine ⟨.inr ((w3 l x).length : Int), ((w3 l x).length : Int), 0, w3, d, R, T, L, dl, dw, hl3, hw3, tv, ri, rs, spi, sps, st, pa, tl, rl, spl, had, hadMany, has3, hasMany3, pv, queue, steps, pm, ?_, ?_, lm_A.ret rfl rfl, m7, ⟨r1, by rw [m9]; exact r2, r3, m8, r5, r6⟩, ⟨q1, q2, m10, q4, q5, q6⟩, hS, hT2, hL, hP⟩
                  · unfold fX9_set
                    rw [cn_link hn h1, if_pos a1, pr_b]
                    dsimp only
                    rw [tl_gt R4, if_neg a2]
                    rw [cn_slot h hg hR h2 hx hUx ex, pr_b]
                    dsimp only
                    rw [cn_slot h hg hR h3 hy hUy ey, pr_b]
                    dsimp only
                    rw [pt_fromKind hn hln, pr_b, cn_kind hR (by exact ⟨by omega, by omega⟩) hx hUx, pr_b]
                    rw [if_pos a3]
                    dsimp only
                    rw [pt_toKind hn hln, pr_b, cn_kind hR (by exact ⟨by omega, by omega⟩) hy hUy, pr_b]
                    rw [if_pos a4]
                    dsimp only
                    rw [cs_joined r4 hl10 hx hy, pr_b]
                    rw [if_pos a5, tl_gt (show tl_R (1 : Int) by decide), if_neg (show ¬ (1 : Int) = 0 by decide)]
                    rw [m1, pr_b]
                    dsimp only
                    unfold fX1_has
                    rw [pr_b, pr_lengthOf m8 hl10 hx, pr_b]
                  · unfold fX10_set
                    rw [tl_gt R4, if_neg a2, qn_wrong3 hT h hQ h2 h3 hln hx hUx ex hy hUy ey, pr_b, pr_b, if_pos a3, if_pos a4, qn_fails0, pr_b]
                    dsimp only
                    rw [tl_gt (show tl_R (0 : Int) by decide), if_pos rfl, qn_place h hQ h2 hx hUx ex, pr_b, qn_place h hQ h3 hy hUy ey, pr_b]
                    rw [m2, pr_b, tl_gt ⟨by omega, by omega⟩, if_neg (by omega), tl_gt iX]
                    simp only [eX, hmx.1]
                    rw [tl_gt ⟨h4, ⟨by omega, by omega⟩⟩, if_neg a6, pr_b, qn_fails0, pr_b]
                    dsimp only
                    rw [tl_gt (show tl_R (0 : Int) by decide), if_pos rfl, m3, pr_b, m4, pr_b]
                    dsimp only
                    rw [m5, pr_b, tl_gt iX]
                    dsimp only
                    rw [m6]
              · have e1 : fX10_indexIn 12000 1000 has hasMany ((l : Int) * 100 + (x : Int)) (y : Int) = some (-1) := by
                  rw [qu_indexIn q3 hl10 hx hy hUx]
                  unfold qr_idx
                  rw [if_neg a5]
                have hle : hs_left fo w l x ≤ 12 := by
                  unfold hs_left
                  by_cases q : fo l = 0
                  · rw [if_pos q]
                    omega
                  · rw [if_neg q]
                    exact h12.1
                obtain ⟨F, f1, f2, f3⟩ := qs_full (fo := fo) (w := w) (x := x) q2 hl10 hy hUy hf hle
                have f0 := qs_left (fo := fo) q3 hl10 hx hUx hf
                by_cases a7 : ru l = 1
                · obtain ⟨R', T', tv', ri', rs', spi', sps', st', tl', rl', spl', g1, g2, g3', g4⟩ := hc_findWay (st := st) (x := y) (p := x) hT h hg hR hy hx hUx hS hT2 hL
                  obtain ⟨queue', steps', b1, b2⟩ := hq_measure (t := 0) (o := ob3) (m := g3) (pm := pm) (km := km) (lv := lv2) (ra := ra) (queue := queue) (steps := steps) hT h hQ hgo hx hUx
                  have hDb := hs_D_b h hx y
                  have hby := b2 y hy
                  by_cases a8 : 0 ≤ hs_D nl ru d x y
                  · obtain ⟨pm', pv', c1, c2⟩ := hq_walk (t := 0) (o := ob3) (m := g3) (pm := pm) (km := km) (lv := lv2) (ra := ra) (pv := pv) hT h hQ hx hUx b2 a8
                    rw [if_pos a8] at g1 g4
                    refine ⟨.inl 3, 0, 4, w, d, R', T', _, dl, dw, hl, hw, tv', ri', rs', spi', sps', st', pa, tl', rl', spl', had, hadMany, has, hasMany, pv', queue', steps', pm', ?_, ?_, lm_A.thr rfl (by decide), h, hR, hQ, g2, g3', g4, c2⟩
                    · unfold fX9_set
                      rw [cn_link hn h1, if_pos a1, pr_b]
                      dsimp only
                      rw [tl_gt R4, if_neg a2]
                      rw [cn_slot h hg hR h2 hx hUx ex, pr_b]
                      dsimp only
                      rw [cn_slot h hg hR h3 hy hUy ey, pr_b]
                      dsimp only
                      rw [pt_fromKind hn hln, pr_b, cn_kind hR (by exact ⟨by omega, by omega⟩) hx hUx, pr_b]
                      rw [if_pos a3]
                      dsimp only
                      rw [pt_toKind hn hln, pr_b, cn_kind hR (by exact ⟨by omega, by omega⟩) hy hUy, pr_b]
                      rw [if_pos a4]
                      dsimp only
                      rw [cs_joined r4 hl10 hx hy, pr_b]
                      rw [if_neg a5, tl_gt (show tl_R (0 : Int) by decide), if_pos rfl, pt_hasRule hn hln (by exact ⟨by omega, by omega⟩) (by decide), pr_b]
                      rw [if_pos a7, tl_gt (show tl_R (1 : Int) by decide), if_neg (show ¬ (1 : Int) = 0 by decide), g1, pr_b]
                      dsimp only
                      rw [tl_gt (show tl_R (1 : Int) by decide), if_neg (show ¬ (1 : Int) = 0 by decide)]
                    · unfold fX10_set
                      rw [tl_gt R4, if_neg a2, qn_wrong3 hT h hQ h2 h3 hln hx hUx ex hy hUy ey, pr_b, pr_b, if_pos a3, if_pos a4, qn_fails0, pr_b]
                      dsimp only
                      rw [tl_gt (show tl_R (0 : Int) by decide), if_pos rfl, qn_place h hQ h2 hx hUx ex, pr_b, qn_place h hQ h3 hy hUy ey, pr_b]
                      rw [e1, pr_b, tl_gt (show tl_R (-1 : Int) by decide), if_pos (show (-1 : Int) < 0 by decide), tl_gt iL]
                      simp only [Int.toNat_natCast, eX, eY, eX2, eY2, hfo, hru2]
                      rw [tl_gt ⟨⟨by omega, by omega⟩, by decide⟩]
                      rw [if_pos a7, b1, pr_b]
                      dsimp only
                      rw [tl_gt ⟨by omega, by omega⟩, tl_gt ⟨by omega, by omega⟩, if_neg (by omega), c1, pr_b]
                  · rw [if_neg a8] at g1 g4
                    by_cases b4 : ((hs_left fo w l x : Nat) : Int) < p4
                    · refine ⟨.inl 4, 0, 5, w, d, R', T', L, dl, dw, hl, hw, tv', ri', rs', spi', sps', st', pa, tl', rl', spl', had, hadMany, has, hasMany, pv, queue', steps', pm, ?_, ?_, lm_A.thr rfl (by decide), h, hR, hQ, g2, g3', g4, hP⟩
                      · unfold fX9_set
                        rw [cn_link hn h1, if_pos a1, pr_b]
                        dsimp only
                        rw [tl_gt R4, if_neg a2]
                        rw [cn_slot h hg hR h2 hx hUx ex, pr_b]
                        dsimp only
                        rw [cn_slot h hg hR h3 hy hUy ey, pr_b]
                        dsimp only
                        rw [pt_fromKind hn hln, pr_b, cn_kind hR (by exact ⟨by omega, by omega⟩) hx hUx, pr_b]
                        rw [if_pos a3]
                        dsimp only
                        rw [pt_toKind hn hln, pr_b, cn_kind hR (by exact ⟨by omega, by omega⟩) hy hUy, pr_b]
                        rw [if_pos a4]
                        dsimp only
                        rw [cs_joined r4 hl10 hx hy, pr_b]
                        rw [if_neg a5, tl_gt (show tl_R (0 : Int) by decide), if_pos rfl, pt_hasRule hn hln (by exact ⟨by omega, by omega⟩) (by decide), pr_b]
                        rw [if_pos a7, tl_gt (show tl_R (1 : Int) by decide), if_neg (show ¬ (1 : Int) = 0 by decide), g1, pr_b]
                        dsimp only
                        rw [tl_gt (show tl_R (0 : Int) by decide), if_pos rfl]
                        rw [cs_no hn r3 r4 hln hx hy hf ⟨h12.1, h12y.2⟩ h4 (Or.inl b4), pr_b, if_pos b4]
                      · unfold fX10_set
                        rw [tl_gt R4, if_neg a2, qn_wrong3 hT h hQ h2 h3 hln hx hUx ex hy hUy ey, pr_b, pr_b, if_pos a3, if_pos a4, qn_fails0, pr_b]
                        dsimp only
                        rw [tl_gt (show tl_R (0 : Int) by decide), if_pos rfl, qn_place h hQ h2 hx hUx ex, pr_b, qn_place h hQ h3 hy hUy ey, pr_b]
                        rw [e1, pr_b, tl_gt (show tl_R (-1 : Int) by decide), if_pos (show (-1 : Int) < 0 by decide), tl_gt iL]
                        simp only [Int.toNat_natCast, eX, eY, eX2, eY2, hfo, hru2]
                        rw [tl_gt ⟨⟨by omega, by omega⟩, by decide⟩]
                        rw [if_pos a7, b1, pr_b]
                        dsimp only
                        rw [tl_gt ⟨by omega, by omega⟩, tl_gt ⟨by omega, by omega⟩, if_pos (by omega), tl_gt iL, f0, pr_b, f1, pr_b]
                        rw [tl_gt ⟨h4, ⟨by omega, by omega⟩⟩, if_pos b4, pr_b, qn_fails1 (by decide) (by decide), pr_b, tl_gt (by decide), if_neg (by decide)]
                    · by_cases b5 : hs_full fo w d l x y
                      · have b6 : F ≠ 0 := fun z => (f3.mp z) b5
                        refine ⟨.inl 5, 0, 6, w, d, R', T', L, dl, dw, hl, hw, tv', ri', rs', spi', sps', st', pa, tl', rl', spl', had, hadMany, has, hasMany, pv, queue', steps', pm, ?_, ?_, lm_A.thr rfl (by decide), h, hR, hQ, g2, g3', g4, hP⟩
                        · unfold fX9_set
                          rw [cn_link hn h1, if_pos a1, pr_b]
                          dsimp only
                          rw [tl_gt R4, if_neg a2]
                          rw [cn_slot h hg hR h2 hx hUx ex, pr_b]
                          dsimp only
                          rw [cn_slot h hg hR h3 hy hUy ey, pr_b]
                          dsimp only
                          rw [pt_fromKind hn hln, pr_b, cn_kind hR (by exact ⟨by omega, by omega⟩) hx hUx, pr_b]
                          rw [if_pos a3]
                          dsimp only
                          rw [pt_toKind hn hln, pr_b, cn_kind hR (by exact ⟨by omega, by omega⟩) hy hUy, pr_b]
                          rw [if_pos a4]
                          dsimp only
                          rw [cs_joined r4 hl10 hx hy, pr_b]
                          rw [if_neg a5, tl_gt (show tl_R (0 : Int) by decide), if_pos rfl, pt_hasRule hn hln (by exact ⟨by omega, by omega⟩) (by decide), pr_b]
                          rw [if_pos a7, tl_gt (show tl_R (1 : Int) by decide), if_neg (show ¬ (1 : Int) = 0 by decide), g1, pr_b]
                          dsimp only
                          rw [tl_gt (show tl_R (0 : Int) by decide), if_pos rfl]
                          rw [cs_no hn r3 r4 hln hx hy hf ⟨h12.1, h12y.2⟩ h4 (Or.inr b5), pr_b, if_neg b4]
                        · unfold fX10_set
                          rw [tl_gt R4, if_neg a2, qn_wrong3 hT h hQ h2 h3 hln hx hUx ex hy hUy ey, pr_b, pr_b, if_pos a3, if_pos a4, qn_fails0, pr_b]
                          dsimp only
                          rw [tl_gt (show tl_R (0 : Int) by decide), if_pos rfl, qn_place h hQ h2 hx hUx ex, pr_b, qn_place h hQ h3 hy hUy ey, pr_b]
                          rw [e1, pr_b, tl_gt (show tl_R (-1 : Int) by decide), if_pos (show (-1 : Int) < 0 by decide), tl_gt iL]
                          simp only [Int.toNat_natCast, eX, eY, eX2, eY2, hfo, hru2]
                          rw [tl_gt ⟨⟨by omega, by omega⟩, by decide⟩]
                          rw [if_pos a7, b1, pr_b]
                          dsimp only
                          rw [tl_gt ⟨by omega, by omega⟩, tl_gt ⟨by omega, by omega⟩, if_pos (by omega), tl_gt iL, f0, pr_b, f1, pr_b]
                          rw [tl_gt ⟨h4, ⟨by omega, by omega⟩⟩, if_neg b4, tl_gt (show tl_R F from ⟨by omega, by omega⟩), if_neg b6, pr_b, qn_fails1 (by decide) (by decide), pr_b, tl_gt (by decide), if_neg (by decide)]
                      · have b6 : F = 0 := f3.mpr b5
                        obtain ⟨w3, d3, i, pa3, dl3, dw3, hl3, hw3, had1, hadMany1, has1, hasMany1, had2, hadMany2, has2, hasMany2, had3, hadMany3, has3, hasMany3, m1, m2, m3, m4, m5, m6, m7, m8, m9, m10, m11, m12, m13⟩ := hx_join (t := 0) (lk := (nl : Int)) (o := ob3) (m := g3) (pm := pm) (km := km) (lv := lv2) (ra := ra) (ob := ob) (g3 := g3) (lv3 := lv) hn h r3 r4 r2 q2 q3 hln hx hy hUx hUy hf a5 (fun _ => by omega) h4 (by omega) b4 b5
                        refine ⟨.inr ((w3 l x).length : Int), ((w3 l x).length : Int), 0, w3, d3, R', T', L, dl3, dw3, hl3, hw3, tv', ri', rs', spi', sps', st', pa3, tl', rl', spl', had3, hadMany3, has3, hasMany3, pv, queue', steps', pm, ?_, ?_, lm_A.ret rfl rfl, m8, ⟨r1, m11, m9, m10, r5, r6⟩, ⟨q1, m12, m13, q4, q5, q6⟩, g2, g3', g4, hP⟩
                        · unfold fX9_set
                          rw [cn_link hn h1, if_pos a1, pr_b]
                          dsimp only
                          rw [tl_gt R4, if_neg a2]
                          rw [cn_slot h hg hR h2 hx hUx ex, pr_b]
                          dsimp only
                          rw [cn_slot h hg hR h3 hy hUy ey, pr_b]
                          dsimp only
                          rw [pt_fromKind hn hln, pr_b, cn_kind hR (by exact ⟨by omega, by omega⟩) hx hUx, pr_b]
                          rw [if_pos a3]
                          dsimp only
                          rw [pt_toKind hn hln, pr_b, cn_kind hR (by exact ⟨by omega, by omega⟩) hy hUy, pr_b]
                          rw [if_pos a4]
                          dsimp only
                          rw [cs_joined r4 hl10 hx hy, pr_b]
                          rw [if_neg a5, tl_gt (show tl_R (0 : Int) by decide), if_pos rfl, pt_hasRule hn hln (by exact ⟨by omega, by omega⟩) (by decide), pr_b]
                          rw [if_pos a7, tl_gt (show tl_R (1 : Int) by decide), if_neg (show ¬ (1 : Int) = 0 by decide), g1, pr_b]
                          dsimp only
                          rw [tl_gt (show tl_R (0 : Int) by decide), if_pos rfl]
                          rw [m1, pr_b]
                          dsimp only
                          unfold fX1_has
                          rw [pr_b, pr_lengthOf m10 hl10 hx, pr_b]
                        · unfold fX10_set
                          rw [tl_gt R4, if_neg a2, qn_wrong3 hT h hQ h2 h3 hln hx hUx ex hy hUy ey, pr_b, pr_b, if_pos a3, if_pos a4, qn_fails0, pr_b]
                          dsimp only
                          rw [tl_gt (show tl_R (0 : Int) by decide), if_pos rfl, qn_place h hQ h2 hx hUx ex, pr_b, qn_place h hQ h3 hy hUy ey, pr_b]
                          rw [e1, pr_b, tl_gt (show tl_R (-1 : Int) by decide), if_pos (show (-1 : Int) < 0 by decide), tl_gt iL]
                          simp only [Int.toNat_natCast, eX, eY, eX2, eY2, hfo, hru2]
                          rw [tl_gt ⟨⟨by omega, by omega⟩, by decide⟩]
                          rw [if_pos a7, b1, pr_b]
                          dsimp only
                          rw [tl_gt ⟨by omega, by omega⟩, tl_gt ⟨by omega, by omega⟩, if_pos (by omega), tl_gt iL, f0, pr_b, f1, pr_b]
                          rw [tl_gt ⟨h4, ⟨by omega, by omega⟩⟩, if_neg b4, tl_gt (show tl_R F from ⟨by omega, by omega⟩), if_pos b6, pr_b, qn_fails0, pr_b]
                          dsimp only
                          rw [tl_gt (show tl_R (0 : Int) by decide), if_pos rfl, tl_gt iL, m2, pr_b]
                          dsimp only
                          rw [tl_gt iL, m3, pr_b]
                          dsimp only
                          rw [m4, pr_b, m5, pr_b, tl_gt iY, m6, pr_b, tl_gt iX]
                          dsimp only
                          rw [m7]
                · by_cases b4 : ((hs_left fo w l x : Nat) : Int) < p4
                  · refine ⟨.inl 4, 0, 5, w, d, R, T, L, dl, dw, hl, hw, tv, ri, rs, spi, sps, st, pa, tl, rl, spl, had, hadMany, has, hasMany, pv, queue, steps, pm, ?_, ?_, lm_A.thr rfl (by decide), h, hR, hQ, hS, hT2, hL, hP⟩
                    · unfold fX9_set
                      rw [cn_link hn h1, if_pos a1, pr_b]
                      dsimp only
                      rw [tl_gt R4, if_neg a2]
                      rw [cn_slot h hg hR h2 hx hUx ex, pr_b]
                      dsimp only
                      rw [cn_slot h hg hR h3 hy hUy ey, pr_b]
                      dsimp only
                      rw [pt_fromKind hn hln, pr_b, cn_kind hR (by exact ⟨by omega, by omega⟩) hx hUx, pr_b]
                      rw [if_pos a3]
                      dsimp only
                      rw [pt_toKind hn hln, pr_b, cn_kind hR (by exact ⟨by omega, by omega⟩) hy hUy, pr_b]
                      rw [if_pos a4]
                      dsimp only
                      rw [cs_joined r4 hl10 hx hy, pr_b]
                      rw [if_neg a5, tl_gt (show tl_R (0 : Int) by decide), if_pos rfl, pt_hasRule hn hln (by exact ⟨by omega, by omega⟩) (by decide), pr_b]
                      rw [if_neg a7, tl_gt (show tl_R (0 : Int) by decide), if_pos rfl]
                      rw [cs_no hn r3 r4 hln hx hy hf ⟨h12.1, h12y.2⟩ h4 (Or.inl b4), pr_b, if_pos b4]
                    · unfold fX10_set
                      rw [tl_gt R4, if_neg a2, qn_wrong3 hT h hQ h2 h3 hln hx hUx ex hy hUy ey, pr_b, pr_b, if_pos a3, if_pos a4, qn_fails0, pr_b]
                      dsimp only
                      rw [tl_gt (show tl_R (0 : Int) by decide), if_pos rfl, qn_place h hQ h2 hx hUx ex, pr_b, qn_place h hQ h3 hy hUy ey, pr_b]
                      rw [e1, pr_b, tl_gt (show tl_R (-1 : Int) by decide), if_pos (show (-1 : Int) < 0 by decide), tl_gt iL]
                      simp only [Int.toNat_natCast, eX, eY, eX2, eY2, hfo, hru2]
                      rw [tl_gt ⟨⟨by omega, by omega⟩, by decide⟩]
                      rw [if_neg a7, tl_gt iL, f0, pr_b, f1, pr_b]
                      rw [tl_gt ⟨h4, ⟨by omega, by omega⟩⟩, if_pos b4, pr_b, qn_fails1 (by decide) (by decide), pr_b, tl_gt (by decide), if_neg (by decide)]
                  · by_cases b5 : hs_full fo w d l x y
                    · have b6 : F ≠ 0 := fun z => (f3.mp z) b5
                      refine ⟨.inl 5, 0, 6, w, d, R, T, L, dl, dw, hl, hw, tv, ri, rs, spi, sps, st, pa, tl, rl, spl, had, hadMany, has, hasMany, pv, queue, steps, pm, ?_, ?_, lm_A.thr rfl (by decide), h, hR, hQ, hS, hT2, hL, hP⟩
                      · unfold fX9_set
                        rw [cn_link hn h1, if_pos a1, pr_b]
                        dsimp only
                        rw [tl_gt R4, if_neg a2]
                        rw [cn_slot h hg hR h2 hx hUx ex, pr_b]
                        dsimp only
                        rw [cn_slot h hg hR h3 hy hUy ey, pr_b]
                        dsimp only
                        rw [pt_fromKind hn hln, pr_b, cn_kind hR (by exact ⟨by omega, by omega⟩) hx hUx, pr_b]
                        rw [if_pos a3]
                        dsimp only
                        rw [pt_toKind hn hln, pr_b, cn_kind hR (by exact ⟨by omega, by omega⟩) hy hUy, pr_b]
                        rw [if_pos a4]
                        dsimp only
                        rw [cs_joined r4 hl10 hx hy, pr_b]
                        rw [if_neg a5, tl_gt (show tl_R (0 : Int) by decide), if_pos rfl, pt_hasRule hn hln (by exact ⟨by omega, by omega⟩) (by decide), pr_b]
                        rw [if_neg a7, tl_gt (show tl_R (0 : Int) by decide), if_pos rfl]
                        rw [cs_no hn r3 r4 hln hx hy hf ⟨h12.1, h12y.2⟩ h4 (Or.inr b5), pr_b, if_neg b4]
                      · unfold fX10_set
                        rw [tl_gt R4, if_neg a2, qn_wrong3 hT h hQ h2 h3 hln hx hUx ex hy hUy ey, pr_b, pr_b, if_pos a3, if_pos a4, qn_fails0, pr_b]
                        dsimp only
                        rw [tl_gt (show tl_R (0 : Int) by decide), if_pos rfl, qn_place h hQ h2 hx hUx ex, pr_b, qn_place h hQ h3 hy hUy ey, pr_b]
                        rw [e1, pr_b, tl_gt (show tl_R (-1 : Int) by decide), if_pos (show (-1 : Int) < 0 by decide), tl_gt iL]
                        simp only [Int.toNat_natCast, eX, eY, eX2, eY2, hfo, hru2]
                        rw [tl_gt ⟨⟨by omega, by omega⟩, by decide⟩]
                        rw [if_neg a7, tl_gt iL, f0, pr_b, f1, pr_b]
                        rw [tl_gt ⟨h4, ⟨by omega, by omega⟩⟩, if_neg b4, tl_gt (show tl_R F from ⟨by omega, by omega⟩), if_neg b6, pr_b, qn_fails1 (by decide) (by decide), pr_b, tl_gt (by decide), if_neg (by decide)]
                    · have b6 : F = 0 := f3.mpr b5
                      obtain ⟨w3, d3, i, pa3, dl3, dw3, hl3, hw3, had1, hadMany1, has1, hasMany1, had2, hadMany2, has2, hasMany2, had3, hadMany3, has3, hasMany3, m1, m2, m3, m4, m5, m6, m7, m8, m9, m10, m11, m12, m13⟩ := hx_join (t := 0) (lk := (nl : Int)) (o := ob3) (m := g3) (pm := pm) (km := km) (lv := lv2) (ra := ra) (ob := ob) (g3 := g3) (lv3 := lv) hn h r3 r4 r2 q2 q3 hln hx hy hUx hUy hf a5 (fun z => absurd z a7) h4 (by omega) b4 b5
                      refine ⟨.inr ((w3 l x).length : Int), ((w3 l x).length : Int), 0, w3, d3, R, T, L, dl3, dw3, hl3, hw3, tv, ri, rs, spi, sps, st, pa3, tl, rl, spl, had3, hadMany3, has3, hasMany3, pv, queue, steps, pm, ?_, ?_, lm_A.ret rfl rfl, m8, ⟨r1, m11, m9, m10, r5, r6⟩, ⟨q1, m12, m13, q4, q5, q6⟩, hS, hT2, hL, hP⟩
                      · unfold fX9_set
                        rw [cn_link hn h1, if_pos a1, pr_b]
                        dsimp only
                        rw [tl_gt R4, if_neg a2]
                        rw [cn_slot h hg hR h2 hx hUx ex, pr_b]
                        dsimp only
                        rw [cn_slot h hg hR h3 hy hUy ey, pr_b]
                        dsimp only
                        rw [pt_fromKind hn hln, pr_b, cn_kind hR (by exact ⟨by omega, by omega⟩) hx hUx, pr_b]
                        rw [if_pos a3]
                        dsimp only
                        rw [pt_toKind hn hln, pr_b, cn_kind hR (by exact ⟨by omega, by omega⟩) hy hUy, pr_b]
                        rw [if_pos a4]
                        dsimp only
                        rw [cs_joined r4 hl10 hx hy, pr_b]
                        rw [if_neg a5, tl_gt (show tl_R (0 : Int) by decide), if_pos rfl, pt_hasRule hn hln (by exact ⟨by omega, by omega⟩) (by decide), pr_b]
                        rw [if_neg a7, tl_gt (show tl_R (0 : Int) by decide), if_pos rfl]
                        rw [m1, pr_b]
                        dsimp only
                        unfold fX1_has
                        rw [pr_b, pr_lengthOf m10 hl10 hx, pr_b]
                      · unfold fX10_set
                        rw [tl_gt R4, if_neg a2, qn_wrong3 hT h hQ h2 h3 hln hx hUx ex hy hUy ey, pr_b, pr_b, if_pos a3, if_pos a4, qn_fails0, pr_b]
                        dsimp only
                        rw [tl_gt (show tl_R (0 : Int) by decide), if_pos rfl, qn_place h hQ h2 hx hUx ex, pr_b, qn_place h hQ h3 hy hUy ey, pr_b]
                        rw [e1, pr_b, tl_gt (show tl_R (-1 : Int) by decide), if_pos (show (-1 : Int) < 0 by decide), tl_gt iL]
                        simp only [Int.toNat_natCast, eX, eY, eX2, eY2, hfo, hru2]
                        rw [tl_gt ⟨⟨by omega, by omega⟩, by decide⟩]
                        rw [if_neg a7, tl_gt iL, f0, pr_b, f1, pr_b]
                        rw [tl_gt ⟨h4, ⟨by omega, by omega⟩⟩, if_neg b4, tl_gt (show tl_R F from ⟨by omega, by omega⟩), if_pos b6, pr_b, qn_fails0, pr_b]
                        dsimp only
                        rw [tl_gt (show tl_R (0 : Int) by decide), if_pos rfl, tl_gt iL, m2, pr_b]
                        dsimp only
                        rw [tl_gt iL, m3, pr_b]
                        dsimp only
                        rw [m4, pr_b, m5, pr_b, tl_gt iY, m6, pr_b, tl_gt iX]
                        dsimp only
                        rw [m7]
            · refine ⟨.inl 2, 0, 3, w, d, R, T, L, dl, dw, hl, hw, tv, ri, rs, spi, sps, st, pa, tl, rl, spl, had, hadMany, has, hasMany, pv, queue, steps, pm, ?_, ?_, lm_A.thr rfl (by decide), h, hR, hQ, hS, hT2, hL, hP⟩
              · unfold fX9_set
                rw [cn_link hn h1, if_pos a1, pr_b]
                dsimp only
                rw [tl_gt R4, if_neg a2]
                rw [cn_slot h hg hR h2 hx hUx ex, pr_b]
                dsimp only
                rw [cn_slot h hg hR h3 hy hUy ey, pr_b]
                dsimp only
                rw [pt_fromKind hn hln, pr_b, cn_kind hR (by exact ⟨by omega, by omega⟩) hx hUx, pr_b]
                rw [if_pos a3]
                dsimp only
                rw [pt_toKind hn hln, pr_b, cn_kind hR (by exact ⟨by omega, by omega⟩) hy hUy, pr_b]
                rw [if_neg a4]
              · unfold fX10_set
                rw [tl_gt R4, if_neg a2, qn_wrong3 hT h hQ h2 h3 hln hx hUx ex hy hUy ey, pr_b, pr_b, if_pos a3, if_neg a4, qn_fails1 (by decide) (by decide), pr_b, tl_gt (by decide), if_neg (by decide)]
          · refine ⟨.inl 2, 0, 3, w, d, R, T, L, dl, dw, hl, hw, tv, ri, rs, spi, sps, st, pa, tl, rl, spl, had, hadMany, has, hasMany, pv, queue, steps, pm, ?_, ?_, lm_A.thr rfl (by decide), h, hR, hQ, hS, hT2, hL, hP⟩
            · unfold fX9_set
              rw [cn_link hn h1, if_pos a1, pr_b]
              dsimp only
              rw [tl_gt R4, if_neg a2]
              rw [cn_slot h hg hR h2 hx hUx ex, pr_b]
              dsimp only
              rw [cn_slot h hg hR h3 hy hUy ey, pr_b]
              dsimp only
              rw [pt_fromKind hn hln, pr_b, cn_kind hR (by exact ⟨by omega, by omega⟩) hx hUx, pr_b]
              rw [if_neg a3]
            · unfold fX10_set
              rw [tl_gt R4, if_neg a2, qn_wrong3 hT h hQ h2 h3 hln hx hUx ex hy hUy ey, pr_b, pr_b, if_neg a3, qn_fails1 (by decide) (by decide), pr_b, tl_gt (by decide), if_neg (by decide)]
        · refine ⟨.inl 1, 0, 2, w, d, R, T, L, dl, dw, hl, hw, tv, ri, rs, spi, sps, st, pa, tl, rl, spl, had, hadMany, has, hasMany, pv, queue, steps, pm, ?_, ?_, lm_A.thr rfl (by decide), h, hR, hQ, hS, hT2, hL, hP⟩
          · unfold fX9_set
            rw [cn_link hn h1, if_pos a1, pr_b]
            dsimp only
            rw [tl_gt R4, if_neg a2]
            rw [cn_slot h hg hR h2 hx hUx ex, pr_b]
            dsimp only
            rw [cn_noslot h hg hR h3 hno, pr_b]
          · unfold fX10_set
            rw [tl_gt R4, if_neg a2, qn_wrong2 h hQ hn h1 h2 h3 a1 (Or.inr hno), pr_b, pr_b, qn_fails1 (by decide) (by decide), pr_b, tl_gt (by decide), if_neg (by decide)]
      · refine ⟨.inl 1, 0, 2, w, d, R, T, L, dl, dw, hl, hw, tv, ri, rs, spi, sps, st, pa, tl, rl, spl, had, hadMany, has, hasMany, pv, queue, steps, pm, ?_, ?_, lm_A.thr rfl (by decide), h, hR, hQ, hS, hT2, hL, hP⟩
        · unfold fX9_set
          rw [cn_link hn h1, if_pos a1, pr_b]
          dsimp only
          rw [tl_gt R4, if_neg a2]
          rw [cn_noslot h hg hR h2 hno, pr_b]
        · unfold fX10_set
          rw [tl_gt R4, if_neg a2, qn_wrong2 h hQ hn h1 h2 h3 a1 (Or.inl hno), pr_b, pr_b, qn_fails1 (by decide) (by decide), pr_b, tl_gt (by decide), if_neg (by decide)]
  · by_cases a2 : p4 < -1
    · refine ⟨.inl 0, 0, 1, w, d, R, T, L, dl, dw, hl, hw, tv, ri, rs, spi, sps, st, pa, tl, rl, spl, had, hadMany, has, hasMany, pv, queue, steps, pm, ?_, ?_, lm_A.thr rfl (by decide), h, hR, hQ, hS, hT2, hL, hP⟩
      · unfold fX9_set
        rw [cn_link hn h1, if_neg a1, pr_b]
      · unfold fX10_set
        rw [tl_gt R4, if_pos a2, pr_b, qn_fails1 (by decide) (by decide), pr_b, tl_gt (by decide), if_neg (by decide)]
    · refine ⟨.inl 0, 0, 1, w, d, R, T, L, dl, dw, hl, hw, tv, ri, rs, spi, sps, st, pa, tl, rl, spl, had, hadMany, has, hasMany, pv, queue, steps, pm, ?_, ?_, lm_A.thr rfl (by decide), h, hR, hQ, hS, hT2, hL, hP⟩
      · unfold fX9_set
        rw [cn_link hn h1, if_neg a1, pr_b]
      · unfold fX10_set
        rw [tl_gt R4, if_neg a2, qn_wrong1 hn h1 a1, pr_b, pr_b, qn_fails1 (by decide) (by decide), pr_b, tl_gt (by decide), if_neg (by decide)]
