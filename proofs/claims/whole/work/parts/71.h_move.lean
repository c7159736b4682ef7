/-! a move in a row; way -/
def lf_way : Nat → Int
  | 1 => 1
  | _ => 0
theorem cs_joined {ob pa : Int} {w : Nat → Nat → List Nat} {hl : Nat → Int} {hw : Nat → Int64} (hh : pr_R w hl hw) {l x y : Nat} (hl10 : l < 10) (hx : x < 100) (hy : y < 100) : fX1_isJoined ob pa hl hw (l : Int) (x : Int) (y : Int) = some (if y ∈ w l x then 1 else 0) := by
  unfold fX1_isJoined
  rw [pr_holds hh hl10 hx hy, pr_b]
  by_cases q : y ∈ w l x
  · rw [if_pos q, tl_gt (Or.inr rfl)]
  · rw [if_neg q, tl_gt (Or.inl rfl)]
theorem hs_p_move {w : Nat → Nat → List Nat} {l x y i : Nat} (hl10 : l < 10) (hx : x < 100) (hn : (w l x).Nodup) (hm : y ∈ w l x) : hs_p (hs_put (hs_cut w l x y) l x i y) = hs_p w := by
  have h1 := hs_p_set w (pr_wo y (w l x)) hl10 hx
  have h2 := hs_p_set (hs_cut w l x y) ((hs_cut w l x y l x).take i ++ y :: (hs_cut w l x y l x).drop i) hl10 hx
  have h3 := pr_wo_len hn hm
  have h4 : ((hs_cut w l x y l x).take i ++ y :: (hs_cut w l x y l x).drop i).length = (hs_cut w l x y l x).length + 1 := hs_len_ins
  have h5 : (hs_cut w l x y l x).length = (pr_wo y (w l x)).length := by rw [hs_cut_at]
  have h6 : hs_p (hs_cut w l x y) = hs_p (pr_set w l x (pr_wo y (w l x))) := rfl
  have h7 : hs_p (hs_put (hs_cut w l x y) l x i y) = hs_p (pr_set (hs_cut w l x y) l x ((hs_cut w l x y l x).take i ++ y :: (hs_cut w l x y l x).drop i)) := rfl
  omega
theorem hx_move {ob pa g3 lv3 : Int} {nl : Nat} {fo ru : Nat → Int} {g : Int} {U : Nat → Bool} {nu : Nat → Int} {w d : Nat → Nat → List Nat} (h : hs_I nl fo ru g U nu w d) {hl : Nat → Int} {hw : Nat → Int64} (hh : pr_R w hl hw) {has hasMany : Nat → Int} (qh : qu_R U w hasMany has) {l x y : Nat} (hl10 : l < 10) (hx : x < 100) (hy : y < 100) (hUx : U x = true) (hm : y ∈ w l x) {p4 : Int} (h4 : tl_R p4) (h4b : -1 ≤ p4) (h4c : ¬ ((w l x).length : Int) - 1 < p4) :
    ∃ (w3 : Nat → Nat → List Nat) (i k : Nat) (hl3 : Nat → Int) (hw3 : Nat → Int64) (has2 hasMany2 has3 hasMany3 : Nat → Int),
      fX9_moveInRow g3 lv3 ob pa hl hw (l : Int) (x : Int) (y : Int) p4 = some (.inr (), hl3, hw3) ∧
      fX10_indexIn 12000 1000 has hasMany ((l : Int) * 100 + (x : Int)) (y : Int) = some (k : Int) ∧ k < 12 ∧
      fX10_remove 12000 1000 has hasMany ((l : Int) * 100 + (x : Int)) (k : Int) = some (has2, hasMany2) ∧
      (tl_gd (tl_R p4) (if p4 < 0 then some (((w l x).length : Int) - 1) else some p4)) = some (i : Int) ∧
      fX10_insert 12000 1000 has2 hasMany2 ((l : Int) * 100 + (x : Int)) (i : Int) (y : Int) = some (has3, hasMany3) ∧
      hasMany3 (l * 100 + x) = ((w3 l x).length : Int) ∧ hs_I nl fo ru g U nu w3 d ∧ pr_R w3 hl3 hw3 ∧ hs_p w3 = hs_p w ∧ qu_R U w3 hasMany3 has3 := by
  obtain ⟨k, has2, hasMany2, a1, a2, a3⟩ := qu_cut qh hl10 hx hy hUx (h.nd l x).1 hm
  have h12 := (h.len l x).1
  have hpos := List.length_pos_of_mem hm
  have hlen : (hs_cut w l x y l x).length + 1 = (w l x).length := by
    rw [hs_cut_at]
    exact pr_wo_len (h.nd l x).1 hm
  have hk : k < 12 := by
    have e := qu_indexIn qh hl10 hx hy hUx
    rw [a1] at e
    unfold qr_idx at e
    rw [if_pos hm] at e
    have e2 := Option.some.inj e
    have e3 := List.idxOf_lt_length_of_mem hm
    omega
  obtain ⟨i, hi, hi2⟩ : ∃ i : Nat, (i : Int) = (if p4 = -1 then ((w l x).length : Int) - 1 else p4) ∧ i ≤ (hs_cut w l x y l x).length := by
    by_cases q : p4 = -1
    · exact ⟨(w l x).length - 1, by rw [if_pos q]; omega, by omega⟩
    · exact ⟨p4.toNat, by rw [if_neg q]; omega, by omega⟩
  obtain ⟨hw1, b1, b2⟩ := pr_remove (o := y) hh hl10 hx hy
  obtain ⟨hw2, c1, c2⟩ := pr_insert (i := i) (o := y) (Rw := hs_cut w l x y) b2 hl10 hx hy hi2 (by omega)
  obtain ⟨has3, hasMany3, e1, e2⟩ := qu_insert (i := i) (o := y) a3 hl10 hx hy hi2 (by omega) hUx
  refine ⟨hs_put (hs_cut w l x y) l x i y, i, k, _, hw2, has2, hasMany2, has3, hasMany3, ?_, a1, hk, a2, ?_, e1, (qu_many e2 hl10 hx hUx).1, h.move i hm, c2, hs_p_move hl10 hx (h.nd l x).1 hm, e2⟩
  · unfold fX9_moveInRow fX1_has
    rw [pr_b, pr_lengthOf hh hl10 hx, pr_b, tl_gt ⟨h4, ⟨by omega, by omega⟩⟩, if_neg h4c, pr_b, b1, pr_b, pr_b, tl_gt ⟨h4, by decide⟩]
    have hi3 : (if p4 = -1 then some (((w l x).length : Int) - 1) else some p4) = some (i : Int) := by
      rw [hi]
      by_cases q : p4 = -1
      · rw [if_pos q, if_pos q]
      · rw [if_neg q, if_neg q]
    dsimp only
    rw [hi3, pr_b, c1, pr_b]
  · rw [tl_gt h4]
    by_cases q : p4 = -1
    · rw [if_pos q] at hi
      rw [if_pos (by omega), hi]
    · rw [if_neg q] at hi
      rw [if_neg (by omega), hi]
theorem ca_way {lv t ob3 g3 km lv2 ra : Int} {nl : Nat} {fo fr ru to fo2 fr2 ru2 to2 : Nat → Int} (hT : ht_R nl fo fr ru to fo2 fr2 ru2 to2) {g : Int} {U : Nat → Bool} {nu ki : Nat → Int} {w d : Nat → Nat → List Nat} (h : hs_I nl fo ru g U nu w d) (hg : g ≤ 1000000) {ob pa : Int} {dl : Nat → Int} {dw : Nat → Int64} {hl : Nat → Int} {hw : Nat → Int64} {kk nn : Nat → Int} (hR : hc_R U nu ki w d ob pa dl dw hl hw kk nn) {ob2 : Int} {had hadMany has hasMany kind number used : Nat → Int} (hQ : hq_R U nu ki w d ob2 had hadMany has hasMany kind number used) {R T : List Nat} {L : List Int} {rl spl tl pm : Int} {ri rs spi sps st tv pv gone queue steps : Nat → Int} (hS : ps_S R rl ri rs) (hT2 : ps_S T spl spi sps) (hL : pt_T 100 L tl tv) (hP : pt_T 101 L pm pv) (hgo : ∀ k, k < 100 → tl_R (gone k)) {p1 p2 : Int} (h1 : tl_R p1) (h2 : tl_R p2) :
    ∃ (c : Nat ⊕ Int) (b t' : Int) (R' T' : List Nat) (L' : List Int) (tv' ri' rs' spi' sps' st' : Nat → Int) (tl' rl' spl' : Int) (pv' queue' steps' : Nat → Int) (pm' : Int), fX9_way g3 lv ob pa dl dw hl hw nn (nl : Int) ru tl tv rl ri rs spl spi sps st p1 p2 = some (c, tv', ri', rs', spi', sps', st', tl', rl', spl') ∧ fX10_way t (nl : Int) ob3 g3 pm km lv2 ra gone had hadMany has hasMany number pv queue ru2 steps used p1 p2 = some (b, pv', queue', steps', pm', t') ∧ lm_A lf_way c b t' ∧ ps_S R' rl' ri' rs' ∧ ps_S T' spl' spi' sps' ∧ pt_T 100 L' tl' tv' ∧ pt_T 101 L' pm' pv' := by
  rcases hs_find U nu p1 with ⟨x, hx, hUx, ex⟩ | hno
  · rcases hs_find U nu p2 with ⟨y, hy, hUy, ey⟩ | hno
    · obtain ⟨R', T', tv', ri', rs', spi', sps', st', tl', rl', spl', a1, a2, a3, a4⟩ := hc_findWay (st := st) hT h hg hR hx hy hUy hS hT2 hL
      obtain ⟨queue', steps', b1, b2⟩ := hq_measure (t := 0) (o := ob3) (m := g3) (pm := pm) (km := km) (lv := lv2) (ra := ra) (queue := queue) (steps := steps) hT h hQ hgo hy hUy
      have hDb := hs_D_b h hy x
      have hbx := b2 x hx
      by_cases q : 0 ≤ hs_D nl ru d y x
      · obtain ⟨pm', pv', c1, c2⟩ := hq_walk (t := 0) (o := ob3) (m := g3) (pm := 0) (km := km) (lv := lv2) (ra := ra) (pv := pv) hT h hQ hy hUy b2 q
        rw [if_pos q] at a1 a4
        refine ⟨.inr (tl' - 1), hs_D nl ru d y x, 0, R', T', _, tv', ri', rs', spi', sps', st', tl', rl', spl', pv', queue', steps', pm', ?_, ?_, lm_A.ret rfl ?_, a2, a3, a4, c2⟩
        · unfold fX9_way fX6_length
          rw [cn_slot h hg hR h1 hx hUx ex, pr_b]
          dsimp only
          rw [cn_slot h hg hR h2 hy hUy ey, pr_b]
          dsimp only
          rw [a1, pr_b]
          dsimp only
          rw [tl_gt (by decide), if_neg (by decide), pr_b, pr_b]
        · unfold fX10_way
          rw [qn_place h hQ h1 hx hUx ex, pr_b, tl_gt ⟨by omega, by omega⟩, if_neg (by omega), qn_place h hQ h2 hy hUy ey, pr_b, tl_gt ⟨by omega, by omega⟩, if_neg (by omega), pr_b, qn_fails0, pr_b, tl_gt (by decide), if_pos rfl, qn_place h hQ h1 hx hUx ex, pr_b, qn_place h hQ h2 hy hUy ey, pr_b, b1, pr_b]
          dsimp only
          rw [tl_gt ⟨by omega, by omega⟩, Int.toNat_natCast, tl_gt ⟨by omega, by omega⟩, if_neg (by omega), c1, pr_b, tl_gt ⟨by omega, by omega⟩, hbx]
        · have h9 := a4.1
          rw [List.length_cons, List.length_map, pw_way_len] at h9
          omega
      · rw [if_neg q] at a1 a4
        refine ⟨.inr (0 - 1), -1, 0, R', T', [], tv', ri', rs', spi', sps', st', 0, rl', spl', pv, queue', steps', 0, ?_, ?_, lm_A.ret rfl rfl, a2, a3, ⟨rfl, by simp, fun i hi => by simp at hi⟩, ⟨rfl, by simp, fun i hi => by simp at hi⟩⟩
        · unfold fX9_way fX6_length fX6_clear
          rw [cn_slot h hg hR h1 hx hUx ex, pr_b]
          dsimp only
          rw [cn_slot h hg hR h2 hy hUy ey, pr_b]
          dsimp only
          rw [a1, pr_b]
          dsimp only
          rw [tl_gt (by decide), if_pos rfl, pr_b, pr_b, pr_b]
        · unfold fX10_way
          rw [qn_place h hQ h1 hx hUx ex, pr_b, tl_gt ⟨by omega, by omega⟩, if_neg (by omega), qn_place h hQ h2 hy hUy ey, pr_b, tl_gt ⟨by omega, by omega⟩, if_neg (by omega), pr_b, qn_fails0, pr_b, tl_gt (by decide), if_pos rfl, qn_place h hQ h1 hx hUx ex, pr_b, qn_place h hQ h2 hy hUy ey, pr_b, b1, pr_b]
          dsimp only
          rw [tl_gt ⟨by omega, by omega⟩, Int.toNat_natCast, tl_gt ⟨by omega, by omega⟩, if_pos (by omega)]
    · refine ⟨.inl 1, 0, 1, R, T, L, tv, ri, rs, spi, sps, st, tl, rl, spl, pv, queue, steps, pm, ?_, ?_, lm_A.thr rfl (by decide), hS, hT2, hL, hP⟩
      · unfold fX9_way
        rw [cn_slot h hg hR h1 hx hUx ex, pr_b]
        dsimp only
        rw [cn_noslot h hg hR h2 hno, pr_b]
      · unfold fX10_way
        rw [qn_place h hQ h1 hx hUx ex, pr_b, tl_gt ⟨by omega, by omega⟩, if_neg (by omega), qn_noplace hQ h2 hno, pr_b, tl_gt (by decide), if_pos (by decide), pr_b, qn_fails1 (by decide) (by decide), pr_b, tl_gt (by decide), if_neg (by decide)]
  · refine ⟨.inl 1, 0, 1, R, T, L, tv, ri, rs, spi, sps, st, tl, rl, spl, pv, queue, steps, pm, ?_, ?_, lm_A.thr rfl (by decide), hS, hT2, hL, hP⟩
    · unfold fX9_way
      rw [cn_noslot h hg hR h1 hno, pr_b]
    · unfold fX10_way
      rw [qn_noplace hQ h1 hno, pr_b, tl_gt (by decide), if_pos (by decide), pr_b, qn_fails1 (by decide) (by decide), pr_b, tl_gt (by decide), if_neg (by decide)]
