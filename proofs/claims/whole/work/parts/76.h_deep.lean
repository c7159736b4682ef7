/-! howDeep by layers; ask -/
theorem hs_pa_last {own : Nat → List Nat} : ∀ (n x z : Nat), hs_pa own (n + 1) x z → ∃ y, hs_pa own n x y ∧ z ∈ own y
  | 0, x, z, ⟨v, h1, h2⟩ => by
    have e : v = z := h2
    exact ⟨x, rfl, e ▸ h1⟩
  | n + 1, x, z, ⟨v, h1, h2⟩ => by
    obtain ⟨y, h3, h4⟩ := hs_pa_last n v z h2
    exact ⟨y, ⟨v, h1, h3⟩, h4⟩
theorem hd_L2 {ob pa : Int} {nl : Nat} {rules : Nat → Int} {Rw : Nat → Nat → List Nat} {len : Nat → Int} {w : Nat → Int64} (h : pr_R Rw len w) (hn : nl ≤ 10) (hr : ∀ l, l < nl → tl_R (rules l)) {R : List Nat} {rl : Int} {ri rs : Nat → Int} (hR : ps_S R rl ri rs) :
    ∀ (n i : Nat) (T : List Nat) (sl : Int) (ins lst : Nat → Int), i ≤ R.length → R.length + 1 ≤ i + n → ps_S T sl ins lst → ∃ (T' : List Nat) (sl' : Int) (ins' lst' : Nat → Int), fX8_howDeep_L2 (nl : Int) rules ob pa len w rl rs n (i : Int) sl ins lst = some (sl', ins', lst') ∧ ps_S T' sl' ins' lst' ∧ ∀ z, z ∈ T' ↔ z ∈ T ∨ ∃ y ∈ R.drop i, z ∈ pw_own nl rules Rw y := by
  have h100 := hR.le
  have he := hR.1
  intro n
  induction n with
  | zero => intro i T sl ins lst a b; omega
  | succ n ih =>
    intro i T sl ins lst hi hn2 hT
    rw [fX8_howDeep_L2]
    unfold fX4_length fX1_had
    rw [pr_b, tl_gt ⟨⟨by omega, by omega⟩, ⟨by omega, by omega⟩⟩]
    by_cases q : i < R.length
    · have hm := hR.2.2.1 _ (List.getElem_mem q)
      obtain ⟨ins2, lst2, sl2, h1, h2⟩ := pw_addOwning (s := R[i]) h hn hm hr hT
      obtain ⟨T', sl', ins', lst', h3, h4, h5⟩ := ih (i + 1) _ sl2 ins2 lst2 q (by omega) h2
      rw [if_pos (by omega), pr_b, ps_get hR q, pr_b, h1, pr_b, show (i : Int) + 1 = ((i + 1 : Nat) : Int) by omega]
      refine ⟨T', sl', ins', lst', h3, h4, fun z => ?_⟩
      rw [h5 z, pr_mem_addAll, List.drop_eq_getElem_cons q]
      constructor
      · rintro ((a | a) | ⟨y, a, b⟩)
        · exact Or.inl a
        · exact Or.inr ⟨_, List.mem_cons_self, a⟩
        · exact Or.inr ⟨y, List.mem_cons_of_mem _ a, b⟩
      · rintro (a | ⟨y, a, b⟩)
        · exact Or.inl (Or.inl a)
        · rcases List.mem_cons.mp a with c | c
          · exact Or.inl (Or.inr (c ▸ b))
          · exact Or.inr ⟨y, c, b⟩
    · rw [if_neg (by omega)]
      refine ⟨T, sl, ins, lst, rfl, hT, fun z => ⟨Or.inl, fun q => q.elim id (fun ⟨y, a, _⟩ => ?_)⟩⟩
      rw [List.drop_eq_nil_of_le (by omega)] at a
      cases a
theorem hd_L1 {ob pa : Int} {nl : Nat} {rules : Nat → Int} {Rw : Nat → Nat → List Nat} {len : Nat → Int} {w : Nat → Int64} (h : pr_R Rw len w) (hn : nl ≤ 10) (hr : ∀ l, l < nl → tl_R (rules l)) {x : Nat} (hlt : ∀ n, hd_hp (pw_own nl rules Rw) n x → n < 100) :
    ∀ (n k : Nat) (R T : List Nat) (rl sl : Int) (ri rs ins lst : Nat → Int), 101 ≤ k + n → ps_S R rl ri rs → ps_S T sl ins lst → (∀ z, z ∈ R ↔ hs_pa (pw_own nl rules Rw) k x z) → R ≠ [] →
      ∃ (M : Nat) (R' T' : List Nat) (ri' rs' ins' lst' : Nat → Int) (rl' sl' : Int), fX8_howDeep_L1 (nl : Int) rules ob pa len w n (k : Int) rl ri rs sl ins lst = some (.inr ((M : Int), ri', rs', ins', lst', rl', sl')) ∧ ps_S R' rl' ri' rs' ∧ ps_S T' sl' ins' lst' ∧ hd_hp (pw_own nl rules Rw) M x ∧ ¬ hd_hp (pw_own nl rules Rw) (M + 1) x := by
  intro n
  induction n with
  | zero =>
    intro k R T rl sl ri rs ins lst hk hR hT hm hne
    obtain ⟨z, hz⟩ := List.exists_mem_of_ne_nil R hne
    have := hlt k ⟨z, (hm z).mp hz⟩
    omega
  | succ n ih =>
    intro k R T rl sl ri rs ins lst hk hR hT hm hne
    obtain ⟨z0, hz0⟩ := List.exists_mem_of_ne_nil R hne
    have hk100 := hlt k ⟨z0, (hm z0).mp hz0⟩
    obtain ⟨ins1, a1, a2⟩ := ps_clear hT
    obtain ⟨T2, sl2, ins2, lst2, b1, b2, b3⟩ := hd_L2 (ob := ob) (pa := pa) h hn hr hR tl_N 0 [] 0 ins1 lst (Nat.zero_le _) (by have := hR.le; unfold tl_N; omega) (a2 lst)
    rw [show ((0 : Nat) : Int) = (0 : Int) from rfl] at b1
    rw [List.drop_zero] at b3
    have hT2 : ∀ z, z ∈ T2 ↔ hs_pa (pw_own nl rules Rw) (k + 1) x z := by
      intro z
      rw [b3 z]
      constructor
      · rintro (c | ⟨y, c1, c2⟩)
        · cases c
        · exact hs_pa_app k 1 x y z ((hm y).mp c1) ⟨z, c2, rfl⟩
      · intro c
        obtain ⟨y, c1, c2⟩ := hs_pa_last k x z c
        exact Or.inr ⟨y, (hm y).mpr c1, c2⟩
    have hle := b2.le
    have he := b2.1
    rw [fX8_howDeep_L1, tl_gt ⟨⟨by omega, by omega⟩, by decide⟩, if_pos (by omega), a1, pr_b]
    dsimp only
    rw [b1, pr_b]
    unfold fX4_length
    dsimp only
    rw [pr_b, tl_gt ⟨by omega, by omega⟩]
    by_cases q : T2 = []
    · have q0 : sl2 = 0 := by
        rw [he, q]
        rfl
      rw [if_pos q0]
      refine ⟨k, R, T2, ri, rs, ins2, lst2, rl, sl2, rfl, hR, b2, ⟨z0, (hm z0).mp hz0⟩, fun ⟨z, hz⟩ => ?_⟩
      have := (hT2 z).mpr hz
      rw [q] at this
      cases this
    · have q0 : sl2 ≠ 0 := by
        rw [he]
        intro z
        exact q (List.eq_nil_of_length_eq_zero (by omega))
      rw [if_neg q0, show (k : Int) + 1 = ((k + 1 : Nat) : Int) by omega]
      exact ih (k + 1) T2 R sl2 rl ins2 lst2 ri rs (by omega) b2 hR hT2 q
theorem hc_deep {ob pa : Int} {nl : Nat} {rules : Nat → Int} {Rw : Nat → Nat → List Nat} {len : Nat → Int} {w : Nat → Int64} (h : pr_R Rw len w) (hn : nl ≤ 10) (hr : ∀ l, l < nl → tl_R (rules l)) {x : Nat} (hx : x < 100) (hlt : ∀ n, hd_hp (pw_own nl rules Rw) n x → n < 100) {R T : List Nat} {rl sl : Int} {ri rs ins lst : Nat → Int} (hR : ps_S R rl ri rs) (hT : ps_S T sl ins lst) :
    ∃ (M : Nat) (R' T' : List Nat) (ri' rs' ins' lst' : Nat → Int) (rl' sl' : Int), fX8_howDeep rl ri rs sl ins lst (nl : Int) rules ob pa len w (x : Int) = some ((M : Int), ri', rs', ins', lst', rl', sl') ∧ ps_S R' rl' ri' rs' ∧ ps_S T' sl' ins' lst' ∧ hd_hp (pw_own nl rules Rw) M x ∧ ¬ hd_hp (pw_own nl rules Rw) (M + 1) x := by
  obtain ⟨ri1, a1, a2⟩ := ps_clear hR
  obtain ⟨ri2, rs2, rl2, b1, b2⟩ := ps_add (a2 rs) hx
  rw [if_neg (by simp)] at b2
  obtain ⟨M, R', T', ri', rs', ins', lst', rl', sl', c1, c2, c3, c4, c5⟩ := hd_L1 (ob := ob) (pa := pa) h hn hr hlt tl_N 0 ([] ++ [x]) T rl2 sl ri2 rs2 ins lst (by unfold tl_N; omega) b2 hT (fun z => by
    rw [List.nil_append, List.mem_singleton]
    exact ⟨fun e => e.symm, fun e => by have e2 : x = z := e; exact e2.symm⟩) (by simp)
  rw [show ((0 : Nat) : Int) = (0 : Int) from rfl] at c1
  unfold fX8_howDeep
  rw [a1, pr_b]
  dsimp only
  rw [b1, pr_b, c1, pr_b]
  exact ⟨M, R', T', ri', rs', ins', lst', rl', sl', rfl, c2, c3, c4, c5⟩
theorem hd_one {own : Nat → List Nat} {x M N : Nat} (h1 : hd_hp own M x) (h2 : ¬ hd_hp own (M + 1) x) (h3 : hd_hp own N x) (h4 : ¬ hd_hp own (N + 1) x) : M = N := by
  by_cases a : M < N
  · exact absurd (hd_down N (M + 1) x (by omega) h3) h2
  · by_cases b : N < M
    · exact absurd (hd_down M (N + 1) x (by omega) h1) h4
    · omega
theorem ca_ask {lv t ob3 g3 pm km lv2 ra : Int} {nl : Nat} {fo fr ru to fo2 fr2 ru2 to2 : Nat → Int} (hT : ht_R nl fo fr ru to fo2 fr2 ru2 to2) {g : Int} {U : Nat → Bool} {nu ki : Nat → Int} {w d : Nat → Nat → List Nat} (h : hs_I nl fo ru g U nu w d) (hg : g ≤ 1000000) {ob pa : Int} {dl : Nat → Int} {dw : Nat → Int64} {hl : Nat → Int} {hw : Nat → Int64} {kk nn : Nat → Int} (hR : hc_R U nu ki w d ob pa dl dw hl hw kk nn) {ob2 : Int} {had hadMany has hasMany kind number used : Nat → Int} (hQ : hq_R U nu ki w d ob2 had hadMany has hasMany kind number used) {R T : List Nat} {rl spl : Int} {ri rs spi sps st queue steps under : Nat → Int} (hS : ps_S R rl ri rs) (hT2 : ps_S T spl spi sps) {p1 p2 : Int} (h1 : tl_R p1) (h2 : tl_R p2) :
    ∃ (c : Nat ⊕ Int) (b t' : Int) (R' T' : List Nat) (ri' rs' spi' sps' st' : Nat → Int) (rl' spl' : Int) (queue' steps' under' : Nat → Int), fX9_ask g3 lv ob pa dl dw hl hw kk nn (nl : Int) ru rl ri rs spl spi sps st p1 p2 = some (c, ri', rs', spi', sps', st', rl', spl') ∧ fX10_ask t (nl : Int) ob3 g3 pm km lv2 ra has hasMany kind number queue ru2 steps under used p1 p2 = some (b, queue', steps', under', t') ∧ lm_A lf_ask c b t' ∧ ps_S R' rl' ri' rs' ∧ ps_S T' spl' spi' sps' := by
  have hn := hT.1
  have hr : ∀ l, l < nl → tl_R (ru l) := fun l hl => by
    have := hT.2 l hl
    exact ⟨by omega, by omega⟩
  have hpl : ∃ r, fX10_placeOf t (nl : Int) ob3 g3 pm km lv2 ra number used p1 = some r := by
    rcases hs_find U nu p1 with ⟨s, hs, hU, he⟩ | hno
    · exact ⟨_, qn_place h hQ h1 hs hU he⟩
    · exact ⟨_, qn_noplace hQ h1 hno⟩
  by_cases a1 : 0 ≤ p2 ∧ p2 < 6
  · have a1' : 0 ≤ p2 ∧ p2 ≤ 5 := by omega
    rcases hs_find U nu p1 with ⟨x, hx, hU, he⟩ | hno
    · obtain ⟨r1, r2, r3, r4, r5, r6⟩ := id hR
      obtain ⟨q1, q2, q3, q4, q5, q6⟩ := id hQ
      have core : ∃ (v : Int) (R' T' : List Nat) (ri' rs' spi' sps' st' : Nat → Int) (rl' spl' : Int) (queue' steps' under' : Nat → Int),
          (if p2 = 0 then (fX1_kindOf ob pa kk (x : Int)).bind fun z5 => some (Sum.inr (α := Nat) z5, ri, rs, spi, sps, st, rl, spl) else if p2 = 1 then (fX1_had ob pa).bind fun _ => (fX8_howManyOwning rl ri rs (nl : Int) ru dl dw (x : Int)).bind fun z7 => some (.inr z7.1, z7.2.1, z7.2.2.1, spi, sps, st, z7.2.2.2, spl) else if p2 = 2 then (fX8_howManyUnder rl ri rs st (nl : Int) ru ob pa hl hw (x : Int)).bind fun z8 => some (.inr z8.1, z8.2.1, z8.2.2.1, spi, sps, z8.2.2.2.1, z8.2.2.2.2, spl) else if p2 = 3 then (fX8_howDeep rl ri rs spl spi sps (nl : Int) ru ob pa dl dw (x : Int)).bind fun z9 => some (.inr z9.1, z9.2.1, z9.2.2.1, z9.2.2.2.1, z9.2.2.2.2.1, st, z9.2.2.2.2.2.1, z9.2.2.2.2.2.2) else if p2 = 4 then (fX1_has ob pa).bind fun _ => (fX8_howManyOwning rl ri rs (nl : Int) ru hl hw (x : Int)).bind fun z11 => some (.inr z11.1, z11.2.1, z11.2.2.1, spi, sps, st, z11.2.2.2, spl) else (fX8_howManyNear rl ri rs (nl : Int) ob pa dl dw hl hw (x : Int)).bind fun z12 => some (.inr z12.1, z12.2.1, z12.2.2.1, spi, sps, st, z12.2.2.2, spl)) = some (.inr v, ri', rs', spi', sps', st', rl', spl') ∧
          (if p2 = 0 then tl_gd (tl_in (x : Int) 100) (some (kind x, queue, steps, under, (0 : Int))) else if p2 = 1 then (fX10_owners 0 (nl : Int) ob3 g3 pm km lv2 ra has hasMany ru2 used (x : Int)).bind fun z5 => some (z5, queue, steps, under, 0) else if p2 = 2 then (fX10_markUnder 0 (nl : Int) ob3 g3 pm km lv2 ra has hasMany queue ru2 under (x : Int)).bind fun z6 => some (z6.1, z6.2.1, steps, z6.2.2, 0) else if p2 = 3 then (fX10_depth 0 (nl : Int) ob3 g3 pm km lv2 ra has hasMany ru2 steps used (x : Int)).bind fun z7 => some (z7.1, queue, z7.2, under, 0) else if p2 = 4 then (fX10_owned 0 (nl : Int) ob3 g3 pm km lv2 ra has hasMany ru2 used (x : Int)).bind fun z8 => some (z8, queue, steps, under, 0) else (fX10_near 0 (nl : Int) ob3 g3 pm km lv2 ra has hasMany used (x : Int)).bind fun z9 => some (z9, queue, steps, under, 0)) = some (v, queue', steps', under', 0) ∧ ps_S R' rl' ri' rs' ∧ ps_S T' spl' spi' sps' := by
        by_cases b0 : p2 = 0
        · refine ⟨ki x, R, T, ri, rs, spi, sps, st, rl, spl, queue, steps, under, ?_, ?_, hS, hT2⟩
          · rw [if_pos b0, ph_kindOf hx, pr_b, (r5 x hx).2 hU]
          · rw [if_pos b0, tl_gt ⟨by omega, by omega⟩, (q4 x hx).2 hU]
        · by_cases b1 : p2 = 1
          · obtain ⟨S', i', l', s', c1, c2⟩ := hc_many r3 hn hr hx hS
            refine ⟨((pr_addAll [] (pw_own nl ru d x)).length : Int), S', T, i', l', spi, sps, st, s', spl, queue, steps, under, ?_, ?_, c2, hT2⟩
            · unfold fX1_had
              rw [if_neg b0, if_pos b1, pr_b, c1, pr_b]
            · rw [if_neg b0, if_pos b1, hq_owners hT h q3 q6 hx hU, pr_b]
          · by_cases b2 : p2 = 2
            · obtain ⟨i', l', st', s', c1, c2, c3⟩ := pw_spread_eq r4 hn hr hS st hx
              obtain ⟨queue', under', e1, e2⟩ := hq_mark (t := 0) (o := ob3) (m := g3) (pm := pm) (km := km) (lv := lv2) (ra := ra) (queue := queue) (under := under) hT h q3 hx hU
              refine ⟨((pw_spread (pw_own nl ru w) x).1.length : Int) - 1, (pw_spread (pw_own nl ru w) x).1, T, i', l', spi, sps, st', s', spl, queue', steps, under', ?_, ?_, c2, hT2⟩
              · unfold fX8_howManyUnder fX1_has fX4_length
                rw [if_neg b0, if_neg b1, if_pos b2, pr_b, c1, pr_b, pr_b, pr_b]
                rw [← c2.1]
              · rw [if_neg b0, if_neg b1, if_pos b2, e1, pr_b]
            · by_cases b3 : p2 = 3
              · obtain ⟨M, R', T', ri', rs', i', l', rl', s', c1, c2, c3, c4, c5⟩ := hc_deep (ob := ob) (pa := pa) r3 hn hr hx (fun n hp => hd_lt (hs_ac_d h) (fun a b hb => ⟨(hs_own_d h hb).1, (hs_own_d h hb).2.1⟩) hx hp) hS hT2
                obtain ⟨N, steps', e1, e2, e3⟩ := hq_depth (t := 0) (o := ob3) (m := g3) (pm := pm) (km := km) (lv := lv2) (ra := ra) (steps := steps) hT h q3 q6 hx
                have eMN := hd_one c4 c5 e2 e3
                refine ⟨(M : Int), R', T', ri', rs', i', l', st, rl', s', queue, steps', under, ?_, ?_, c2, c3⟩
                · rw [if_neg b0, if_neg b1, if_neg b2, if_pos b3, c1, pr_b]
                · rw [if_neg b0, if_neg b1, if_neg b2, if_pos b3, e1, pr_b, eMN]
              · by_cases b4 : p2 = 4
                · obtain ⟨S', i', l', s', c1, c2⟩ := hc_many r4 hn hr hx hS
                  refine ⟨((pr_addAll [] (pw_own nl ru w x)).length : Int), S', T, i', l', spi, sps, st, s', spl, queue, steps, under, ?_, ?_, c2, hT2⟩
                  · unfold fX1_has
                    rw [if_neg b0, if_neg b1, if_neg b2, if_neg b3, if_pos b4, pr_b, c1, pr_b]
                  · rw [if_neg b0, if_neg b1, if_neg b2, if_neg b3, if_pos b4, hq_owned hT h q3 q6 hx hU, pr_b]
                · obtain ⟨S', i', l', s', c1, c2⟩ := hc_near (ob := ob) (pa := pa) r3 r4 hn hx hS
                  refine ⟨((pr_addAll [] (hs_nf w d x nl 0)).length : Int), S', T, i', l', spi, sps, st, s', spl, queue, steps, under, ?_, ?_, c2, hT2⟩
                  · rw [if_neg b0, if_neg b1, if_neg b2, if_neg b3, if_neg b4, c1, pr_b]
                  · rw [if_neg b0, if_neg b1, if_neg b2, if_neg b3, if_neg b4, hq_near hn h q3 q6 hx hU, pr_b]
      obtain ⟨v, R', T', ri', rs', spi', sps', st', rl', spl', queue', steps', under', e1, e2, e3, e4⟩ := core
      refine ⟨.inr v, v, 0, R', T', ri', rs', spi', sps', st', rl', spl', queue', steps', under', ?_, ?_, lm_A.ret rfl rfl, e3, e4⟩
      · unfold fX9_ask
        rw [cn_below h2 (by decide), if_pos a1, pr_b]
        dsimp only
        rw [cn_slot h hg hR h1 hx hU he, pr_b]
        dsimp only
        rw [tl_gt h2]
        exact e1
      · unfold fX10_ask
        rw [qn_place h hQ h1 hx hU he, pr_b, qn_rng h2 (by decide), if_pos a1', tl_gt ⟨by omega, by omega⟩, if_neg (by omega), pr_b, qn_fails0, pr_b]
        dsimp only
        rw [tl_gt (show tl_R (0 : Int) by decide), if_pos rfl, tl_gt h2, Int.toNat_natCast]
        exact e2
    · refine ⟨.inl 1, 0, 2, R, T, ri, rs, spi, sps, st, rl, spl, queue, steps, under, ?_, ?_, lm_A.thr rfl (by decide), hS, hT2⟩
      · unfold fX9_ask
        rw [cn_below h2 (by decide), if_pos a1, pr_b]
        dsimp only
        rw [cn_noslot h hg hR h1 hno, pr_b]
      · unfold fX10_ask
        rw [qn_noplace hQ h1 hno, pr_b, qn_rng h2 (by decide), if_pos a1', tl_gt (by decide), if_pos (by decide), pr_b, qn_fails1 (by decide) (by decide), pr_b, tl_gt (by decide), if_neg (by decide)]
  · obtain ⟨r, hr⟩ := hpl
    refine ⟨.inl 0, 0, 1, R, T, ri, rs, spi, sps, st, rl, spl, queue, steps, under, ?_, ?_, lm_A.thr rfl (by decide), hS, hT2⟩
    · unfold fX9_ask
      rw [cn_below h2 (by decide), if_neg a1, pr_b]
    · unfold fX10_ask
      rw [hr, pr_b, qn_rng h2 (by decide), if_neg (show ¬ (0 ≤ p2 ∧ p2 ≤ 5) by omega), pr_b, qn_fails1 (by decide) (by decide), pr_b, tl_gt (by decide), if_neg (by decide)]
