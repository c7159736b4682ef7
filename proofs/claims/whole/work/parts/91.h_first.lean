/-! drop: the nearest that is barred; marks -/
theorem hq_measureM {t o m pm km lv ra : Int} {nl : Nat} {fo fr ru to fo2 fr2 ru2 to2 : Nat → Int} (hT : ht_R nl fo fr ru to fo2 fr2 ru2 to2) {g : Int} {U : Nat → Bool} {nu ki : Nat → Int} {w d : Nat → Nat → List Nat} (h : hs_I nl fo ru g U nu w d) {ob : Int} {had hadMany has hasMany kind number used gone queue steps : Nat → Int} (hQ : hq_R U nu ki w d ob had hadMany has hasMany kind number used) {G : List Nat} (hgo : ∀ k, k < 100 → (gone k = 0 ∨ gone k = 1) ∧ (gone k ≠ 0 ↔ k ∈ G)) {p : Nat} (hp : p < 100) (hUp : U p = true) : ∃ (queue' steps' : Nat → Int), fX10_measure t (nl : Int) o m pm km lv ra gone had hadMany queue ru2 steps (p : Int) 1 = some (queue', steps') ∧ ∀ k, k < 100 → steps' k = hm_D nl ru d G p k := by
  obtain ⟨Rd, h1, h2⟩ := hQ.2.1
  have hr : ∀ l, l < nl → tl_R (ru2 l) := by
    intro l hl
    have := hT.2 l hl
    exact ⟨by omega, by omega⟩
  obtain ⟨many', queue', steps', h3, h4⟩ := qm_measure (t := t) (o := o) (m := m) (pm := pm) (km := km) (lv := lv) (ra := ra) (queue := queue) (steps := steps) (gone := gone) (p2 := 1) rfl h1 hT.1 hr (by decide) (fun k hk => by
    rcases (hgo k hk).1 with z | z
    · rw [z]; decide
    · rw [z]; decide) hp
  have e : pw_spread (qm_own nl ru2 Rd 1 gone) p = pw_spread (hm_own nl ru d G) p := by
    refine (pw_spread_congr (P := fun x => x < 100 ∧ U x = true) (fun x _ y hy => ?_) (fun x hx => ?_) ⟨hp, hUp⟩).symm
    · have := hs_own_d h (hm_mem.mp hy).1
      exact ⟨this.2.1, this.2.2.2.1⟩
    · have e2 : pw_own nl ru d x = pw_own nl ru2 Rd x := pw_own_congr2 (fun k hk => ⟨(hT.2 k hk).2.2.1.symm, by
        have := hT.1
        exact (h2 k x (by omega) hx.1 hx.2).symm⟩)
      unfold hm_own qm_own
      rw [← e2]
      refine List.filter_congr (fun y hy => ?_)
      have h5 := (hgo y (hs_own_d h hy).2.1).2
      unfold qm_ok
      refine decide_eq_decide.mpr ⟨fun z => Or.inr (h5.mpr z), fun z => z.elim (fun v => by omega) (fun v => h5.mp v)⟩
  rw [e] at h4
  exact ⟨queue', steps', h3, fun k hk => h4.2.2.2.2.1 k hk⟩
theorem hq_walkG {t o m pm km lv ra : Int} {nl : Nat} {fo fr ru to fo2 fr2 ru2 to2 : Nat → Int} (hT : ht_R nl fo fr ru to fo2 fr2 ru2 to2) {g : Int} {U : Nat → Bool} {nu ki : Nat → Int} {w d : Nat → Nat → List Nat} (h : hs_I nl fo ru g U nu w d) {ob : Int} {had hadMany has hasMany kind number used steps pv : Nat → Int} (hQ : hq_R U nu ki w d ob had hadMany has hasMany kind number used) {own2 : Nat → List Nat} {p x : Nat} {S : List Nat} {d2 : Nat → Int} (F : pw_F own2 p S d2) (hUS : ∀ y ∈ S, U y = true) (sub : ∀ a, ∀ b ∈ own2 a, b ∈ pw_own nl ru d a) (hst : ∀ k, k < 100 → steps k = pw_D S d2 k) (hx : 0 ≤ pw_D S d2 x) : ∃ (len' : Int) (v' : Nat → Int), fX10_walk t (nl : Int) o m pm km lv ra has hasMany number pv ru2 steps (x : Int) = some (v', len') ∧ pt_T 101 (nu x :: (pw_way (pw_own nl ru w) nu (pw_D S d2) (pw_D S d2 x).toNat x).map nu) len' v' := by
  obtain ⟨Rw, h1, h2⟩ := hQ.2.2.1
  have hlen := ps_len 100 _ F.nd F.lt
  have hr : ∀ l, l < nl → tl_R (ru2 l) := by
    intro l hl
    have := hT.2 l hl
    exact ⟨by omega, by omega⟩
  have e : ∀ y, (y < 100 ∧ U y = true) → pw_own nl ru w y = pw_own nl ru2 Rw y := by
    intro y hy
    refine pw_own_congr2 (fun k hk => ⟨?_, ?_⟩)
    · exact (hT.2 k hk).2.2.1.symm
    · have := hT.1
      exact (h2 k y (by omega) hy.1 hy.2).symm
  have hS : ∀ y ∈ S, y < 100 ∧ U y = true := fun y hy => ⟨F.lt y hy, hUS y hy⟩
  have hxS := (pw_D_ge F x).mpr hx
  have hb : ∀ y, y < 100 → ∀ z ∈ pw_own nl ru2 Rw y, z < 100 := by
    intro y hy z hz
    obtain ⟨k, k1, k2, k3⟩ := pw_mem_own.mp hz
    have := hT.1
    exact (h1 k y (by omega) hy).2.2.2 z k3
  have hDb : ∀ k, -1 ≤ pw_D S d2 k ∧ pw_D S d2 k < 100 := by
    intro k
    by_cases q : k ∈ S
    · have h3 := F.ge k q
      have h4 := F.le k q
      rw [pw_D_in q]
      omega
    · unfold pw_D
      rw [if_neg q]
      omega
  have hex : ∀ y, 0 < pw_D S d2 y → ∃ z ∈ pw_own nl ru w y, pw_D S d2 z = pw_D S d2 y - 1 := by
    intro y hD
    have hy := (pw_D_ge F y).mpr (by omega)
    rcases F.fr y hy with r | ⟨z, r1, r2, r3⟩
    · rw [pw_D_in hy, r, F.d0] at hD
      omega
    · exact ⟨z, (hs_own_d h (sub _ _ r2)).2.2.2.2, by rw [pw_D_in hy, pw_D_in r1]; omega⟩
  obtain ⟨len', v', h3, h4⟩ := qw_walk (t := t) (o := o) (m := m) (pm := pm) (km := km) (lv := lv) (ra := ra) (pv := pv) (nu := nu) (S := S) h1 hT.1 hr (fun k hk => (hQ.2.2.2.2.1 k hk).1) hst (fun k _ => hDb k) (fun k _ => pw_D_ge F k) F.lt hb (fun y hy => (hQ.2.2.2.2.1 y (F.lt y hy)).2 (hUS y hy)) (fun y hy z hz => by
      rw [← e y (hS y hy)] at hz
      have := hs_own_w h hz
      exact (hQ.2.2.2.2.1 z this.2.1).2 this.2.2.2.1) (fun y hy z hz v hv q => by
      rw [← e y (hS y hy)] at hz hv
      have g1 := hs_own_w h hz
      have g2 := hs_own_w h hv
      exact h.inj z v g1.2.1 g2.2.1 g1.2.2.2.1 g2.2.2.2.1 q) (fun y hy hD => by
      rw [← e y (hS y hy)]
      exact hex y hD) hxS
  refine ⟨len', v', h3, ?_⟩
  rw [pw_way_congr (own := pw_own nl ru w) (own2 := pw_own nl ru2 Rw) (P := fun y => y < 100 ∧ U y = true) e (fun y _ hD => hex y hD) (fun y _ z hz => ⟨(hs_own_w h hz).2.1, (hs_own_w h hz).2.2.2.1⟩) _ x (hS x hxS) (by omega)]
  exact h4
def hf_K (D nu : Nat → Int) (x : Nat) : Int := D x * 2000000 + nu x
theorem hf_lt {D nu : Nat → Int} {x y : Nat} (hx : 0 ≤ nu x ∧ nu x < 1000000) (hy : 0 ≤ nu y ∧ nu y < 1000000) : hf_K D nu x < hf_K D nu y ↔ D x < D y ∨ (D x = D y ∧ nu x < nu y) := by
  unfold hf_K
  omega
theorem cf_before {N : List Nat} {nl' : Int} {ni ns st nn nu D : Nat → Int} {ob pa : Int} (hN : ps_S N nl' ni ns) {x y : Nat} (hx : x ∈ N) (hy : y ∈ N) (ex : st x = D x ∧ nn x = nu x) (ey : st y = D y ∧ nn y = nu y) (bx : 0 ≤ nu x ∧ nu x < 1000000) (by' : 0 ≤ nu y ∧ nu y < 1000000) (dx : 0 ≤ D x ∧ D x < 100) (dy : 0 ≤ D y ∧ D y < 100) : fX2_isBefore nl' ni st ob pa nn (x : Int) (y : Int) = some (if hf_K D nu x < hf_K D nu y then 1 else 0) := by
  have hx1 := hN.2.2.1 x hx
  have hy1 := hN.2.2.1 y hy
  unfold fX2_isBefore
  rw [pw_stepsTo hN hx1, pr_b, pw_stepsTo hN hy1, pr_b, if_pos hx, if_pos hy, ex.1, ey.1, tl_gt ⟨⟨by omega, by omega⟩, ⟨by omega, by omega⟩⟩]
  by_cases a : D x < D y
  · rw [if_pos a, if_pos ((hf_lt bx by').mpr (Or.inl a))]
  · rw [if_neg a, tl_gt ⟨⟨by omega, by omega⟩, ⟨by omega, by omega⟩⟩]
    by_cases b : D x = D y
    · rw [if_pos b, ph_numberOf hx1, pr_b, ph_numberOf hy1, pr_b, ex.2, ey.2, tl_gt ⟨⟨by omega, by omega⟩, ⟨by omega, by omega⟩⟩]
      by_cases c : nu x < nu y
      · rw [if_pos c, if_pos ((hf_lt bx by').mpr (Or.inr ⟨b, c⟩))]
      · rw [if_neg c, if_neg (fun z => ((hf_lt bx by').mp z).elim a (fun v => c v.2))]
    · rw [if_neg b, if_neg (fun z => ((hf_lt bx by').mp z).elim a (fun v => b v.1))]
theorem cf_first_L {nl : Nat} {fo ru : Nat → Int} {g : Int} {U : Nat → Bool} {nu ki : Nat → Int} {w d : Nat → Nat → List Nat} (h : hs_I nl fo ru g U nu w d) (hg : g ≤ 1000000) (hn : nl ≤ 10) (hr : ∀ l, l < nl → tl_R (ru l)) {ob pa : Int} {dl : Nat → Int} {dw : Nat → Int64} {hl : Nat → Int} {hw : Nat → Int64} {kk nn : Nat → Int} (hR : hc_R U nu ki w d ob pa dl dw hl hw kk nn) {G N : List Nat} {gl : Int} {gi gs D : Nat → Int} (hG : ps_S G gl gi gs) {z2 : (Nat → Int) × (Nat → Int) × (Nat → Int) × Int} (hN : ps_S N z2.2.2.2 z2.1 z2.2.1) (hst : ∀ k ∈ N, z2.2.2.1 k = D k) (hU : ∀ k ∈ N, U k = true) (hD : ∀ k ∈ N, 0 ≤ D k ∧ D k < 100) :
    ∀ (n i : Nat) (b : Int), i ≤ N.length → N.length + 1 ≤ i + n → (b = -1 ∨ ∃ k : Nat, k ∈ N ∧ b = (k : Int)) → fX2_firstBarred_L1 gl gi (nl : Int) ru ob pa hl hw nn z2 n (i : Int) b = some (pl_fold (fun x => x ∈ G ∧ hb_b nl ru nu w G x ≠ -1) (hf_K D nu) b (N.drop i)) := by
  have hnn := hR.2.2.2.2.2
  have h100 := hN.le
  have he := hN.1
  have facts : ∀ k ∈ N, (z2.2.2.1 k = D k ∧ nn k = nu k) ∧ (0 ≤ nu k ∧ nu k < 1000000) := fun k hk => by
    have h1 := h.num k (hN.2.2.1 k hk) (hU k hk)
    exact ⟨⟨hst k hk, by rw [hnn k (hN.2.2.1 k hk), if_pos (hU k hk)]⟩, by omega, by omega⟩
  intro n
  induction n with
  | zero => intro i b h1 h2; omega
  | succ n ih =>
    intro i b hi hn2 hb
    rw [fX2_firstBarred_L1]
    unfold fX4_length
    rw [pr_b, tl_gt ⟨⟨by omega, by omega⟩, ⟨by omega, by omega⟩⟩]
    by_cases hq : i < N.length
    · have hm := List.getElem_mem hq
      have hm1 := hN.2.2.1 _ hm
      have no : ¬ (N[i] ∈ G ∧ hb_b nl ru nu w G N[i] ≠ -1) → fX2_firstBarred_L1 gl gi (nl : Int) ru ob pa hl hw nn z2 n ((i + 1 : Nat) : Int) b = some (pl_fold (fun x => x ∈ G ∧ hb_b nl ru nu w G x ≠ -1) (hf_K D nu) (pl_step (fun x => x ∈ G ∧ hb_b nl ru nu w G x ≠ -1) (hf_K D nu) b N[i]) (N.drop (i + 1))) := by
        intro z
        unfold pl_step
        rw [if_neg (fun v => z v.1)]
        exact ih (i + 1) b hq (by omega) hb
      rw [if_pos (by omega), ps_get hN hq, pr_b, ps_holds hG hm1, pr_b, show (i : Int) + 1 = ((i + 1 : Nat) : Int) by omega, List.drop_eq_getElem_cons hq, pl_fold]
      by_cases c : N[i] ∈ G
      · have hbi := hb_is h G N[i]
        rw [if_pos c, tl_gt (by decide), if_neg (by decide), cb_bar h hg hn hr hR hG hm1, pr_b, tl_gt ⟨by rcases hbi with z | ⟨k, z, k1, _⟩ <;> exact ⟨by omega, by omega⟩, by decide⟩]
        by_cases e : hb_b nl ru nu w G N[i] = -1
        · rw [if_pos e, pr_b, tl_gt (by decide), if_pos rfl]
          exact no (fun z => z.2 e)
        · rw [if_neg e, pr_b, tl_gt (by decide), if_neg (by decide)]
          unfold pl_step
          rcases hb with rfl | ⟨k, hk, rfl⟩
          · rw [tl_gt (by decide), if_pos rfl, if_pos ⟨⟨c, e⟩, Or.inl (by decide)⟩]
            exact ih (i + 1) _ hq (by omega) (Or.inr ⟨_, hm, rfl⟩)
          · have hk1 := hN.2.2.1 k hk
            rw [tl_gt ⟨⟨by omega, by omega⟩, by decide⟩, if_neg (by omega), cf_before hN hm hk (facts _ hm).1 (facts _ hk).1 (facts _ hm).2 (facts _ hk).2 (hD _ hm) (hD _ hk), pr_b, Int.toNat_natCast]
            by_cases v : hf_K D nu N[i] < hf_K D nu k
            · rw [if_pos v, tl_gt (by decide), if_neg (by decide), if_pos ⟨⟨c, e⟩, Or.inr v⟩]
              exact ih (i + 1) _ hq (by omega) (Or.inr ⟨_, hm, rfl⟩)
            · rw [if_neg v, tl_gt (by decide), if_pos rfl, if_neg (fun z => z.2.elim (fun y => by omega) v)]
              exact ih (i + 1) _ hq (by omega) (Or.inr ⟨_, hk, rfl⟩)
      · rw [if_neg c, tl_gt (by decide), if_pos rfl, pr_b, tl_gt (by decide), if_pos rfl]
        exact no (fun z => c z.1)
    · rw [if_neg (by omega), List.drop_eq_nil_of_le (by omega)]
      rfl
theorem qf_first_L {t o m pm km lv ra : Int} {nl : Nat} {fo fr ru to fo2 fr2 ru2 to2 : Nat → Int} (hT : ht_R nl fo fr ru to fo2 fr2 ru2 to2) {g : Int} {U : Nat → Bool} {nu ki : Nat → Int} {w d : Nat → Nat → List Nat} (h : hs_I nl fo ru g U nu w d) (hg : g ≤ 1000000) {ob : Int} {had hadMany has hasMany kind number used gone : Nat → Int} (hQ : hq_R U nu ki w d ob had hadMany has hasMany kind number used) {G : List Nat} {p : Nat} (hp : p < 100) (hG : hm_S nl ru d p G) (hGU : ∀ k ∈ G, U k = true) (hgo : ∀ k, k < 100 → (gone k = 0 ∨ gone k = 1) ∧ (gone k ≠ 0 ↔ k ∈ G)) {D : Nat → Int} (hD : ∀ k ∈ G, hm_D nl ru d G k p = D k ∧ 0 ≤ D k ∧ D k < 100) :
    ∀ (n m2 i : Nat) (least b : Int) (queue steps : Nat → Int), i + m2 = 100 → m2 + 1 ≤ n → (b = -1 ∨ ∃ k : Nat, k ∈ G ∧ b = (k : Int) ∧ least = D k) → tl_R least → ∃ (queue' steps' : Nat → Int), fX10_firstBarred_L1 t (nl : Int) o m pm km lv ra gone had hadMany has hasMany number ru2 (p : Int) n (i : Int) least b queue steps = some (pl_fold (fun x => x ∈ G ∧ hb_b nl ru nu w G x ≠ -1) (hf_K D nu) b (List.range' i m2), queue', steps') := by
  have hgR : ∀ k, k < 100 → tl_R (gone k) := fun k hk => by
    rcases (hgo k hk).1 with z | z
    · rw [z]; decide
    · rw [z]; decide
  intro n
  induction n with
  | zero => intro m2 i least b queue steps h1 h2; omega
  | succ n ih =>
    intro m2 i least b queue steps him hn hb hl
    rw [fX10_firstBarred_L1, tl_gt ⟨⟨by omega, by omega⟩, by decide⟩]
    cases m2 with
    | zero =>
      rw [if_neg (by omega)]
      exact ⟨queue, steps, rfl⟩
    | succ m2 =>
      have q : i < 100 := by omega
      have iI : tl_in (i : Int) 100 := ⟨by omega, by omega⟩
      have iP : tl_in (p : Int) 100 := ⟨by omega, by omega⟩
      rw [if_pos (by omega), tl_gt iI, Int.toNat_natCast, tl_gt (hgR i q), show (i : Int) + 1 = ((i + 1 : Nat) : Int) by omega, List.range'_succ, pl_fold]
      have no : ∀ (qu st : Nat → Int), (¬ ((i ∈ G ∧ hb_b nl ru nu w G i ≠ -1) ∧ (b < 0 ∨ hf_K D nu i < hf_K D nu b.toNat))) → ∃ (queue' steps' : Nat → Int), fX10_firstBarred_L1 t (nl : Int) o m pm km lv ra gone had hadMany has hasMany number ru2 (p : Int) n ((i + 1 : Nat) : Int) least b qu st = some (pl_fold (fun x => x ∈ G ∧ hb_b nl ru nu w G x ≠ -1) (hf_K D nu) (pl_step (fun x => x ∈ G ∧ hb_b nl ru nu w G x ≠ -1) (hf_K D nu) b i) (List.range' (i + 1) m2), queue', steps') := by
        intro qu st z
        unfold pl_step
        rw [if_neg z]
        exact ih m2 (i + 1) least b qu st (by omega) (by omega) hb hl
      by_cases c : i ∈ G
      · have hUi := hGU i c
        have hg0 := ((hgo i q).2).mpr c
        have hbi := hb_is h G i
        rw [if_neg hg0, qb_bar hT h hQ hgo q hUi, pr_b, tl_gt (by rcases hbi with z | ⟨k, z, k1, _⟩ <;> exact ⟨by omega, by omega⟩)]
        by_cases e : hb_b nl ru nu w G i = -1
        · rw [if_pos (by omega)]
          exact no queue steps (fun z => z.1.2 e)
        · obtain ⟨q2, s2, a1, a2⟩ := hq_measureM (t := t) (o := o) (m := m) (pm := pm) (km := km) (lv := lv) (ra := ra) (queue := queue) (steps := steps) hT h hQ hgo q hUi
          have hDi := hD i c
          have hsp := a2 p hp
          rw [hDi.1] at hsp
          have hnum := h.num i q hUi
          have yes : (b < 0 ∨ hf_K D nu i < hf_K D nu b.toNat) → ∃ (queue' steps' : Nat → Int), fX10_firstBarred_L1 t (nl : Int) o m pm km lv ra gone had hadMany has hasMany number ru2 (p : Int) n ((i + 1 : Nat) : Int) (s2 p) (i : Int) q2 s2 = some (pl_fold (fun x => x ∈ G ∧ hb_b nl ru nu w G x ≠ -1) (hf_K D nu) (pl_step (fun x => x ∈ G ∧ hb_b nl ru nu w G x ≠ -1) (hf_K D nu) b i) (List.range' (i + 1) m2), queue', steps') := by
            intro z
            unfold pl_step
            rw [if_pos ⟨⟨c, e⟩, z⟩]
            exact ih m2 (i + 1) _ _ q2 s2 (by omega) (by omega) (Or.inr ⟨i, c, rfl, hsp⟩) ⟨by omega, by omega⟩
          rw [if_neg (by rcases hbi with z | ⟨k, z, _⟩ <;> omega), a1, pr_b, tl_gt iP]
          dsimp only
          rw [Int.toNat_natCast]
          rcases hb with rfl | ⟨k, hk, rfl, hlk⟩
          · rw [tl_gt (by decide), if_pos (by decide)]
            exact yes (Or.inl (by decide))
          · have hk1 := hG.2.1 k hk
            have hDk := hD k hk
            have hnk := h.num k hk1 (hGU k hk)
            have eK := hf_lt (D := D) (nu := nu) (x := i) (y := k) ⟨by omega, by omega⟩ ⟨by omega, by omega⟩
            rw [tl_gt ⟨by omega, by omega⟩, if_neg (by omega), tl_gt ⟨⟨by omega, by omega⟩, hl⟩]
            by_cases v : s2 p < least
            · rw [if_pos v]
              exact yes (Or.inr (by rw [Int.toNat_natCast]; exact eK.mpr (Or.inl (by omega))))
            · rw [if_neg v, tl_gt ⟨⟨by omega, by omega⟩, hl⟩]
              by_cases u : s2 p = least
              · have r1 := hQ.2.2.2.2.1 i q
                have r2 := hQ.2.2.2.2.1 k hk1
                rw [if_pos u, tl_gt iI, tl_gt ⟨by omega, by omega⟩, Int.toNat_natCast, tl_gt ⟨r1.1, r2.1⟩]
                have e1 := r1.2 hUi
                have e2 := r2.2 (hGU k hk)
                by_cases y : number i < number k
                · rw [if_pos y]
                  exact yes (Or.inr (by rw [Int.toNat_natCast]; exact eK.mpr (Or.inr ⟨by omega, by omega⟩)))
                · rw [if_neg y]
                  refine no q2 s2 (fun z => z.2.elim (fun x => by omega) (fun x => ?_))
                  rw [Int.toNat_natCast] at x
                  rcases eK.mp x with x | x
                  · omega
                  · have := x.2
                    omega
              · rw [if_neg u]
                refine no q2 s2 (fun z => z.2.elim (fun x => by omega) (fun x => ?_))
                rw [Int.toNat_natCast] at x
                rcases eK.mp x with x | x
                · omega
                · have := x.1
                  omega
      · have hg0 : gone i = 0 := by
          by_cases z : gone i = 0
          · exact z
          · exact absurd (((hgo i q).2).mp z) c
        rw [if_pos hg0]
        exact no queue steps (fun z => c z.1.1)
