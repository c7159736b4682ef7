/-! ways: both sides over the same house -/
theorem pw_bfs_all {own : Nat → List Nat} {P : Nat → Prop} (h : ∀ x, P x → ∀ y ∈ own x, P y) : ∀ (f i : Nat) (S : List Nat) (d : Nat → Int), (∀ x ∈ S, P x) → ∀ x ∈ (pw_bfs own f i S d).1, P x := by
  intro f
  induction f with
  | zero => intro i S d hS x hx; exact hS x hx
  | succ f ih =>
    intro i S d hS
    rw [pw_bfs]
    by_cases q : i < S.length
    · rw [dif_pos q]
      refine ih _ _ _ (fun x hx => ?_)
      rcases (pr_mem_addAll _ _).mp hx with r | r
      · exact hS x r
      · exact h _ (hS _ (List.getElem_mem q)) x r
    · rw [dif_neg q]
      exact hS
theorem pw_spread_all {own : Nat → List Nat} {P : Nat → Prop} {p : Nat} (h : ∀ x, P x → ∀ y ∈ own x, P y) (hp : P p) : ∀ x ∈ (pw_spread own p).1, P x := pw_bfs_all h 100 0 [p] (fun _ => 0) (fun x hx => by rw [List.mem_singleton.mp hx]; exact hp)
theorem pw_bfs_congr {own own2 : Nat → List Nat} {P : Nat → Prop} (h : ∀ x, P x → ∀ y ∈ own x, P y) (e : ∀ x, P x → own x = own2 x) : ∀ (f i : Nat) (S : List Nat) (d : Nat → Int), (∀ x ∈ S, P x) → pw_bfs own f i S d = pw_bfs own2 f i S d := by
  intro f
  induction f with
  | zero => intro i S d _; rfl
  | succ f ih =>
    intro i S d hS
    rw [pw_bfs, pw_bfs]
    by_cases q : i < S.length
    · rw [dif_pos q, dif_pos q]
      have hq := hS _ (List.getElem_mem q)
      rw [← e _ hq]
      refine ih _ _ _ (fun x hx => ?_)
      rcases (pr_mem_addAll _ _).mp hx with r | r
      · exact hS x r
      · exact h _ hq x r
    · rw [dif_neg q, dif_neg q]
theorem pw_spread_congr {own own2 : Nat → List Nat} {P : Nat → Prop} {p : Nat} (h : ∀ x, P x → ∀ y ∈ own x, P y) (e : ∀ x, P x → own x = own2 x) (hp : P p) : pw_spread own p = pw_spread own2 p := pw_bfs_congr h e 100 0 [p] (fun _ => 0) (fun x hx => by rw [List.mem_singleton.mp hx]; exact hp)
theorem pw_from_congr2 {r1 r2 : Nat → Int} {R1 R2 : Nat → Nat → List Nat} {s : Nat} : ∀ (m l : Nat), (∀ k, l ≤ k → k < l + m → r1 k = r2 k ∧ R1 k s = R2 k s) → pw_from r1 R1 s m l = pw_from r2 R2 s m l
  | 0, _, _ => rfl
  | m + 1, l, h => by
    rw [pw_from, pw_from, (h l (Nat.le_refl _) (by omega)).1, (h l (Nat.le_refl _) (by omega)).2, pw_from_congr2 m (l + 1) (fun k h1 h2 => h k (by omega) (by omega))]
theorem pw_own_congr2 {nl : Nat} {r1 r2 : Nat → Int} {R1 R2 : Nat → Nat → List Nat} {s : Nat} (h : ∀ k, k < nl → r1 k = r2 k ∧ R1 k s = R2 k s) : pw_own nl r1 R1 s = pw_own nl r2 R2 s := pw_from_congr2 nl 0 (fun k _ h2 => h k (by omega))
theorem pw_way_congr {own own2 : Nat → List Nat} {num D : Nat → Int} {P : Nat → Prop} (e : ∀ x, P x → own x = own2 x) (hex : ∀ x, P x → 0 < D x → ∃ y ∈ own x, D y = D x - 1) (hP : ∀ x, P x → ∀ y ∈ own x, P y) : ∀ (n x : Nat), P x → D x = (n : Int) → pw_way own num D n x = pw_way own2 num D n x
  | 0, _, _, _ => rfl
  | n + 1, x, hx, hD => by
    have h1 := pw_next_is (num := num) (hex x hx (by omega))
    have h2 : pw_next own2 num D x = pw_next own num D x := by
      unfold pw_next
      rw [e x hx]
    rw [pw_way, pw_way, h2, pw_way_congr e hex hP n _ (hP x hx _ h1.2.1) (by omega)]
theorem hs_own_w {nl : Nat} {fo ru : Nat → Int} {g : Int} {U : Nat → Bool} {nu : Nat → Int} {w d : Nat → Nat → List Nat} (h : hs_I nl fo ru g U nu w d) {x y : Nat} (hy : y ∈ pw_own nl ru w x) : x < 100 ∧ y < 100 ∧ U x = true ∧ U y = true ∧ x ∈ pw_own nl ru d y := by
  obtain ⟨k, k1, k2, k3⟩ := pw_mem_own.mp hy
  obtain ⟨_, a, b, c, e⟩ := h.row k x y k3
  exact ⟨a, b, c, e, pw_mem_own.mpr ⟨k, k1, k2, (h.tw k x y).mp k3⟩⟩
theorem hs_own_d {nl : Nat} {fo ru : Nat → Int} {g : Int} {U : Nat → Bool} {nu : Nat → Int} {w d : Nat → Nat → List Nat} (h : hs_I nl fo ru g U nu w d) {x y : Nat} (hy : y ∈ pw_own nl ru d x) : x < 100 ∧ y < 100 ∧ U x = true ∧ U y = true ∧ x ∈ pw_own nl ru w y := by
  obtain ⟨k, k1, k2, k3⟩ := pw_mem_own.mp hy
  have hw := (h.tw k y x).mpr k3
  obtain ⟨_, a, b, c, e⟩ := h.row k y x hw
  exact ⟨b, a, e, c, pw_mem_own.mpr ⟨k, k1, k2, hw⟩⟩
/-- how far it is upward from p to k -/
def hs_D (nl : Nat) (ru : Nat → Int) (d : Nat → Nat → List Nat) (p : Nat) : Nat → Int := pw_D (pw_spread (pw_own nl ru d) p).1 (pw_spread (pw_own nl ru d) p).2
theorem hs_D_F {nl : Nat} {fo ru : Nat → Int} {g : Int} {U : Nat → Bool} {nu : Nat → Int} {w d : Nat → Nat → List Nat} (h : hs_I nl fo ru g U nu w d) {p : Nat} (hp : p < 100) : pw_F (pw_own nl ru d) p (pw_spread (pw_own nl ru d) p).1 (pw_spread (pw_own nl ru d) p).2 := pw_spread_F (fun x _ y hy => (hs_own_d h hy).2.1) hp
theorem hs_D_U {nl : Nat} {fo ru : Nat → Int} {g : Int} {U : Nat → Bool} {nu : Nat → Int} {w d : Nat → Nat → List Nat} (h : hs_I nl fo ru g U nu w d) {p : Nat} (hU : U p = true) : ∀ x ∈ (pw_spread (pw_own nl ru d) p).1, U x = true := pw_spread_all (P := fun x => U x = true) (fun x _ y hy => (hs_own_d h hy).2.2.2.1) hU
theorem hs_D_b {nl : Nat} {fo ru : Nat → Int} {g : Int} {U : Nat → Bool} {nu : Nat → Int} {w d : Nat → Nat → List Nat} (h : hs_I nl fo ru g U nu w d) {p : Nat} (hp : p < 100) (k : Nat) : -1 ≤ hs_D nl ru d p k ∧ hs_D nl ru d p k < 100 ∧ (k ∈ (pw_spread (pw_own nl ru d) p).1 ↔ 0 ≤ hs_D nl ru d p k) := by
  have F := hs_D_F h hp
  have hlen := ps_len 100 _ F.nd F.lt
  unfold hs_D pw_D
  by_cases q : k ∈ (pw_spread (pw_own nl ru d) p).1
  · have h1 := F.ge k q
    have h2 := F.le k q
    rw [if_pos q]
    exact ⟨by omega, by omega, fun _ => h1, fun _ => q⟩
  · rw [if_neg q]
    exact ⟨by omega, by omega, fun z => absurd z q, fun z => by omega⟩
theorem hs_D_ex {nl : Nat} {fo ru : Nat → Int} {g : Int} {U : Nat → Bool} {nu : Nat → Int} {w d : Nat → Nat → List Nat} (h : hs_I nl fo ru g U nu w d) {p : Nat} (hp : p < 100) {x : Nat} (hx : 0 < hs_D nl ru d p x) : ∃ y ∈ pw_own nl ru w x, hs_D nl ru d p y = hs_D nl ru d p x - 1 := by
  have F := hs_D_F h hp
  have hm := (hs_D_b h hp x).2.2.mpr (by omega)
  have e : ∀ k ∈ (pw_spread (pw_own nl ru d) p).1, hs_D nl ru d p k = (pw_spread (pw_own nl ru d) p).2 k := by
    intro k hk
    unfold hs_D pw_D
    rw [if_pos hk]
  rcases F.fr x hm with r | ⟨y, r1, r2, r3⟩
  · rw [e x hm, r, F.d0] at hx
    omega
  · exact ⟨y, (hs_own_d h r2).2.2.2.2, by rw [e x hm, e y r1]; omega⟩
theorem hc_findWay {nl : Nat} {fo fr ru to fo2 fr2 ru2 to2 : Nat → Int} (hT : ht_R nl fo fr ru to fo2 fr2 ru2 to2) {g : Int} {U : Nat → Bool} {nu ki : Nat → Int} {w d : Nat → Nat → List Nat} (h : hs_I nl fo ru g U nu w d) (hg : g ≤ 1000000) {ob pa : Int} {dl : Nat → Int} {dw : Nat → Int64} {hl : Nat → Int} {hw : Nat → Int64} {kk nn : Nat → Int} (hR : hc_R U nu ki w d ob pa dl dw hl hw kk nn) {x p : Nat} (hx : x < 100) (hp : p < 100) (hUp : U p = true) {R T : List Nat} {L : List Int} {rl spl tl : Int} {ri rs spi sps st tv : Nat → Int} (hS : ps_S R rl ri rs) (hT2 : ps_S T spl spi sps) (hL : pt_T 100 L tl tv) :
    ∃ (R' T' : List Nat) (tv' ri' rs' spi' sps' st' : Nat → Int) (tl' rl' spl' : Int), fX8_findWay rl ri rs spl spi sps st (nl : Int) ru ob pa dl dw hl hw nn tl tv (x : Int) (p : Int) = some (if 0 ≤ hs_D nl ru d p x then 1 else 0, tv', ri', rs', spi', sps', st', tl', rl', spl') ∧ ps_S R' rl' ri' rs' ∧ ps_S T' spl' spi' sps' ∧ pt_T 100 (if 0 ≤ hs_D nl ru d p x then nu x :: (pw_way (pw_own nl ru w) nu (hs_D nl ru d p) (hs_D nl ru d p x).toNat x).map nu else L) tl' tv' := by
  have hnn := hR.2.2.2.2.2
  have hUS := hs_D_U h hUp
  have F := hs_D_F h hp
  refine pw_findWay hR.2.2.2.1 hR.2.2.1 hT.1 (fun l hl => ?_) (hc_nR h hg hR) hx hp hS hT2 hL rfl (fun x _ y hy => (hs_own_d h hy).2.1) (fun x _ y hy => (hs_own_d h hy).2.2.2.2) (fun x hx => ?_) (fun x _ y hy => ?_) (fun x _ y hy z hz e => ?_)
  · have := hT.2 l hl
    exact ⟨by omega, by omega⟩
  · rw [hnn x (F.lt x hx), if_pos (hUS x hx)]
  · have := hs_own_w h hy
    rw [hnn y this.2.1, if_pos this.2.2.2.1]
  · have h1 := hs_own_w h hy
    have h2 := hs_own_w h hz
    exact h.inj y z h1.2.1 h2.2.1 h1.2.2.2.1 h2.2.2.2.1 e
theorem hq_measure {t o m pm km lv ra : Int} {nl : Nat} {fo fr ru to fo2 fr2 ru2 to2 : Nat → Int} (hT : ht_R nl fo fr ru to fo2 fr2 ru2 to2) {g : Int} {U : Nat → Bool} {nu ki : Nat → Int} {w d : Nat → Nat → List Nat} (h : hs_I nl fo ru g U nu w d) {ob : Int} {had hadMany has hasMany kind number used gone queue steps : Nat → Int} (hQ : hq_R U nu ki w d ob had hadMany has hasMany kind number used) (hg : ∀ k, k < 100 → tl_R (gone k)) {p : Nat} (hp : p < 100) (hUp : U p = true) : ∃ (queue' steps' : Nat → Int), fX10_measure t (nl : Int) o m pm km lv ra gone had hadMany queue ru2 steps (p : Int) 0 = some (queue', steps') ∧ ∀ k, k < 100 → steps' k = hs_D nl ru d p k := by
  obtain ⟨Rd, h1, h2⟩ := hQ.2.1
  have hr : ∀ l, l < nl → tl_R (ru2 l) := by
    intro l hl
    have := hT.2 l hl
    exact ⟨by omega, by omega⟩
  obtain ⟨many', queue', steps', h3, h4⟩ := qm_measure (t := t) (o := o) (m := m) (pm := pm) (km := km) (lv := lv) (ra := ra) (queue := queue) (steps := steps) (p2 := 0) rfl h1 hT.1 hr (by decide) hg hp
  have e : pw_spread (qm_own nl ru2 Rd 0 gone) p = pw_spread (pw_own nl ru d) p := by
    rw [qm_own0]
    refine (pw_spread_congr (P := fun x => x < 100 ∧ U x = true) (fun x _ y hy => ?_) (fun x hx => ?_) ⟨hp, hUp⟩).symm
    · have := hs_own_d h hy
      exact ⟨this.2.1, this.2.2.2.1⟩
    · refine pw_own_congr2 (fun k hk => ⟨?_, ?_⟩)
      · exact (hT.2 k hk).2.2.1.symm
      · have := hT.1
        exact (h2 k x (by omega) hx.1 hx.2).symm
  rw [e] at h4
  exact ⟨queue', steps', h3, fun k hk => h4.2.2.2.2.1 k hk⟩
theorem hq_walk {t o m pm km lv ra : Int} {nl : Nat} {fo fr ru to fo2 fr2 ru2 to2 : Nat → Int} (hT : ht_R nl fo fr ru to fo2 fr2 ru2 to2) {g : Int} {U : Nat → Bool} {nu ki : Nat → Int} {w d : Nat → Nat → List Nat} (h : hs_I nl fo ru g U nu w d) {ob : Int} {had hadMany has hasMany kind number used steps pv : Nat → Int} (hQ : hq_R U nu ki w d ob had hadMany has hasMany kind number used) {p x : Nat} (hp : p < 100) (hUp : U p = true) (hst : ∀ k, k < 100 → steps k = hs_D nl ru d p k) (hx : 0 ≤ hs_D nl ru d p x) : ∃ (len' : Int) (v' : Nat → Int), fX10_walk t (nl : Int) o m pm km lv ra has hasMany number pv ru2 steps (x : Int) = some (v', len') ∧ pt_T 101 (nu x :: (pw_way (pw_own nl ru w) nu (hs_D nl ru d p) (hs_D nl ru d p x).toNat x).map nu) len' v' := by
  obtain ⟨Rw, h1, h2⟩ := hQ.2.2.1
  have F := hs_D_F h hp
  have hUS := hs_D_U h hUp
  have hr : ∀ l, l < nl → tl_R (ru2 l) := by
    intro l hl
    have := hT.2 l hl
    exact ⟨by omega, by omega⟩
  have e : ∀ y, (y < 100 ∧ U y = true) → pw_own nl ru w y = pw_own nl ru2 Rw y := by
    intro y hy
    refine pw_own_congr2 (fun k hk => ⟨?_, ?_⟩)
    · exact (hT.2 k hk).2.2.1.symm
    · have := hT.1
      exact (h2 k y (by omega) hy.1 hy.2).symm
  have hS : ∀ y ∈ (pw_spread (pw_own nl ru d) p).1, y < 100 ∧ U y = true := fun y hy => ⟨F.lt y hy, hUS y hy⟩
  have hxS := (hs_D_b h hp x).2.2.mpr hx
  have hb : ∀ y, y < 100 → ∀ z ∈ pw_own nl ru2 Rw y, z < 100 := by
    intro y hy z hz
    obtain ⟨k, k1, k2, k3⟩ := pw_mem_own.mp hz
    have := hT.1
    exact (h1 k y (by omega) hy).2.2.2 z k3
  obtain ⟨len', v', h3, h4⟩ := qw_walk (t := t) (o := o) (m := m) (pm := pm) (km := km) (lv := lv) (ra := ra) (pv := pv) (nu := nu) (S := (pw_spread (pw_own nl ru d) p).1) h1 hT.1 hr (fun k hk => (hQ.2.2.2.2.1 k hk).1) hst (fun k _ => ⟨(hs_D_b h hp k).1, (hs_D_b h hp k).2.1⟩) (fun k _ => (hs_D_b h hp k).2.2) F.lt hb (fun y hy => (hQ.2.2.2.2.1 y (F.lt y hy)).2 (hUS y hy)) (fun y hy z hz => by
      rw [← e y (hS y hy)] at hz
      have := hs_own_w h hz
      exact (hQ.2.2.2.2.1 z this.2.1).2 this.2.2.2.1) (fun y hy z hz v hv q => by
      rw [← e y (hS y hy)] at hz hv
      have g1 := hs_own_w h hz
      have g2 := hs_own_w h hv
      exact h.inj z v g1.2.1 g2.2.1 g1.2.2.2.1 g2.2.2.2.1 q) (fun y hy hD => by
      rw [← e y (hS y hy)]
      exact hs_D_ex h hp hD) hxS
  refine ⟨len', v', h3, ?_⟩
  rw [pw_way_congr (own := pw_own nl ru w) (own2 := pw_own nl ru2 Rw) (P := fun y => y < 100 ∧ U y = true) e (fun y _ hD => hs_D_ex h hp hD) (fun y _ z hz => ⟨(hs_own_w h hz).2.1, (hs_own_w h hz).2.2.2.1⟩) _ x (hS x hxS) (by omega)]
  exact h4
