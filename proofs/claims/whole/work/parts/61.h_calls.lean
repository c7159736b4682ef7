/-! calls: what both sides ask first -/
def lm_A (f : Nat → Int) (c : Nat ⊕ Int) (b t : Int) : Prop := (∃ k : Nat, c = .inl k ∧ t = f k ∧ 0 < f k) ∨ ∃ r : Int, c = .inr r ∧ t = 0 ∧ r = b
theorem lm_A.thr {f : Nat → Int} {k : Nat} {b t : Int} (h : t = f k) (h2 : 0 < f k) : lm_A f (.inl k) b t := Or.inl ⟨k, rfl, h, h2⟩
theorem lm_A.ret {f : Nat → Int} {r b t : Int} (h : t = 0) (h2 : r = b) : lm_A f (.inr r) b t := Or.inr ⟨r, rfl, h, h2⟩
def ht_R (nl : Nat) (fo fr ru to fo2 fr2 ru2 to2 : Nat → Int) : Prop := nl ≤ 10 ∧ ∀ l, l < nl → fo2 l = fo l ∧ fr2 l = fr l ∧ ru2 l = ru l ∧ to2 l = to l ∧ (0 ≤ fo l ∧ fo l ≤ 2) ∧ (0 ≤ fr l ∧ fr l ≤ 9) ∧ (0 ≤ ru l ∧ ru l ≤ 2) ∧ (0 ≤ to l ∧ to l ≤ 9)
theorem cn_below {v b : Int} (hv : tl_R v) (hb : tl_R b) : fX9_needBelow v b = some (if 0 ≤ v ∧ v < b then .inr () else .inl 0) := by
  unfold fX9_needBelow
  rw [tl_gt hv]
  by_cases h : v < 0
  · rw [if_pos h, if_neg (fun z => by omega)]
  · rw [if_neg h, tl_gt ⟨hv, hb⟩]
    by_cases h2 : v < b
    · rw [if_pos h2, if_pos ⟨by omega, h2⟩]
    · rw [if_neg h2, if_neg (fun z => h2 z.2)]
theorem cn_knows {nl : Nat} {p : Int} (hn : nl ≤ 10) (hp : tl_R p) : fX5_knows (nl : Int) p = some (if 0 ≤ p ∧ p < (nl : Int) then 1 else 0) := by
  unfold fX5_knows
  rw [tl_gt hp]
  by_cases h : p < 0
  · rw [if_pos h, if_neg (fun z => by omega)]
  · rw [if_neg h, tl_gt ⟨hp, ⟨by omega, by omega⟩⟩]
    by_cases h2 : p < (nl : Int)
    · rw [if_pos h2, if_pos ⟨by omega, h2⟩]
    · rw [if_neg h2, if_neg (fun z => h2 z.2)]
theorem cn_link {g lv : Int} {nl : Nat} {p : Int} (hn : nl ≤ 10) (hp : tl_R p) : fX9_needLink g lv (nl : Int) p = some (if 0 ≤ p ∧ p < (nl : Int) then .inr () else .inl 0) := by
  unfold fX9_needLink
  rw [cn_knows hn hp, pr_b]
  by_cases h : 0 ≤ p ∧ p < (nl : Int)
  · rw [if_pos h, if_pos h, tl_gt (by decide), if_neg (by decide)]
  · rw [if_neg h, if_neg h, tl_gt (by decide), if_pos rfl]
theorem qn_link {t o m pm km lv ra : Int} {nl : Nat} {p : Int} (hn : nl ≤ 10) (hp : tl_R p) : fX10_isLink t (nl : Int) o m pm km lv ra p = some (if 0 ≤ p ∧ p < (nl : Int) then 1 else 0) := cn_knows hn hp
theorem hc_nR {nl : Nat} {fo ru : Nat → Int} {g : Int} {U : Nat → Bool} {nu ki : Nat → Int} {w d : Nat → Nat → List Nat} (h : hs_I nl fo ru g U nu w d) (hg : g ≤ 1000000) {ob pa : Int} {dl : Nat → Int} {dw : Nat → Int64} {hl : Nat → Int} {hw : Nat → Int64} {kk nn : Nat → Int} (hR : hc_R U nu ki w d ob pa dl dw hl hw kk nn) : ∀ k, k < 100 → tl_R (nn k) := by
  intro k hk
  rw [hR.2.2.2.2.2 k hk]
  by_cases q : U k = true
  · have := h.num k hk q
    rw [if_pos q]
    exact ⟨by omega, by omega⟩
  · rw [if_neg q]
    decide
theorem hs_find (U : Nat → Bool) (nu : Nat → Int) (x : Int) : (∃ s, s < 100 ∧ U s = true ∧ nu s = x) ∨ ∀ s, s < 100 → U s = true → nu s ≠ x := by
  by_cases h : ∃ s, s < 100 ∧ U s = true ∧ nu s = x
  · exact Or.inl h
  · exact Or.inr (fun s h1 h2 h3 => h ⟨s, h1, h2, h3⟩)
theorem cn_slot {nl : Nat} {fo ru : Nat → Int} {g : Int} {U : Nat → Bool} {nu ki : Nat → Int} {w d : Nat → Nat → List Nat} (h : hs_I nl fo ru g U nu w d) (hg : g ≤ 1000000) {ob pa g2 lv : Int} {dl : Nat → Int} {dw : Nat → Int64} {hl : Nat → Int} {hw : Nat → Int64} {kk nn : Nat → Int} (hR : hc_R U nu ki w d ob pa dl dw hl hw kk nn) {x : Int} (hx : tl_R x) {s : Nat} (hs : s < 100) (hU : U s = true) (he : nu s = x) : fX9_slotThere g2 lv ob pa nn x = some (.inr (s : Int)) := by
  obtain ⟨r, hr, ha⟩ := ph_slotOf (o := ob) (p := pa) (hc_nR h hg hR) hx
  have hnn := hR.2.2.2.2.2
  unfold fX9_slotThere
  rw [hr, pr_b]
  rcases ha with ⟨k, hk, ⟨hk0, hk1⟩, _, rfl⟩ | ⟨hno, _⟩
  · rw [hnn k hk] at hk1
    have hUk : U k = true := by
      by_cases q : U k = true
      · exact q
      · rw [if_neg q] at hk1
        omega
    rw [if_pos hUk] at hk1
    have := h.inj s k hs hk hU hUk (by omega)
    subst this
    rw [tl_gt ⟨⟨by omega, by omega⟩, by decide⟩, if_neg (by omega)]
  · have h1 := h.num s hs hU
    exact absurd ⟨by omega, by rw [hnn s hs, if_pos hU]; exact he⟩ (hno s hs)
theorem cn_noslot {nl : Nat} {fo ru : Nat → Int} {g : Int} {U : Nat → Bool} {nu ki : Nat → Int} {w d : Nat → Nat → List Nat} (h : hs_I nl fo ru g U nu w d) (hg : g ≤ 1000000) {ob pa g2 lv : Int} {dl : Nat → Int} {dw : Nat → Int64} {hl : Nat → Int} {hw : Nat → Int64} {kk nn : Nat → Int} (hR : hc_R U nu ki w d ob pa dl dw hl hw kk nn) {x : Int} (hx : tl_R x) (hno : ∀ s, s < 100 → U s = true → nu s ≠ x) : fX9_slotThere g2 lv ob pa nn x = some (.inl 1) := by
  obtain ⟨r, hr, ha⟩ := ph_slotOf (o := ob) (p := pa) (hc_nR h hg hR) hx
  have hnn := hR.2.2.2.2.2
  unfold fX9_slotThere
  rw [hr, pr_b]
  rcases ha with ⟨k, hk, ⟨hk0, hk1⟩, _, rfl⟩ | ⟨_, rfl⟩
  · rw [hnn k hk] at hk1
    by_cases q : U k = true
    · rw [if_pos q] at hk1
      exact absurd hk1 (hno k hk q)
    · rw [if_neg q] at hk1
      omega
  · rw [tl_gt (by decide), if_pos rfl]
theorem hq_uR {U : Nat → Bool} {used : Nat → Int} (h : ∀ k, k < 100 → used k = if U k = true then 1 else 0) : ∀ k, k < 100 → tl_R (used k) := by
  intro k hk
  rw [h k hk]
  by_cases q : U k = true
  · rw [if_pos q]
    decide
  · rw [if_neg q]
    decide
theorem hq_us {U : Nat → Bool} {used : Nat → Int} (h : ∀ k, k < 100 → used k = if U k = true then 1 else 0) {k : Nat} (hk : k < 100) : used k ≠ 0 ↔ U k = true := by
  rw [h k hk]
  by_cases q : U k = true
  · rw [if_pos q]
    exact ⟨fun _ => q, fun _ => by decide⟩
  · rw [if_neg q]
    exact ⟨fun z => absurd rfl z, fun z => absurd z q⟩
theorem qn_place {t lk o m pm km lv ra : Int} {nl : Nat} {fo ru : Nat → Int} {g : Int} {U : Nat → Bool} {nu ki : Nat → Int} {w d : Nat → Nat → List Nat} (h : hs_I nl fo ru g U nu w d) {ob : Int} {had hadMany has hasMany kind number used : Nat → Int} (hR : hq_R U nu ki w d ob had hadMany has hasMany kind number used) {x : Int} (hx : tl_R x) {s : Nat} (hs : s < 100) (hU : U s = true) (he : nu s = x) : fX10_placeOf t lk o m pm km lv ra number used x = some (s : Int) := by
  obtain ⟨_, _, _, _, h5, h6⟩ := hR
  obtain ⟨r, hr, ha⟩ := qh_place (t := t) (l := lk) (o := o) (m := m) (pm := pm) (km := km) (lv := lv) (ra := ra) (fun k hk => (h5 k hk).1) (hq_uR h6) hx
  rw [hr]
  rcases ha with ⟨k, hk, ⟨hk0, hk1⟩, _, rfl⟩ | ⟨hno, _⟩
  · have hUk := (hq_us h6 hk).mp hk0
    rw [(h5 k hk).2 hUk] at hk1
    rw [h.inj s k hs hk hU hUk (by omega)]
  · exact absurd ⟨(hq_us h6 hs).mpr hU, by rw [(h5 s hs).2 hU]; exact he⟩ (hno s hs)
theorem qn_noplace {t lk o m pm km lv ra : Int} {U : Nat → Bool} {nu ki : Nat → Int} {w d : Nat → Nat → List Nat} {ob : Int} {had hadMany has hasMany kind number used : Nat → Int} (hR : hq_R U nu ki w d ob had hadMany has hasMany kind number used) {x : Int} (hx : tl_R x) (hno : ∀ s, s < 100 → U s = true → nu s ≠ x) : fX10_placeOf t lk o m pm km lv ra number used x = some (-1) := by
  obtain ⟨_, _, _, _, h5, h6⟩ := hR
  obtain ⟨r, hr, ha⟩ := qh_place (t := t) (l := lk) (o := o) (m := m) (pm := pm) (km := km) (lv := lv) (ra := ra) (fun k hk => (h5 k hk).1) (hq_uR h6) hx
  rw [hr]
  rcases ha with ⟨k, hk, ⟨hk0, hk1⟩, _, rfl⟩ | ⟨_, rfl⟩
  · have hUk := (hq_us h6 hk).mp hk0
    rw [(h5 k hk).2 hUk] at hk1
    exact absurd hk1 (hno k hk hUk)
  · rfl
theorem cn_kind {U : Nat → Bool} {nu ki : Nat → Int} {w d : Nat → Nat → List Nat} {ob pa g2 lv : Int} {dl : Nat → Int} {dw : Nat → Int64} {hl : Nat → Int} {hw : Nat → Int64} {kk nn : Nat → Int} (hR : hc_R U nu ki w d ob pa dl dw hl hw kk nn) {c : Int} (hc : tl_R c) {s : Nat} (hs : s < 100) (hU : U s = true) : fX9_needKind g2 lv ob pa kk (s : Int) c = some (if ki s = c then .inr () else .inl 2) := by
  have h5 := hR.2.2.2.2.1 s hs
  have h6 := h5.1
  rw [h5.2 hU] at h6
  unfold fX9_needKind
  rw [ph_kindOf hs, pr_b, h5.2 hU, tl_gt ⟨h6, hc⟩]
  by_cases q : ki s = c
  · rw [if_pos q, if_pos q]
  · rw [if_neg q, if_neg q]
