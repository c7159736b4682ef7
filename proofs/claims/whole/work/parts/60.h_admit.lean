/-! one more is there: both sides take the lowest slot that is free -/
theorem hs_n_all {U : Nat → Bool} (h : ∀ k, k < 100 → U k = true) : hs_n U = 100 := by
  unfold hs_n
  rw [hs_sum_eq (g := fun _ => 1) 100 (fun k hk => by rw [if_pos (h k hk)])]
  rfl
theorem hs_n_up {U : Nat → Bool} {p : Nat} (hp : p < 100) (h : U p = false) : hs_n (va_up U p true) = hs_n U + 1 := by
  have h1 := hs_sum_one (f := fun k => if va_up U p true k = true then 1 else 0) (g := fun k => if U k = true then 1 else 0) (i := p) 100 hp (fun k _ hk => by
    show (if va_up U p true k = true then 1 else 0) = _
    rw [va_up_ne _ _ hk])
  simp only [va_up_self, h, if_true] at h1
  unfold hs_n
  simpa using h1
theorem hc_adm {nl : Nat} {fo ru : Nat → Int} {g : Int} {U : Nat → Bool} {nu ki : Nat → Int} {w d : Nat → Nat → List Nat} (h : hs_I nl fo ru g U nu w d) (hg : g ≤ 1000000) (hn : hs_n U < 100) {ob pa : Int} {dl : Nat → Int} {dw : Nat → Int64} {hl : Nat → Int} {hw : Nat → Int64} {kk nn : Nat → Int} (hR : hc_R U nu ki w d ob pa dl dw hl hw kk nn) {c : Int} (hc : tl_R c) :
    ∃ (p : Nat), p < 100 ∧ U p = false ∧ (∀ j, j < p → U j = true) ∧ fX1_admit ob pa kk nn g c = some ((p : Int), va_up kk p c, va_up nn p g, ob + 1) ∧ hc_R (va_up U p true) (va_up nu p g) (va_up ki p c) w d (ob + 1) pa dl dw hl hw (va_up kk p c) (va_up nn p g) := by
  obtain ⟨h1, h2, h3, h4, h5, h6⟩ := hR
  have hnn : ∀ k, k < 100 → (nn k = -1 ↔ U k = false) := by
    intro k hk
    rw [h6 k hk]
    by_cases q : U k = true
    · have := h.num k hk q
      rw [if_pos q, q]
      exact ⟨fun z => by omega, fun z => by cases z⟩
    · rw [if_neg q]
      exact ⟨fun _ => by simpa using q, fun _ => rfl⟩
  have hnR : ∀ k, k < 100 → tl_R (nn k) := by
    intro k hk
    rw [h6 k hk]
    by_cases q : U k = true
    · have := h.num k hk q
      rw [if_pos q]
      exact ⟨by omega, by omega⟩
    · rw [if_neg q]
      decide
  obtain ⟨r, hr, ha⟩ := ph_bearing (o := ob) (p := pa) (x := -1) hnR (by decide)
  rcases ha with ⟨p, hp, hp1, hp2, rfl⟩ | ⟨hno, _⟩
  · have hUp := (hnn p hp).mp hp1
    refine ⟨p, hp, hUp, fun j hj => ?_, ?_, by rw [h1, hs_n_up hp hUp]; omega, h2, h3, h4, fun k hk => ?_, fun k hk => ?_⟩
    · have : ¬ nn j = -1 := hp2 j hj
      rw [hnn j (by omega)] at this
      simpa using this
    · unfold fX1_admit
      rw [hr, pr_b, tl_gt ⟨⟨by omega, by omega⟩, by decide⟩, if_neg (by omega), tl_gt ⟨by omega, by omega⟩, tl_gt ⟨by omega, by omega⟩, Int.toNat_natCast]
    · by_cases q : k = p
      · subst q
        rw [va_up_self, va_up_self, va_up_self]
        exact ⟨hc, fun _ => rfl⟩
      · rw [va_up_ne _ _ q, va_up_ne _ _ q, va_up_ne _ _ q]
        exact h5 k hk
    · by_cases q : k = p
      · subst q
        rw [va_up_self, va_up_self, va_up_self, if_pos rfl]
      · rw [va_up_ne _ _ q, va_up_ne _ _ q, va_up_ne _ _ q]
        exact h6 k hk
  · have hall := hs_n_all (U := U) (fun k hk => by
      have : ¬ nn k = -1 := hno k hk
      rw [hnn k hk] at this
      simpa using this)
    omega
theorem qh_fresh_L {p : Nat} (hp : p < 100) : ∀ (n i : Nat) (a b : Nat → Int), i ≤ 10 → 11 ≤ i + n → ∃ (a' b' : Nat → Int), fX10_fresh_L2 (p : Int) n (i : Int) a b = some (a', b') ∧ ∀ l s, l < 10 → s < 100 → a' (l * 100 + s) = (if s = p ∧ i ≤ l then 0 else a (l * 100 + s)) ∧ b' (l * 100 + s) = (if s = p ∧ i ≤ l then 0 else b (l * 100 + s)) := by
  intro n
  induction n with
  | zero => intro i a b h1 h2; omega
  | succ n ih =>
    intro i a b hi hn
    rw [fX10_fresh_L2, tl_gt ⟨⟨by omega, by omega⟩, by decide⟩]
    by_cases q : i < 10
    · rw [if_pos (by omega), tl_gt ⟨by omega, by omega⟩, tl_gt ⟨by omega, by omega⟩, show ((i : Int) * 100 + (p : Int)).toNat = i * 100 + p by omega, show (i : Int) + 1 = ((i + 1 : Nat) : Int) by omega]
      obtain ⟨a', b', h1, h2⟩ := ih (i + 1) (va_up a (i * 100 + p) 0) (va_up b (i * 100 + p) 0) q (by omega)
      refine ⟨a', b', h1, fun l s hl hs => ?_⟩
      obtain ⟨h3, h4⟩ := h2 l s hl hs
      rw [h3, h4]
      by_cases r : s = p ∧ i + 1 ≤ l
      · rw [if_pos r, if_pos r, if_pos ⟨r.1, by omega⟩, if_pos ⟨r.1, by omega⟩]
        exact ⟨rfl, rfl⟩
      · rw [if_neg r, if_neg r]
        by_cases v : s = p ∧ i ≤ l
        · have : l = i := by
            obtain ⟨v1, v2⟩ := v
            by_cases z : i + 1 ≤ l
            · exact absurd ⟨v1, z⟩ r
            · omega
          subst this
          rw [if_pos v, if_pos v, v.1, va_up_self, va_up_self]
          exact ⟨rfl, rfl⟩
        · have hne : l * 100 + s ≠ i * 100 + p := fun z => v ⟨(pr_row_inj hp hs z).2, by have := (pr_row_inj hp hs z).1; omega⟩
          rw [if_neg v, if_neg v, va_up_ne _ _ hne, va_up_ne _ _ hne]
          exact ⟨rfl, rfl⟩
    · rw [if_neg (by omega)]
      refine ⟨a, b, rfl, fun l s hl hs => ?_⟩
      rw [if_neg (fun z => by omega), if_neg (fun z => by omega)]
      exact ⟨rfl, rfl⟩
theorem qu_fresh {U : Nat → Bool} {w : Nat → Nat → List Nat} {many many2 row : Nat → Int} (h : qu_R U w many row) {p : Nat} (hp : p < 100) (hw : ∀ l, w l p = []) (e : ∀ l s, l < 10 → s < 100 → many2 (l * 100 + s) = if s = p ∧ 0 ≤ l then 0 else many (l * 100 + s)) : qu_R (va_up U p true) w many2 row := by
  obtain ⟨Rw, h1, h2⟩ := h
  refine ⟨fun l s => if s = p then [] else Rw l s, fun l s hl hs => ?_, fun l s hl hs hU => ?_⟩
  · rw [e l s hl hs]
    by_cases q : s = p
    · rw [if_pos ⟨q, Nat.zero_le _⟩]
      simp [q]
    · rw [if_neg (fun z => q z.1)]
      simp only [if_neg q]
      exact h1 l s hl hs
  · show (if s = p then [] else Rw l s) = w l s
    by_cases q : s = p
    · rw [if_pos q, q, hw l]
    · rw [if_neg q]
      rw [va_up_ne _ _ q] at hU
      exact h2 l s hl hs hU
theorem hq_fresh {t lk pm km lv ra : Int} {nl : Nat} {fo ru : Nat → Int} {g : Int} {U : Nat → Bool} {nu ki : Nat → Int} {w d : Nat → Nat → List Nat} (h : hs_I nl fo ru g U nu w d) (hg0 : 0 ≤ g) (hg : g ≤ 1000000) {ob : Int} {had hadMany has hasMany kind number used : Nat → Int} (hR : hq_R U nu ki w d ob had hadMany has hasMany kind number used) {c : Int} (hc : tl_R c) {p : Nat} (hp : p < 100) (hU : U p = false) (hm : ∀ j, j < p → U j = true) :
    ∃ (hadMany' hasMany' : Nat → Int), fX10_fresh t lk ob g pm km lv ra hadMany hasMany kind number used c = some ((p : Int), hadMany', hasMany', va_up kind p c, va_up number p g, va_up used p 1, g + 1, ob + 1) ∧ hq_R (va_up U p true) (va_up nu p g) (va_up ki p c) w d (ob + 1) had hadMany' has hasMany' (va_up kind p c) (va_up number p g) (va_up used p 1) := by
  obtain ⟨h1, h2, h3, h4, h5, h6⟩ := hR
  have hu : ∀ k, k < 100 → tl_R (used k) := by
    intro k hk
    rw [h6 k hk]
    by_cases q : U k = true
    · rw [if_pos q]
      decide
    · rw [if_neg q]
      decide
  have e1 := qh_free_L hu hp (by rw [h6 p hp, hU]; rfl) (fun j hj => by rw [h6 j (by omega), if_pos (hm j hj)]; decide) tl_N 0 (Nat.zero_le _) (by unfold tl_N; omega)
  obtain ⟨a', b', e2, e3⟩ := qh_fresh_L hp tl_N 0 hadMany hasMany (by omega) (by unfold tl_N; omega)
  rw [show ((0 : Nat) : Int) = (0 : Int) from rfl] at e1 e2
  refine ⟨a', b', ?_, by rw [h1, hs_n_up hp hU]; omega, qu_fresh h2 hp (fun l => (h.none hU l).2) (fun l s hl hs => (e3 l s hl hs).1), qu_fresh h3 hp (fun l => (h.none hU l).1) (fun l s hl hs => (e3 l s hl hs).2), fun k hk => ?_, fun k hk => ?_, fun k hk => ?_⟩
  · unfold fX10_fresh
    rw [e1, pr_b, tl_gt ⟨⟨by omega, by omega⟩, Or.inr rfl⟩, tl_gt ⟨by omega, by omega⟩, tl_gt ⟨by omega, by omega⟩, e2, pr_b]
    dsimp only
    rw [Int.toNat_natCast]
  · by_cases q : k = p
    · subst q
      rw [va_up_self, va_up_self, va_up_self]
      exact ⟨hc, fun _ => rfl⟩
    · rw [va_up_ne _ _ q, va_up_ne _ _ q, va_up_ne _ _ q]
      exact h4 k hk
  · by_cases q : k = p
    · subst q
      rw [va_up_self, va_up_self, va_up_self]
      exact ⟨⟨by omega, by omega⟩, fun _ => rfl⟩
    · rw [va_up_ne _ _ q, va_up_ne _ _ q, va_up_ne _ _ q]
      exact h5 k hk
  · by_cases q : k = p
    · subst q
      rw [va_up_self, va_up_self, if_pos rfl]
    · rw [va_up_ne _ _ q, va_up_ne _ _ q]
      exact h6 k hk
