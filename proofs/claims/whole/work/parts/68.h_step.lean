/-! a row gives up its first -/
theorem pr_remove_nil {Rw : Nat → Nat → List Nat} {len : Nat → Int} {w : Nat → Int64} (h : pr_R Rw len w) {l s : Nat} (o : Int) (hl : l < 10) (hs : s < 100) (he : Rw l s = []) : fX3_remove len w (l : Int) (s : Int) o = some (0, va_up len (l * 100 + s) 0, w) ∧ pr_R Rw (va_up len (l * 100 + s) 0) w := by
  obtain ⟨h1, h2, h3, h4⟩ := h l s hl hs
  rw [he] at h1
  obtain ⟨n, hn⟩ : ∃ n, tl_N = n + 1 := ⟨999999, by unfold tl_N; omega⟩
  constructor
  · unfold fX3_remove
    rw [pr_isRow hl hs, pr_b, tl_gt (by decide), if_neg (by decide), pr_rowOf, pr_b, tl_gt ⟨by omega, by omega⟩, hn, fX3_remove_L1, Int.toNat_natCast, h1, tl_gt (by decide), if_neg (by decide), pr_b]
    dsimp only
    rw [tl_gt ⟨by omega, by omega⟩, tl_gt (by decide), if_neg (by decide)]
  · have h5 := pr_put (w2 := w) h hl hs (xs := []) (by simp) (fun x hx => by cases hx) (fun i hi => by simp at hi) (fun _ _ _ _ => rfl)
    rw [← he, pr_set_self] at h5
    rw [he] at h5
    exact h5
theorem hs_cut_other {w : Nat → Nat → List Nat} {l x y l2 s : Nat} (h : s ≠ x) : hs_cut w l x y l2 s = w l2 s := by
  unfold hs_cut
  rw [pr_set_ne _ _ (fun z => h z.2)]
theorem hs_cut_at {w : Nat → Nat → List Nat} {l x y : Nat} : hs_cut w l x y l x = pr_wo y (w l x) := by
  unfold hs_cut
  rw [pr_set_at]
theorem hx_step1 {t lk o m pm km lv ra ob pa : Int} {nl : Nat} {fo ru : Nat → Int} {g : Int} {U : Nat → Bool} {nu : Nat → Int} {w d : Nat → Nat → List Nat} (h : hs_I nl fo ru g U nu w d) {dl : Nat → Int} {dw : Nat → Int64} {hl : Nat → Int} {hw : Nat → Int64} (hd : pr_R d dl dw) (hh : pr_R w hl hw) (hp : pa = (hs_p w : Int)) {had hadMany has hasMany : Nat → Int} (qd : qu_R U d hadMany had) (qh : qu_R U w hasMany has) {l x : Nat} (hl10 : l < 10) (hx : x < 100) (hU : U x = true) :
    ∃ (w1 d1 : Nat → Nat → List Nat) (r0 z pa1 : Int) (dl1 : Nat → Int) (dw1 : Nat → Int64) (hl1 : Nat → Int) (hw1 : Nat → Int64) (had1 hadMany1 has1 hasMany1 : Nat → Int),
      fX3_get hl hw (l : Int) (x : Int) 0 = some r0 ∧ fX1_separate ob pa dl dw hl hw (l : Int) (x : Int) r0 = some (z, dl1, dw1, hl1, hw1, pa1) ∧ pr_R d1 dl1 dw1 ∧ pr_R w1 hl1 hw1 ∧ pa1 = (hs_p w1 : Int) ∧ hs_I nl fo ru g U nu w1 d1 ∧
      (if 0 < hasMany (l * 100 + x) then tl_gd (tl_in (((l : Int) * 100 + (x : Int)) * 12) 12000) ((fX10_part t lk o m pm km lv ra had hadMany has hasMany (l : Int) (x : Int) (has ((l * 100 + x) * 12))).bind fun z21 => some (z21.1, z21.2.1, z21.2.2.1, z21.2.2.2)) else some (had, hadMany, has, hasMany)) = some (had1, hadMany1, has1, hasMany1) ∧ qu_R U d1 hadMany1 had1 ∧ qu_R U w1 hasMany1 has1 ∧
      (∀ l2 s z, z ∈ w1 l2 s → z ∈ w l2 s) ∧ (w1 l x).length ≤ (w l x).length - 1 := by
  have hm := qu_many qh hl10 hx hU
  cases e : w l x with
  | nil =>
    have h1 := pr_remove_nil hh (-1) hl10 hx e
    refine ⟨w, d, -1, 0, pa, dl, dw, _, hw, had, hadMany, has, hasMany, pr_get_out hh hl10 hx (by decide) (by rw [e]; decide), ?_, hd, h1.2, hp, h, ?_, qd, qh, fun _ _ _ q => q, by rw [e]; exact Nat.le_refl _⟩
    · unfold fX1_separate
      rw [h1.1, pr_b]
      dsimp only
      rw [tl_gt (by decide), if_pos rfl]
    · rw [hm.1, e, if_neg (by decide)]
  | cons y0 ys =>
    have hlt : 0 < (w l x).length := by rw [e]; simp
    have h0 : (w l x)[0] = y0 := by simp [e]
    have hmem : y0 ∈ w l x := by rw [e]; exact List.mem_cons_self
    obtain ⟨_, _, hy0, _, hUy⟩ := h.row l x y0 hmem
    obtain ⟨dl1, dw1, hl1, hw1, pa1, e1, e2, e3, e4⟩ := hc_sep (ob := ob) (x := x) (y := y0) hd hh hl10 hx hy0 (h.nd l x).1 (h.tw l x y0) hp
    obtain ⟨had1, hadMany1, has1, hasMany1, f1, f2, f3⟩ := hq_part (t := t) (lk := lk) (o := o) (m := m) (pm := pm) (km := km) (lv := lv) (ra := ra) qd qh hl10 hx hy0 hU hUy (h.nd l x).1 (h.nd l y0).2 hmem ((h.tw l x y0).mp hmem)
    have g0 := pr_get hh hl10 hx hlt
    have g1 := hm.2.2.1 0 hlt
    rw [Nat.add_zero, h0] at g1
    rw [h0] at g0
    refine ⟨_, _, _, _, pa1, dl1, dw1, hl1, hw1, had1, hadMany1, has1, hasMany1, g0, e1, e2, e3, e4, h.cut l x y0, ?_, f2, f3, fun l2 s z q => (hs_mem_cut.mp q).1, ?_⟩
    · rw [hm.1, if_pos (by omega), tl_gt ⟨by omega, by omega⟩, g1, f1, pr_b]
    · rw [hs_cut_at]
      have := pr_wo_len (h.nd l x).1 hmem
      rw [← e]
      omega
theorem hx_step2 {t lk o m pm km lv ra ob pa : Int} {nl : Nat} {fo ru : Nat → Int} {g : Int} {U : Nat → Bool} {nu : Nat → Int} {w d : Nat → Nat → List Nat} (h : hs_I nl fo ru g U nu w d) {dl : Nat → Int} {dw : Nat → Int64} {hl : Nat → Int} {hw : Nat → Int64} (hd : pr_R d dl dw) (hh : pr_R w hl hw) (hp : pa = (hs_p w : Int)) {had hadMany has hasMany : Nat → Int} (qd : qu_R U d hadMany had) (qh : qu_R U w hasMany has) {l x y : Nat} (hl10 : l < 10) (hy : y < 100) (hU : U y = true) (hm : y ∉ w l x) :
    ∃ (w1 d1 : Nat → Nat → List Nat) (r0 z pa1 : Int) (dl1 : Nat → Int) (dw1 : Nat → Int64) (hl1 : Nat → Int) (hw1 : Nat → Int64) (had1 hadMany1 has1 hasMany1 : Nat → Int),
      fX3_get dl dw (l : Int) (y : Int) 0 = some r0 ∧ fX1_separate ob pa dl dw hl hw (l : Int) r0 (y : Int) = some (z, dl1, dw1, hl1, hw1, pa1) ∧ pr_R d1 dl1 dw1 ∧ pr_R w1 hl1 hw1 ∧ pa1 = (hs_p w1 : Int) ∧ hs_I nl fo ru g U nu w1 d1 ∧
      (if 0 < hadMany (l * 100 + y) then tl_gd (tl_in (((l : Int) * 100 + (y : Int)) * 12) 12000) ((fX10_part t lk o m pm km lv ra had hadMany has hasMany (l : Int) (had ((l * 100 + y) * 12)) (y : Int)).bind fun z21 => some (z21.1, z21.2.1, z21.2.2.1, z21.2.2.2)) else some (had, hadMany, has, hasMany)) = some (had1, hadMany1, has1, hasMany1) ∧ qu_R U d1 hadMany1 had1 ∧ qu_R U w1 hasMany1 has1 ∧
      (∀ l2 s z, z ∈ w1 l2 s → z ∈ w l2 s) ∧ (d1 l y).length ≤ (d l y).length - 1 ∧ w1 l x = w l x := by
  have hmy := qu_many qd hl10 hy hU
  cases e : d l y with
  | nil =>
    refine ⟨w, d, -1, 0, pa, dl, dw, hl, hw, had, hadMany, has, hasMany, pr_get_out hd hl10 hy (by decide) (by rw [e]; decide), ?_, hd, hh, hp, h, ?_, qd, qh, fun _ _ _ q => q, by rw [e]; exact Nat.le_refl _, rfl⟩
    · unfold fX1_separate fX3_remove fX3_isRow
      rw [tl_gt ⟨by omega, by omega⟩, if_neg (by omega), tl_gt ⟨⟨by omega, by omega⟩, by decide⟩, if_pos (by omega), tl_gt (show tl_R (-1 : Int) by decide), if_pos (by decide), pr_b, tl_gt (by decide), if_pos rfl, pr_b]
      dsimp only
      rw [tl_gt (by decide), if_pos rfl]
    · rw [hmy.1, e, if_neg (by decide)]
  | cons x0 xs =>
    have hlt : 0 < (d l y).length := by rw [e]; simp
    have h0 : (d l y)[0] = x0 := by simp [e]
    have hmem : x0 ∈ d l y := by rw [e]; exact List.mem_cons_self
    have hmw := (h.tw l x0 y).mpr hmem
    obtain ⟨_, hx0, _, hUx, _⟩ := h.row l x0 y hmw
    obtain ⟨dl1, dw1, hl1, hw1, pa1, e1, e2, e3, e4⟩ := hc_sep (ob := ob) (x := x0) (y := y) hd hh hl10 hx0 hy (h.nd l x0).1 (h.tw l x0 y) hp
    obtain ⟨had1, hadMany1, has1, hasMany1, f1, f2, f3⟩ := hq_part (t := t) (lk := lk) (o := o) (m := m) (pm := pm) (km := km) (lv := lv) (ra := ra) qd qh hl10 hx0 hy hUx hU (h.nd l x0).1 (h.nd l y).2 hmw hmem
    have g0 := pr_get hd hl10 hy hlt
    have g1 := hmy.2.2.1 0 hlt
    rw [Nat.add_zero, h0] at g1
    rw [h0] at g0
    refine ⟨_, _, _, _, pa1, dl1, dw1, hl1, hw1, had1, hadMany1, has1, hasMany1, g0, e1, e2, e3, e4, h.cut l x0 y, ?_, f2, f3, fun l2 s z q => (hs_mem_cut.mp q).1, ?_, ?_⟩
    · rw [hmy.1, if_pos (by omega), tl_gt ⟨by omega, by omega⟩, g1, f1, pr_b]
    · rw [hs_cut_at]
      have := pr_wo_len (h.nd l y).2 hmem
      rw [← e]
      omega
    · exact hs_cut_other (fun z => hm (by rw [z]; exact hmw))
theorem hs_reach {nl : Nat} {fo ru : Nat → Int} {g : Int} {U : Nat → Bool} {nu : Nat → Int} {w d : Nat → Nat → List Nat} (h : hs_I nl fo ru g U nu w d) {x : Nat} (hx : x < 100) : ∀ (n y : Nat), hs_pa (pw_own nl ru w) n y x → 0 ≤ hs_D nl ru d x y := by
  have F := hs_D_F h hx
  intro n
  induction n with
  | zero =>
    intro y e
    have e2 : y = x := e
    subst e2
    exact (hs_D_b h hx _).2.2.mp F.h0
  | succ n ih =>
    intro y hy
    obtain ⟨z, h1, h2⟩ := hy
    have h3 := (hs_D_b h hx z).2.2.mpr (ih z h2)
    exact (hs_D_b h hx y).2.2.mp (F.cl z h3 y (hs_own_w h h1).2.2.2.2).1
