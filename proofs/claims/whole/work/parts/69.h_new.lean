/-! a new pair: what stands in the way is parted first -/
theorem hx_first {t lk o m pm km lv ra ob pa : Int} {nl : Nat} {fo ru : Nat → Int} {g : Int} {U : Nat → Bool} {nu : Nat → Int} {w d : Nat → Nat → List Nat} (h : hs_I nl fo ru g U nu w d) {dl : Nat → Int} {dw : Nat → Int64} {hl : Nat → Int} {hw : Nat → Int64} (hd : pr_R d dl dw) (hh : pr_R w hl hw) (hp : pa = (hs_p w : Int)) {had hadMany has hasMany : Nat → Int} (qd : qu_R U d hadMany had) (qh : qu_R U w hasMany has) {l x : Nat} (hln : l < nl) (hl10 : l < 10) (hx : x < 100) (hU : U x = true) (hf : 0 ≤ fo l ∧ fo l ≤ 2) :
    ∃ (w1 d1 : Nat → Nat → List Nat) (pa1 : Int) (dl1 : Nat → Int) (dw1 : Nat → Int64) (hl1 : Nat → Int) (hw1 : Nat → Int64) (had1 hadMany1 has1 hasMany1 : Nat → Int),
      (tl_gd (tl_R (if fo l = 0 then (1 : Int) else 0)) (if (if fo l = 0 then (1 : Int) else 0) = 0 then some (pa, dl, dw, hl, hw) else (fX1_has ob pa).bind fun _ => (fX3_get hl hw (l : Int) (x : Int) 0).bind fun z18 => (fX1_separate ob pa dl dw hl hw (l : Int) (x : Int) z18).bind fun z19 => some (z19.2.2.2.2.2, z19.2.1, z19.2.2.1, z19.2.2.2.1, z19.2.2.2.2.1))) = some (pa1, dl1, dw1, hl1, hw1) ∧ pr_R d1 dl1 dw1 ∧ pr_R w1 hl1 hw1 ∧ pa1 = (hs_p w1 : Int) ∧ hs_I nl fo ru g U nu w1 d1 ∧
      (tl_gd (tl_R (fo l)) (if fo l = 0 then tl_gd (tl_in ((l : Int) * 100 + (x : Int)) 1000) (tl_gd (tl_R (hasMany (l * 100 + x))) (if 0 < hasMany (l * 100 + x) then tl_gd (tl_in (((l : Int) * 100 + (x : Int)) * 12) 12000) ((fX10_part t lk o m pm km lv ra had hadMany has hasMany (l : Int) (x : Int) (has ((l * 100 + x) * 12))).bind fun z21 => some (z21.1, z21.2.1, z21.2.2.1, z21.2.2.2)) else some (had, hadMany, has, hasMany))) else some (had, hadMany, has, hasMany))) = some (had1, hadMany1, has1, hasMany1) ∧ qu_R U d1 hadMany1 had1 ∧ qu_R U w1 hasMany1 has1 ∧
      (∀ l2 s z, z ∈ w1 l2 s → z ∈ w l2 s) ∧ (fo l = 0 → (w1 l x).length = 0) ∧ (fo l ≠ 0 → w1 = w ∧ d1 = d) := by
  have hm := qu_many qh hl10 hx hU
  have hR : tl_R (fo l) := ⟨by omega, by omega⟩
  by_cases q : fo l = 0
  · obtain ⟨w1, d1, r0, z, pa1, dl1, dw1, hl1, hw1, had1, hadMany1, has1, hasMany1, e1, e2, e3, e4, e5, e6, e7, e8, e9, e10, e11⟩ := hx_step1 (t := t) (lk := lk) (o := o) (m := m) (pm := pm) (km := km) (lv := lv) (ra := ra) (ob := ob) h hd hh hp qd qh hl10 hx hU
    have hone := h.one l hln q x
    refine ⟨w1, d1, pa1, dl1, dw1, hl1, hw1, had1, hadMany1, has1, hasMany1, ?_, e3, e4, e5, e6, ?_, e8, e9, e10, fun _ => by omega, fun z => absurd q z⟩
    · unfold fX1_has
      rw [if_pos q, tl_gt (by decide), if_neg (by decide), pr_b, e1, pr_b, e2, pr_b]
    · rw [tl_gt hR, if_pos q, tl_gt ⟨by omega, by omega⟩, tl_gt (show tl_R (hasMany (l * 100 + x)) by rw [hm.1]; exact ⟨by omega, by omega⟩)]
      exact e7
  · refine ⟨w, d, pa, dl, dw, hl, hw, had, hadMany, has, hasMany, ?_, hd, hh, hp, h, ?_, qd, qh, fun _ _ _ z => z, fun z => absurd z q, fun _ => ⟨rfl, rfl⟩⟩
    · rw [if_neg q, tl_gt (by decide), if_pos rfl]
    · rw [tl_gt hR, if_neg q]
theorem hx_second {t lk o m pm km lv ra ob pa : Int} {nl : Nat} {fo ru : Nat → Int} {g : Int} {U : Nat → Bool} {nu : Nat → Int} {w d : Nat → Nat → List Nat} (h : hs_I nl fo ru g U nu w d) {dl : Nat → Int} {dw : Nat → Int64} {hl : Nat → Int} {hw : Nat → Int64} (hd : pr_R d dl dw) (hh : pr_R w hl hw) (hp : pa = (hs_p w : Int)) {had hadMany has hasMany : Nat → Int} (qd : qu_R U d hadMany had) (qh : qu_R U w hasMany has) {l x y : Nat} (hl10 : l < 10) (hy : y < 100) (hU : U y = true) (hm : y ∉ w l x) (hf : 0 ≤ fo l ∧ fo l ≤ 2) (h12 : fo l = 2 → (d l y).length < 12) :
    ∃ (w1 d1 : Nat → Nat → List Nat) (pa1 : Int) (dl1 : Nat → Int) (dw1 : Nat → Int64) (hl1 : Nat → Int) (hw1 : Nat → Int64) (had1 hadMany1 has1 hasMany1 : Nat → Int),
      (tl_gd (tl_R (if fo l = 2 then (1 : Int) else 0)) (if (if fo l = 2 then (1 : Int) else 0) = 0 then (fX1_had ob pa).bind fun _ => (fX3_get dl dw (l : Int) (y : Int) 0).bind fun z18 => (fX1_separate ob pa dl dw hl hw (l : Int) z18 (y : Int)).bind fun z19 => some (z19.2.2.2.2.2, z19.2.1, z19.2.2.1, z19.2.2.2.1, z19.2.2.2.2.1) else some (pa, dl, dw, hl, hw))) = some (pa1, dl1, dw1, hl1, hw1) ∧ pr_R d1 dl1 dw1 ∧ pr_R w1 hl1 hw1 ∧ pa1 = (hs_p w1 : Int) ∧ hs_I nl fo ru g U nu w1 d1 ∧
      (tl_gd (tl_R (fo l) ∧ tl_R (2 : Int)) (if fo l < 2 then tl_gd (tl_in ((l : Int) * 100 + (y : Int)) 1000) (tl_gd (tl_R (hadMany (l * 100 + y))) (if 0 < hadMany (l * 100 + y) then tl_gd (tl_in (((l : Int) * 100 + (y : Int)) * 12) 12000) ((fX10_part t lk o m pm km lv ra had hadMany has hasMany (l : Int) (had ((l * 100 + y) * 12)) (y : Int)).bind fun z21 => some (z21.1, z21.2.1, z21.2.2.1, z21.2.2.2)) else some (had, hadMany, has, hasMany))) else some (had, hadMany, has, hasMany))) = some (had1, hadMany1, has1, hasMany1) ∧ qu_R U d1 hadMany1 had1 ∧ qu_R U w1 hasMany1 has1 ∧
      (∀ l2 s z, z ∈ w1 l2 s → z ∈ w l2 s) ∧ (d1 l y).length < 12 ∧ w1 l x = w l x := by
  have hmy := qu_many qd hl10 hy hU
  have hR : tl_R (fo l) ∧ tl_R (2 : Int) := ⟨⟨by omega, by omega⟩, by decide⟩
  by_cases q : fo l = 2
  · refine ⟨w, d, pa, dl, dw, hl, hw, had, hadMany, has, hasMany, ?_, hd, hh, hp, h, ?_, qd, qh, fun _ _ _ z => z, h12 q, rfl⟩
    · rw [if_pos q, tl_gt (by decide), if_neg (by decide)]
    · rw [tl_gt hR, if_neg (by omega)]
  · obtain ⟨w1, d1, r0, z, pa1, dl1, dw1, hl1, hw1, had1, hadMany1, has1, hasMany1, e1, e2, e3, e4, e5, e6, e7, e8, e9, e10, e11, e12⟩ := hx_step2 (t := t) (lk := lk) (o := o) (m := m) (pm := pm) (km := km) (lv := lv) (ra := ra) (ob := ob) (x := x) h hd hh hp qd qh hl10 hy hU hm
    refine ⟨w1, d1, pa1, dl1, dw1, hl1, hw1, had1, hadMany1, has1, hasMany1, ?_, e3, e4, e5, e6, ?_, e8, e9, e10, by omega, e12⟩
    · unfold fX1_had
      rw [if_neg q, tl_gt (by decide), if_pos rfl, pr_b, e1, pr_b, e2, pr_b]
    · rw [tl_gt hR, if_pos (by omega), tl_gt ⟨by omega, by omega⟩, tl_gt (show tl_R (hadMany (l * 100 + y)) by rw [hmy.1]; exact ⟨by omega, by omega⟩)]
      exact e7
/-- how many are left in the row of x, when a new one is to come -/
def hs_left (fo : Nat → Int) (w : Nat → Nat → List Nat) (l x : Nat) : Nat := if fo l = 0 then 0 else (w l x).length
theorem qs_left {U : Nat → Bool} {fo : Nat → Int} {w : Nat → Nat → List Nat} {has hasMany : Nat → Int} (qh : qu_R U w hasMany has) {l x : Nat} (hl10 : l < 10) (hx : x < 100) (hU : U x = true) (hf : 0 ≤ fo l ∧ fo l ≤ 2) : (tl_gd (tl_R (fo l)) (if fo l = 0 then some (0 : Int) else tl_gd (tl_in ((l : Int) * 100 + (x : Int)) 1000) (some (hasMany (l * 100 + x))))) = some ((hs_left fo w l x : Nat) : Int) := by
  have hm := qu_many qh hl10 hx hU
  unfold hs_left
  rw [tl_gt (show tl_R (fo l) from ⟨by omega, by omega⟩)]
  by_cases q : fo l = 0
  · rw [if_pos q, if_pos q]
    rfl
  · rw [if_neg q, if_neg q, tl_gt ⟨by omega, by omega⟩, hm.1]
def hs_full (fo : Nat → Int) (w d : Nat → Nat → List Nat) (l x y : Nat) : Prop := hs_left fo w l x = 12 ∨ (fo l = 2 ∧ (d l y).length = 12)
theorem qs_full {U : Nat → Bool} {fo : Nat → Int} {w d : Nat → Nat → List Nat} {had hadMany : Nat → Int} (qd : qu_R U d hadMany had) {l x y : Nat} (hl10 : l < 10) (hy : y < 100) (hU : U y = true) (hf : 0 ≤ fo l ∧ fo l ≤ 2) (hle : hs_left fo w l x ≤ 12) : ∃ F : Int, (tl_gd (tl_R ((hs_left fo w l x : Nat) : Int) ∧ tl_R (12 : Int)) (if ((hs_left fo w l x : Nat) : Int) = (12 : Int) then some (1 : Int) else tl_gd (tl_in (l : Int) 10) (tl_gd (tl_R (fo l) ∧ tl_R (2 : Int)) (if fo l = (2 : Int) then tl_gd (tl_in ((l : Int) * 100 + (y : Int)) 1000) (tl_gd (tl_R (hadMany (l * 100 + y)) ∧ tl_R (12 : Int)) (if hadMany (l * 100 + y) = (12 : Int) then some (1 : Int) else some (0 : Int))) else some (0 : Int))))) = some F ∧ (F = 0 ∨ F = 1) ∧ (F = 0 ↔ ¬ hs_full fo w d l x y) := by
  have hm := qu_many qd hl10 hy hU
  rw [tl_gt ⟨⟨by omega, by omega⟩, by decide⟩]
  by_cases a : hs_left fo w l x = 12
  · rw [if_pos (by omega)]
    exact ⟨1, rfl, Or.inr rfl, fun z => by omega, fun z => absurd (Or.inl a) z⟩
  · rw [if_neg (by omega), tl_gt ⟨by omega, by omega⟩, tl_gt ⟨⟨by omega, by omega⟩, by decide⟩]
    by_cases b : fo l = 2
    · rw [if_pos b, tl_gt ⟨by omega, by omega⟩, hm.1, tl_gt ⟨⟨by omega, by omega⟩, by decide⟩]
      by_cases c : (d l y).length = 12
      · rw [if_pos (by omega)]
        exact ⟨1, rfl, Or.inr rfl, fun z => by omega, fun z => absurd (Or.inr ⟨b, c⟩) z⟩
      · rw [if_neg (by omega)]
        exact ⟨0, rfl, Or.inl rfl, fun _ z => z.elim a (fun v => c v.2), fun _ => rfl⟩
    · rw [if_neg b]
      exact ⟨0, rfl, Or.inl rfl, fun _ z => z.elim a (fun v => b v.1), fun _ => rfl⟩
