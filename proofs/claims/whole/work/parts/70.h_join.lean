/-! a new pair, both sides -/
def hs_behind (fo : Nat → Int) (d : Nat → Nat → List Nat) (l y : Nat) : Nat := if fo l = 2 then (d l y).length else 0
theorem cs_left {ob pa : Int} {fo : Nat → Int} {w : Nat → Nat → List Nat} {hl : Nat → Int} {hw : Nat → Int64} (hh : pr_R w hl hw) {l x : Nat} (hl10 : l < 10) (hx : x < 100) : (tl_gd (tl_R (if fo l = 0 then (1 : Int) else 0)) (if (if fo l = 0 then (1 : Int) else 0) = 0 then (fX1_has ob pa).bind fun _ => (fX3_lengthOf hl (l : Int) (x : Int)).bind fun z6 => some z6 else some (0 : Int))) = some ((hs_left fo w l x : Nat) : Int) := by
  unfold hs_left
  by_cases q : fo l = 0
  · rw [if_pos q, if_pos q, tl_gt (by decide), if_neg (by decide)]
    rfl
  · unfold fX1_has
    rw [if_neg q, if_neg q, tl_gt (by decide), if_pos rfl, pr_b, pr_lengthOf hh hl10 hx, pr_b]
theorem cs_behind {ob pa : Int} {fo : Nat → Int} {d : Nat → Nat → List Nat} {dl : Nat → Int} {dw : Nat → Int64} (hd : pr_R d dl dw) {l y : Nat} (hl10 : l < 10) (hy : y < 100) : (tl_gd (tl_R (if fo l = 2 then (1 : Int) else 0)) (if (if fo l = 2 then (1 : Int) else 0) = 0 then some (0 : Int) else (fX1_had ob pa).bind fun _ => (fX3_lengthOf dl (l : Int) (y : Int)).bind fun z10 => some z10)) = some ((hs_behind fo d l y : Nat) : Int) := by
  unfold hs_behind
  by_cases q : fo l = 2
  · unfold fX1_had
    rw [if_pos q, if_pos q, tl_gt (by decide), if_neg (by decide), pr_b, pr_lengthOf hd hl10 hy, pr_b]
  · rw [if_neg q, if_neg q, tl_gt (by decide), if_pos rfl]
    rfl
theorem cs_no {g3 lv ob pa : Int} {nl : Nat} {fo : Nat → Int} {w d : Nat → Nat → List Nat} {dl : Nat → Int} {dw : Nat → Int64} {hl : Nat → Int} {hw : Nat → Int64} (hn : nl ≤ 10) (hd : pr_R d dl dw) (hh : pr_R w hl hw) {l x y : Nat} (hln : l < nl) (hx : x < 100) (hy : y < 100) (hf : 0 ≤ fo l ∧ fo l ≤ 2) (h12 : (w l x).length ≤ 12 ∧ (d l y).length ≤ 12) {p4 : Int} (h4 : tl_R p4) (hb : ((hs_left fo w l x : Nat) : Int) < p4 ∨ hs_full fo w d l x y) : fX9_joinNew g3 lv ob pa dl dw hl hw (nl : Int) fo (l : Int) (x : Int) (y : Int) p4 = some (if ((hs_left fo w l x : Nat) : Int) < p4 then .inl 4 else .inl 5, dl, dw, hl, hw, pa) := by
  have hR : tl_R (fo l) := ⟨by omega, by omega⟩
  have hle : hs_left fo w l x ≤ 12 := by
    unfold hs_left
    by_cases q : fo l = 0
    · rw [if_pos q]
      omega
    · rw [if_neg q]
      exact h12.1
  have hbe : hs_behind fo d l y ≤ 12 := by
    unfold hs_behind
    by_cases q : fo l = 2
    · rw [if_pos q]
      exact h12.2
    · rw [if_neg q]
      omega
  unfold fX9_joinNew
  rw [pt_hasForm hn hln hR (by decide), pr_b, pt_hasForm hn hln hR (by decide), pr_b, cs_left hh (by omega) hx, pr_b, cs_behind hd (by omega) hy, pr_b, tl_gt ⟨h4, ⟨by omega, by omega⟩⟩]
  by_cases a : ((hs_left fo w l x : Nat) : Int) < p4
  · rw [if_pos a, if_pos a]
  · rw [if_neg a, if_neg a, tl_gt ⟨⟨by omega, by omega⟩, by decide⟩]
    rcases hb with b | b
    · exact absurd b a
    · rcases b with b | ⟨b1, b2⟩
      · rw [if_neg (by omega)]
      · by_cases c : hs_left fo w l x < 12
        · have e : hs_behind fo d l y = 12 := by
            unfold hs_behind
            rw [if_pos b1]
            exact b2
          rw [if_pos (by omega), tl_gt ⟨⟨by omega, by omega⟩, by decide⟩, if_neg (by omega)]
        · rw [if_neg (by omega)]
theorem hx_join {t lk o m pm km lv ra ob pa g3 lv3 : Int} {nl : Nat} {fo ru : Nat → Int} {g : Int} {U : Nat → Bool} {nu : Nat → Int} {w d : Nat → Nat → List Nat} (hn : nl ≤ 10) (h : hs_I nl fo ru g U nu w d) {dl : Nat → Int} {dw : Nat → Int64} {hl : Nat → Int} {hw : Nat → Int64} (hd : pr_R d dl dw) (hh : pr_R w hl hw) (hp : pa = (hs_p w : Int)) {had hadMany has hasMany : Nat → Int} (qd : qu_R U d hadMany had) (qh : qu_R U w hasMany has) {l x y : Nat} (hln : l < nl) (hx : x < 100) (hy : y < 100) (hUx : U x = true) (hUy : U y = true) (hf : 0 ≤ fo l ∧ fo l ≤ 2) (hm : y ∉ w l x) (hac : ru l = 1 → hs_D nl ru d x y < 0) {p4 : Int} (h4 : tl_R p4) (h4b : -1 ≤ p4) (h4c : ¬ ((hs_left fo w l x : Nat) : Int) < p4) (hnf : ¬ hs_full fo w d l x y) :
    ∃ (w3 d3 : Nat → Nat → List Nat) (i : Nat) (pa3 : Int) (dl3 : Nat → Int) (dw3 : Nat → Int64) (hl3 : Nat → Int) (hw3 : Nat → Int64) (had1 hadMany1 has1 hasMany1 had2 hadMany2 has2 hasMany2 had3 hadMany3 has3 hasMany3 : Nat → Int),
      fX9_joinNew g3 lv3 ob pa dl dw hl hw (nl : Int) fo (l : Int) (x : Int) (y : Int) p4 = some (.inr (), dl3, dw3, hl3, hw3, pa3) ∧
      (tl_gd (tl_R (fo l)) (if fo l = 0 then tl_gd (tl_in ((l : Int) * 100 + (x : Int)) 1000) (tl_gd (tl_R (hasMany (l * 100 + x))) (if 0 < hasMany (l * 100 + x) then tl_gd (tl_in (((l : Int) * 100 + (x : Int)) * 12) 12000) ((fX10_part t lk o m pm km lv ra had hadMany has hasMany (l : Int) (x : Int) (has ((l * 100 + x) * 12))).bind fun z21 => some (z21.1, z21.2.1, z21.2.2.1, z21.2.2.2)) else some (had, hadMany, has, hasMany))) else some (had, hadMany, has, hasMany))) = some (had1, hadMany1, has1, hasMany1) ∧
      (tl_gd (tl_R (fo l) ∧ tl_R (2 : Int)) (if fo l < 2 then tl_gd (tl_in ((l : Int) * 100 + (y : Int)) 1000) (tl_gd (tl_R (hadMany1 (l * 100 + y))) (if 0 < hadMany1 (l * 100 + y) then tl_gd (tl_in (((l : Int) * 100 + (y : Int)) * 12) 12000) ((fX10_part t lk o m pm km lv ra had1 hadMany1 has1 hasMany1 (l : Int) (had1 ((l * 100 + y) * 12)) (y : Int)).bind fun z21 => some (z21.1, z21.2.1, z21.2.2.1, z21.2.2.2)) else some (had1, hadMany1, has1, hasMany1))) else some (had1, hadMany1, has1, hasMany1))) = some (had2, hadMany2, has2, hasMany2) ∧
      (tl_gd (tl_R p4) (if p4 < 0 then tl_gd (tl_in ((l : Int) * 100 + (x : Int)) 1000) (some (hasMany2 (l * 100 + x))) else some p4)) = some (i : Int) ∧
      fX10_insert 12000 1000 has2 hasMany2 ((l : Int) * 100 + (x : Int)) (i : Int) (y : Int) = some (has3, hasMany3) ∧
      fX10_insert 12000 1000 had2 hadMany2 ((l : Int) * 100 + (y : Int)) (hadMany2 (l * 100 + y)) (x : Int) = some (had3, hadMany3) ∧
      hasMany3 (l * 100 + x) = ((w3 l x).length : Int) ∧ hs_I nl fo ru g U nu w3 d3 ∧ pr_R d3 dl3 dw3 ∧ pr_R w3 hl3 hw3 ∧ pa3 = (hs_p w3 : Int) ∧ qu_R U d3 hadMany3 had3 ∧ qu_R U w3 hasMany3 has3 := by
  have hl10 : l < 10 := by omega
  have hR : tl_R (fo l) := ⟨by omega, by omega⟩
  obtain ⟨w1, d1, pa1, dl1, dw1, hl1, hw1, had1, hadMany1, has1, hasMany1, a1, a2, a3, a4, a5, a6, a7, a8, a9, a10, a11⟩ := hx_first (t := t) (lk := lk) (o := o) (m := m) (pm := pm) (km := km) (lv := lv) (ra := ra) (ob := ob) h hd hh hp qd qh hln hl10 hx hUx hf
  have hm1 : y ∉ w1 l x := fun z => hm (a9 _ _ _ z)
  obtain ⟨w2, d2, pa2, dl2, dw2, hl2, hw2, had2, hadMany2, has2, hasMany2, b1, b2, b3, b4, b5, b6, b7, b8, b9, b10, b11⟩ := hx_second (t := t) (lk := lk) (o := o) (m := m) (pm := pm) (km := km) (lv := lv) (ra := ra) (ob := ob) (x := x) a5 a2 a3 a4 a7 a8 hl10 hy hUy hm1 hf (fun z => by
    rw [(a11 (by omega)).2]
    have h1 := (h.len l y).2
    have h2 : (d l y).length ≠ 12 := fun q => hnf (Or.inr ⟨z, q⟩)
    omega)
  have hwl : (w2 l x).length = hs_left fo w l x := by
    rw [b11]
    unfold hs_left
    by_cases q : fo l = 0
    · rw [if_pos q]
      exact a10 q
    · rw [if_neg q, (a11 q).1]
  have hlt : hs_left fo w l x < 12 := by
    have h1 : hs_left fo w l x ≠ 12 := fun q => hnf (Or.inl q)
    have h2 := (b5.len l x).1
    omega
  have hm2 : y ∉ w2 l x := fun z => hm1 (b9 _ _ _ z)
  obtain ⟨i, hi, hi2⟩ : ∃ i : Nat, (i : Int) = (if p4 = -1 then ((hs_left fo w l x : Nat) : Int) else p4) ∧ i ≤ (w2 l x).length := by
    by_cases q : p4 = -1
    · exact ⟨hs_left fo w l x, by rw [if_pos q], by omega⟩
    · exact ⟨p4.toNat, by rw [if_neg q]; omega, by omega⟩
  obtain ⟨dl3, dw3, hl3, hw3, pa3, c1, c2, c3, c4⟩ := hc_join (ob := ob) (i := i) b2 b3 hl10 hx hy hi2 (by omega) b10 b4
  obtain ⟨has3, hasMany3, e1, e2⟩ := qu_insert (i := i) (o := y) b8 hl10 hx hy hi2 (by omega) hUx
  obtain ⟨had3, hadMany3, f1, f2⟩ := qu_insert (i := (d2 l y).length) (o := x) b7 hl10 hy hx (Nat.le_refl _) b10 hUy
  have hmx := qu_many b8 hl10 hx hUx
  have hmy := qu_many b7 hl10 hy hUy
  have hmx3 := qu_many e2 hl10 hx hUx
  have hbe : hs_behind fo d l y < 12 := by
    unfold hs_behind
    by_cases q : fo l = 2
    · rw [if_pos q]
      have h1 := (h.len l y).2
      have h2 : (d l y).length ≠ 12 := fun z => hnf (Or.inr ⟨q, z⟩)
      omega
    · rw [if_neg q]
      omega
  refine ⟨hs_put w2 l x i y, pr_set d2 l y (d2 l y ++ [x]), i, pa3, dl3, dw3, hl3, hw3, had1, hadMany1, has1, hasMany1, had2, hadMany2, has2, hasMany2, had3, hadMany3, has3, hasMany3, ?_, a6, b6, ?_, e1, ?_, hmx3.1, ?_, c2, c3, c4, ?_, e2⟩
  · unfold fX9_joinNew
    rw [pt_hasForm hn hln hR (by decide), pr_b, pt_hasForm hn hln hR (by decide), pr_b, cs_left hh hl10 hx, pr_b, cs_behind hd hl10 hy, pr_b, tl_gt ⟨h4, ⟨by omega, by omega⟩⟩, if_neg h4c, tl_gt ⟨⟨by omega, by omega⟩, by decide⟩, if_pos (by omega), tl_gt ⟨⟨by omega, by omega⟩, by decide⟩, if_pos (by omega), a1, pr_b]
    dsimp only
    rw [b1, pr_b, tl_gt ⟨h4, by decide⟩]
    dsimp only
    have hi3 : (if p4 = -1 then some ((hs_left fo w l x : Nat) : Int) else some p4) = some (i : Int) := by
      rw [hi]
      by_cases q : p4 = -1
      · rw [if_pos q, if_pos q]
      · rw [if_neg q, if_neg q]
    rw [hi3, pr_b, c1, pr_b]
  · rw [tl_gt h4]
    by_cases q : p4 = -1
    · rw [if_pos q] at hi
      rw [if_pos (by omega), tl_gt ⟨by omega, by omega⟩, hmx.1, hwl, hi]
    · rw [if_neg q] at hi
      rw [if_neg (by omega), hi]
  · rw [hmy.1]
    exact f1
  · refine b5.join hln hx hy hUx hUy hm2 (by omega) b10 (fun q => ?_) (fun q n z => ?_)
    · rw [hwl]
      unfold hs_left
      rw [if_pos q]
    · have h1 := hs_reach h hx n y (hs_pa_mono (hs_own_sub (fun l2 s v hv => a9 _ _ _ (b9 _ _ _ hv))) _ _ _ z)
      have h2 := hac q
      omega
  · rw [hs_app_put]
    exact f2
