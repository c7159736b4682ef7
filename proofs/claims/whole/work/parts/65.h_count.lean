/-! count, cut -/
def lf_count : Nat → Int
  | 0 => 1
  | _ => 0
theorem hs_sum_ext {f : Nat → Nat} {m : Nat} : ∀ (n : Nat), m ≤ n → (∀ k, m ≤ k → k < n → f k = 0) → hs_sum f n = hs_sum f m
  | 0, h, _ => by
    have : m = 0 := by omega
    rw [this]
  | n + 1, h, e => by
    by_cases q : m = n + 1
    · rw [q]
    · rw [hs_sum, hs_sum_ext n (by omega) (fun k h1 h2 => e k h1 (by omega)), e n (by omega) (by omega)]
      rfl
theorem qc_L2 {nl : Nat} {fo ru : Nat → Int} {g : Int} {U : Nat → Bool} {nu : Nat → Int} {w d : Nat → Nat → List Nat} (h : hs_I nl fo ru g U nu w d) {has hasMany used : Nat → Int} (hh : qu_R U w hasMany has) (hu : ∀ k, k < 100 → used k = if U k = true then 1 else 0) {l : Nat} (hl : l < 10) {base : Int} :
    ∀ (n i : Nat) (acc : Int), i ≤ 100 → 101 ≤ i + n → acc = base + (hs_sum (fun s => (w l s).length) i : Nat) → fX10_count_L2 hasMany used (l : Int) n (i : Int) acc = some (base + (hs_sum (fun s => (w l s).length) 100 : Nat)) := by
  intro n
  induction n with
  | zero => intro i acc h1 h2; omega
  | succ n ih =>
    intro i acc hi hn ha
    rw [fX10_count_L2, tl_gt ⟨⟨by omega, by omega⟩, by decide⟩]
    by_cases q : i < 100
    · have hR := hq_uR hu i q
      rw [if_pos (by omega), tl_gt ⟨by omega, by omega⟩, Int.toNat_natCast, tl_gt hR, show (i : Int) + 1 = ((i + 1 : Nat) : Int) by omega]
      by_cases r : U i = true
      · have hm := (qu_many hh hl q r).1
        rw [hu i q, if_pos r, if_neg (by decide), tl_gt ⟨by omega, by omega⟩, show (((l : Int) * 100 + (i : Int))).toNat = l * 100 + i by omega, hm]
        refine ih (i + 1) _ (by omega) (by omega) ?_
        rw [hs_sum, ha]
        omega
      · rw [hu i q, if_neg r, if_pos rfl]
        refine ih (i + 1) _ (by omega) (by omega) ?_
        have hf : U i = false := by simpa using r
        rw [hs_sum, (h.none hf l).1, ha]
        rfl
    · rw [if_neg (by omega)]
      have : i = 100 := by omega
      rw [ha, this]
theorem qc_L1 {nl : Nat} {fo ru : Nat → Int} {g : Int} {U : Nat → Bool} {nu : Nat → Int} {w d : Nat → Nat → List Nat} (hnl : nl ≤ 10) (h : hs_I nl fo ru g U nu w d) {has hasMany used : Nat → Int} (hh : qu_R U w hasMany has) (hu : ∀ k, k < 100 → used k = if U k = true then 1 else 0) :
    ∀ (n i : Nat) (acc : Int), i ≤ nl → nl + 1 ≤ i + n → acc = (hs_sum (fun l => hs_sum (fun s => (w l s).length) 100) i : Nat) → fX10_count_L1 (nl : Int) hasMany used n (i : Int) acc = some ((hs_sum (fun l => hs_sum (fun s => (w l s).length) 100) nl : Nat) : Int) := by
  intro n
  induction n with
  | zero => intro i acc h1 h2; omega
  | succ n ih =>
    intro i acc hi hn ha
    rw [fX10_count_L1, tl_gt ⟨⟨by omega, by omega⟩, ⟨by omega, by omega⟩⟩]
    by_cases q : i < nl
    · have e := qc_L2 h hh hu (l := i) (base := acc) (by omega) tl_N 0 acc (by omega) (by unfold tl_N; omega) (by rw [hs_sum]; omega)
      rw [show ((0 : Nat) : Int) = (0 : Int) from rfl] at e
      rw [if_pos (by omega), e, pr_b, show (i : Int) + 1 = ((i + 1 : Nat) : Int) by omega]
      refine ih (i + 1) _ (by omega) (by omega) ?_
      have z : hs_sum (fun l => hs_sum (fun s => (w l s).length) 100) (i + 1) = hs_sum (fun l => hs_sum (fun s => (w l s).length) 100) i + hs_sum (fun s => (w i s).length) 100 := rfl
      rw [z, ha]
      omega
    · rw [if_neg (by omega)]
      have : i = nl := by omega
      rw [ha, this]
theorem hs_p_nl {nl : Nat} {fo ru : Nat → Int} {g : Int} {U : Nat → Bool} {nu : Nat → Int} {w d : Nat → Nat → List Nat} (hnl : nl ≤ 10) (h : hs_I nl fo ru g U nu w d) : hs_p w = hs_sum (fun l => hs_sum (fun s => (w l s).length) 100) nl := by
  unfold hs_p
  refine hs_sum_ext 10 hnl (fun k h1 _ => ?_)
  rw [hs_sum_eq (g := fun _ => 0) 100 (fun s _ => by
    have : w k s = [] := List.eq_nil_iff_forall_not_mem.mpr (fun z hz => by have := (h.row k s z hz).1; omega)
    rw [this]
    rfl)]
  rfl
theorem ca_count {lv t pm km ra : Int} {nl : Nat} {fo fr ru to fo2 fr2 ru2 to2 : Nat → Int} (hT : ht_R nl fo fr ru to fo2 fr2 ru2 to2) {g : Int} {U : Nat → Bool} {nu ki : Nat → Int} {w d : Nat → Nat → List Nat} (h : hs_I nl fo ru g U nu w d) {ob pa : Int} {dl : Nat → Int} {dw : Nat → Int64} {hl : Nat → Int} {hw : Nat → Int64} {kk nn : Nat → Int} (hR : hc_R U nu ki w d ob pa dl dw hl hw kk nn) {ob2 : Int} {had hadMany has hasMany kind number used : Nat → Int} (hQ : hq_R U nu ki w d ob2 had hadMany has hasMany kind number used) {p1 : Int} (h1 : tl_R p1) :
    ∃ (c : Nat ⊕ Int) (b t' : Int), fX9_count g lv ob pa (nl : Int) pm p1 = some c ∧ fX10_count t (nl : Int) ob2 g pm km lv ra hasMany used p1 = some (b, t') ∧ lm_A lf_count c b t' := by
  have hn := hT.1
  have hob := hR.1
  have hob2 := hQ.1
  unfold fX9_count fX10_count fX5_howMany fX1_objects fX6_length fX1_pairs
  rw [cn_below h1 (by decide), qn_rng h1 (by decide)]
  by_cases a1 : 0 ≤ p1 ∧ p1 < 6
  · rw [if_pos a1, if_pos (show 0 ≤ p1 ∧ p1 ≤ 5 by omega), pr_b]
    dsimp only
    rw [pr_b, pr_b, pr_b, pr_b, pr_b, qn_fails0, pr_b, tl_gt (show tl_R (0 : Int) by decide), if_pos rfl]
    rw [tl_gt h1, tl_gt h1]
    by_cases b0 : p1 = 0
    · rw [if_pos b0, if_pos b0]
      exact ⟨_, _, _, rfl, rfl, lm_A.ret rfl rfl⟩
    · rw [if_neg b0, if_neg b0]
      by_cases b1 : p1 = 1
      · rw [if_pos b1, if_pos b1]
        exact ⟨_, _, _, rfl, rfl, lm_A.ret rfl (by omega)⟩
      · rw [if_neg b1, if_neg b1]
        by_cases b2 : p1 = 2
        · rw [if_pos b2, if_pos b2]
          exact ⟨_, _, _, rfl, rfl, lm_A.ret rfl rfl⟩
        · rw [if_neg b2, if_neg b2]
          by_cases b3 : p1 = 3
          · rw [if_pos b3, if_pos b3]
            exact ⟨_, _, _, rfl, rfl, lm_A.ret rfl rfl⟩
          · rw [if_neg b3, if_neg b3]
            by_cases b4 : p1 = 4
            · rw [if_pos b4, if_pos b4]
              exact ⟨_, _, _, rfl, rfl, lm_A.ret rfl rfl⟩
            · have e := qc_L1 hn h hQ.2.2.1 hQ.2.2.2.2.2 tl_N 0 0 (by omega) (by unfold tl_N; omega) (by rw [hs_sum]; rfl)
              rw [show ((0 : Nat) : Int) = (0 : Int) from rfl] at e
              rw [if_neg b4, if_neg b4, e, pr_b]
              exact ⟨_, _, _, rfl, rfl, lm_A.ret rfl (by rw [hR.2.1, hs_p_nl hn h])⟩
  · rw [if_neg a1, if_neg (show ¬ (0 ≤ p1 ∧ p1 ≤ 5) by omega), pr_b]
    dsimp only
    rw [pr_b, qn_fails1 (by decide) (by decide), pr_b, tl_gt (by decide), if_neg (by decide)]
    exact ⟨_, _, _, rfl, rfl, lm_A.thr rfl (by decide)⟩
theorem qn_wrong1 {t o m pm km lv ra : Int} {nl : Nat} {fr kind number to used : Nat → Int} (hn : nl ≤ 10) {p1 p2 p3 : Int} (h1 : tl_R p1) (a1 : ¬ (0 ≤ p1 ∧ p1 < (nl : Int))) : fX10_wrong t (nl : Int) o m pm km lv ra fr kind number to used p1 p2 p3 = some 1 := by
  unfold fX10_wrong
  rw [qn_link hn h1, if_neg a1, pr_b, tl_gt (by decide), if_pos rfl]
theorem qn_wrong2 {t o m pm km lv ra : Int} {nl : Nat} {fo ru fr to : Nat → Int} {g : Int} {U : Nat → Bool} {nu ki : Nat → Int} {w d : Nat → Nat → List Nat} (h : hs_I nl fo ru g U nu w d) {ob : Int} {had hadMany has hasMany kind number used : Nat → Int} (hR : hq_R U nu ki w d ob had hadMany has hasMany kind number used) (hn : nl ≤ 10) {p1 p2 p3 : Int} (h1 : tl_R p1) (h2 : tl_R p2) (h3 : tl_R p3) (a1 : 0 ≤ p1 ∧ p1 < (nl : Int)) (hno : (∀ s, s < 100 → U s = true → nu s ≠ p2) ∨ ∀ s, s < 100 → U s = true → nu s ≠ p3) : fX10_wrong t (nl : Int) o m pm km lv ra fr kind number to used p1 p2 p3 = some 2 := by
  unfold fX10_wrong
  rw [qn_link hn h1, if_pos a1, pr_b, tl_gt (by decide), if_neg (by decide)]
  rcases hs_find U nu p2 with ⟨s, hs, hU, he⟩ | hno2
  · rw [qn_place h hR h2 hs hU he, pr_b]
    rcases hno with z | z
    · exact absurd he (z s hs hU)
    · rw [qn_noplace hR h3 z, pr_b, tl_gt ⟨by omega, by omega⟩, if_neg (by omega), tl_gt (by decide), if_pos (by decide)]
  · rw [qn_noplace hR h2 hno2, pr_b]
    rcases hs_find U nu p3 with ⟨s, hs, hU, he⟩ | hno3
    · rw [qn_place h hR h3 hs hU he, pr_b, tl_gt (by decide), if_pos (by decide)]
    · rw [qn_noplace hR h3 hno3, pr_b, tl_gt (by decide), if_pos (by decide)]
theorem qn_wrong3 {t o m pm km lv ra : Int} {nl : Nat} {fo fr ru to fo2 fr2 ru2 to2 : Nat → Int} (hT : ht_R nl fo fr ru to fo2 fr2 ru2 to2) {g : Int} {U : Nat → Bool} {nu ki : Nat → Int} {w d : Nat → Nat → List Nat} (h : hs_I nl fo ru g U nu w d) {ob : Int} {had hadMany has hasMany kind number used : Nat → Int} (hR : hq_R U nu ki w d ob had hadMany has hasMany kind number used) {l : Nat} {p2 p3 : Int} (h2 : tl_R p2) (h3 : tl_R p3) (hl : l < nl) {x y : Nat} (hx : x < 100) (hUx : U x = true) (ex : nu x = p2) (hy : y < 100) (hUy : U y = true) (ey : nu y = p3) : fX10_wrong t (nl : Int) o m pm km lv ra fr2 kind number to2 used (l : Int) p2 p3 = some (if ki x = fr l then if ki y = to l then 0 else 3 else 3) := by
  have hn := hT.1
  have hTl := hT.2 l hl
  have kx := hR.2.2.2.1 x hx
  have ky := hR.2.2.2.1 y hy
  have kxR := kx.1
  have kyR := ky.1
  rw [kx.2 hUx] at kxR
  rw [ky.2 hUy] at kyR
  unfold fX10_wrong
  rw [qn_link hn ⟨by omega, by omega⟩, if_pos ⟨by omega, by omega⟩, pr_b, tl_gt (by decide), if_neg (by decide), qn_place h hR h2 hx hUx ex, pr_b, qn_place h hR h3 hy hUy ey, pr_b, tl_gt ⟨by omega, by omega⟩, if_neg (by omega), tl_gt ⟨by omega, by omega⟩, if_neg (by omega), tl_gt ⟨by omega, by omega⟩, tl_gt ⟨by omega, by omega⟩, Int.toNat_natCast, Int.toNat_natCast, Int.toNat_natCast, kx.2 hUx, ky.2 hUy, hTl.2.1, hTl.2.2.2.1, tl_gt ⟨kxR, ⟨by omega, by omega⟩⟩]
  by_cases a : ki x = fr l
  · rw [if_pos a, if_pos a, tl_gt ⟨by omega, by omega⟩, tl_gt ⟨by omega, by omega⟩, tl_gt ⟨kyR, ⟨by omega, by omega⟩⟩]
    by_cases b : ki y = to l
    · rw [if_pos b, if_pos b]
    · rw [if_neg b, if_neg b]
  · rw [if_neg a, if_neg a]
