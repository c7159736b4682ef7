/-! copy -/
def lf_drop : Nat → Int
  | 1 => 1
  | 5 => 2
  | _ => 0
theorem qk_L3 : ∀ (n i : Nat) (x : Nat → Int), i ≤ 100 → 101 ≤ i + n → ∃ x', fX10_copy_L3 n (i : Int) x = some x' ∧ ∀ k, k < 100 → x' k = if i ≤ k then -1 else x k := by
  intro n
  induction n with
  | zero => intro i x h1 h2; omega
  | succ n ih =>
    intro i x hi hn
    rw [fX10_copy_L3, tl_gt ⟨⟨by omega, by omega⟩, by decide⟩]
    by_cases hq : i < 100
    · rw [if_pos (by omega), tl_gt ⟨by omega, by omega⟩, Int.toNat_natCast, show (i : Int) + 1 = ((i + 1 : Nat) : Int) by omega]
      obtain ⟨x', h1, h2⟩ := ih (i + 1) (va_up x i (-1)) hq (by omega)
      refine ⟨x', h1, fun k hk => ?_⟩
      rw [h2 k hk]
      by_cases h3 : k = i
      · rw [h3, va_up_self, if_neg (by omega), if_pos (by omega)]
      · rw [va_up_ne _ _ h3]
        by_cases h4 : i + 1 ≤ k
        · rw [if_pos h4, if_pos (by omega)]
        · rw [if_neg h4, if_neg (by omega)]
    · rw [if_neg (by omega)]
      exact ⟨x, rfl, fun k hk => by rw [if_neg (by omega)]⟩
theorem hs_n_le (U : Nat → Bool) : hs_n U ≤ 100 := by
  have : ∀ n, hs_sum (fun k => if U k = true then 1 else 0) n ≤ n := by
    intro n
    induction n with
    | zero => exact Nat.le_refl _
    | succ n ih =>
      rw [hs_sum]
      by_cases q : U n = true
      · simp only [if_pos q]
        omega
      · simp only [if_neg q]
        omega
  exact this 100
theorem ca_copy {lv t pm km lv2 ra : Int} {nl : Nat} {fo fr ru to fo2 fr2 ru2 to2 : Nat → Int} (hT : ht_R nl fo fr ru to fo2 fr2 ru2 to2) {g : Int} {U : Nat → Bool} {nu ki : Nat → Int} {w d : Nat → Nat → List Nat} (h : hs_I nl fo ru g U nu w d) (hg0 : 0 ≤ g) (hg : g + 100 ≤ 1000000) {ob pa : Int} {dl : Nat → Int} {dw : Nat → Int64} {hl : Nat → Int} {hw : Nat → Int64} {kk nn : Nat → Int} (hR : hc_R U nu ki w d ob pa dl dw hl hw kk nn) {ob2 : Int} {had hadMany has hasMany kind number used : Nat → Int} (hQ : hq_R U nu ki w d ob2 had hadMany has hasMany kind number used) {R O : List Nat} {rl ol : Int} {ri rs oi os st tws more olds queue twin under : Nat → Int} (hS : ps_S R rl ri rs) (hO : ps_S O ol oi os) {p1 : Int} (h1 : tl_R p1) :
    ∃ (c : Nat ⊕ Int) (b t' g' : Int) (U' : Nat → Bool) (nu' ki' : Nat → Int) (w' d' : Nat → Nat → List Nat) (R' O' : List Nat) (dl' : Nat → Int) (dw' : Nat → Int64) (hl' : Nat → Int) (hw' : Nat → Int64) (kk' nn' oi' os' tws' ri' rs' st' : Nat → Int) (ob' pa' ol' rl' : Int) (had' hadMany' has' hasMany' kind' more' number' olds' queue' twin' under' used' : Nat → Int) (ob2' : Int),
      fX9_copy g lv ob pa dl dw hl hw kk nn (nl : Int) fo ru ol oi os tws rl ri rs st p1 = some (c, dl', dw', hl', hw', kk', nn', oi', os', tws', ri', rs', st', ob', pa', ol', rl', g') ∧
      fX10_copy t (nl : Int) ob2 g pm km lv2 ra fo2 had hadMany has hasMany kind more number olds queue ru2 twin under used p1 = some (b, had', hadMany', has', hasMany', kind', more', number', olds', queue', twin', under', used', g', ob2', t') ∧
      lm_A lf_drop c b t' ∧ hs_I nl fo ru g' U' nu' w' d' ∧ hc_R U' nu' ki' w' d' ob' pa' dl' dw' hl' hw' kk' nn' ∧ hq_R U' nu' ki' w' d' ob2' had' hadMany' has' hasMany' kind' number' used' ∧ ps_S R' rl' ri' rs' ∧ ps_S O' ol' oi' os' ∧ g ≤ g' ∧ g' ≤ g + 100 := by
  have hn := hT.1
  have hr : ∀ l, l < nl → tl_R (ru l) := fun l hl => by
    have := hT.2 l hl
    exact ⟨by omega, by omega⟩
  have hfr : ∀ l, l < nl → (0 ≤ fo l ∧ fo l ≤ 2) ∧ (0 ≤ ru l ∧ ru l ≤ 2) := fun l hl => ⟨(hT.2 l hl).2.2.2.2.1, (hT.2 l hl).2.2.2.2.2.2.1⟩
  rcases hs_find U nu p1 with ⟨x, hx, hUx, ex⟩ | hno
  · obtain ⟨r1, r2, r3, r4, r5, r6⟩ := id hR
    obtain ⟨q1, q2, q3, q4, q5, q6⟩ := id hQ
    have hnU := hs_n_le U
    obtain ⟨i1, l1, st1, s1, a1, a2, a3⟩ := pw_spread_eq r4 hn hr hS st hx
    have hF : pw_F (pw_own nl ru w) x (pw_spread (pw_own nl ru w) x).1 (pw_spread (pw_own nl ru w) x).2 := pw_spread_F (fun y _ z hz => (hs_own_w h hz).2.1) hx
    have hFU : ∀ y ∈ (pw_spread (pw_own nl ru w) x).1, y < 100 ∧ U y = true := fun y hy => ⟨hF.lt y hy, pw_spread_all (P := fun y => U y = true) (fun y _ z hz => (hs_own_w h hz).2.2.2.1) hUx y hy⟩
    have inj : ∀ y ∈ (pw_spread (pw_own nl ru w) x).1, ∀ z ∈ (pw_spread (pw_own nl ru w) x).1, nu y = nu z → y = z := fun y hy z hz e => h.inj y z (hFU y hy).1 (hFU z hz).1 (hFU y hy).2 (hFU z hz).2 e
    obtain ⟨oi1, b1, b2⟩ := ps_clear hO
    obtain ⟨A, al, ai, as, c1, c2, c3, c4⟩ := hk_gather_L (o := ob) (p := pa) (nu := nu) (z2 := (i1, l1, st1, s1)) a2 (hc_nR h (by omega) hR) (fun y hy => by rw [r6 y (hFU y hy).1, if_pos (hFU y hy).2]) inj tl_N 0 [] 0 oi1 os rfl (Nat.zero_le _) (by have := a2.le; unfold tl_N; omega) (b2 os) List.Pairwise.nil (fun y hy => by cases hy) (fun y _ _ a ha => by cases ha)
    rw [show ((0 : Nat) : Int) = (0 : Int) from rfl] at c1
    have hAU : ∀ o ∈ A, o < 100 ∧ U o = true := fun o ho => hFU o ((c4 o).mp ho)
    have hAl := c2.le
    have hal := c2.1
    have eg : fX7_gather ol oi os (nl : Int) ru rl ri rs st ob pa hl hw nn (x : Int) = some (ai, as, i1, l1, st1, al, s1) := by
      unfold fX7_gather fX1_has
      rw [pr_b, a1, pr_b, b1, pr_b]
      dsimp only
      rw [c1, pr_b]
    obtain ⟨queue', under', d1, d2⟩ := hq_mark (t := 0) (o := ob2) (m := g) (pm := pm) (km := km) (lv := lv2) (ra := ra) (queue := queue) (under := under) hT h q3 hx hUx
    have hund0 : ∀ k, k < 100 → va_up under' x 1 k = if k ∈ (pw_spread (pw_own nl ru w) x).1 then 1 else 0 := by
      intro k hk
      by_cases z : k = x
      · rw [z, va_up_self, if_pos hF.h0]
      · rw [va_up_ne _ _ z, d2 k hk]
        by_cases v : k ∈ (pw_spread (pw_own nl ru w) x).1
        · rw [if_pos ⟨v, z⟩, if_pos v]
        · rw [if_neg (fun y => v y.1), if_neg v]
    obtain ⟨B, olds', e1, e2, e3, e4⟩ := qk_L1 (z6 := (((pw_spread (pw_own nl ru w) x).1.length : Int) - 1, queue', under')) (x := x) q5 q6 hFU hF.nd (fun k hk => (h.num k (hFU k hk).1 (hFU k hk).2).1) inj hund0 tl_N [] (-1) 0 olds (by have := a2.le; unfold tl_N; simp; omega) rfl (by decide) (by decide) List.Pairwise.nil (fun a ha => by cases ha) (fun k hk _ => by have := (h.num k (hFU k hk).1 (hFU k hk).2).1; omega) (fun i hi => by simp at hi)
    have eAB : B = A := hk_uniq B A e2 c3 (fun k => by rw [e3 k, c4 k])
    subst eAB
    have hund : ∀ k, k < 100 → va_up under' x 1 k = if k ∈ B then 1 else 0 := by
      intro k hk
      rw [hund0 k hk]
      by_cases v : k ∈ (pw_spread (pw_own nl ru w) x).1
      · rw [if_pos v, if_pos ((c4 k).mpr v)]
      · rw [if_neg v, if_neg (fun z => v ((c4 k).mp z))]
    obtain ⟨fb, f1, f2, f3⟩ := ck_fit (ob := ob) (pa := pa) c2 r3 hn hfr r1 hnU
    have iX : tl_in (x : Int) 100 ∧ ((1 : Int) = 0 ∨ (1 : Int) = 1) := ⟨⟨by omega, by omega⟩, Or.inr rfl⟩
    have ec : fX9_copy g lv ob pa dl dw hl hw kk nn (nl : Int) fo ru ol oi os tws rl ri rs st p1 = (if fb = 0 then some (.inl 5, dl, dw, hl, hw, kk, nn, ai, as, tws, i1, l1, st1, ob, pa, al, s1, g) else (fX7_build al ai as (nl : Int) fo ru tws ob pa dl dw hl hw kk nn g).bind fun z5 => (fX7_twinOf al ai z5.2.2.2.2.2.2.2.1 (x : Int)).bind fun z6 => (fX1_numberOf z5.2.2.2.2.2.2.2.2.1 z5.2.2.2.2.2.2.2.2.2 z5.2.2.2.2.2.2.1 z6).bind fun z7 => some (.inr z7, z5.2.1, z5.2.2.1, z5.2.2.2.1, z5.2.2.2.2.1, z5.2.2.2.2.2.1, z5.2.2.2.2.2.2.1, ai, as, z5.2.2.2.2.2.2.2.1, i1, l1, st1, z5.2.2.2.2.2.2.2.2.1, z5.2.2.2.2.2.2.2.2.2, al, s1, z5.1)) := by
      unfold fX9_copy
      rw [cn_slot h (by omega) hR h1 hx hUx ex, pr_b]
      dsimp only
      rw [eg, pr_b]
      dsimp only
      rw [f1, pr_b, tl_gt (show tl_R fb from ⟨by omega, by omega⟩)]
    by_cases room : 100 < hs_n U + B.length ∨ hk_cr nl fo ru B d
    · have f0 := f3.mpr room
      rw [if_pos f0] at ec
      by_cases r100 : 100 < hs_n U + B.length
      · refine ⟨.inl 5, 0, 2, g, U, nu, ki, w, d, _, _, dl, dw, hl, hw, kk, nn, ai, as, tws, i1, l1, st1, ob, pa, al, s1, had, hadMany, has, hasMany, kind, more, number, olds', queue', twin, va_up under' x 1, used, ob2, ec, ?_, lm_A.thr rfl (by decide), h, hR, hQ, a2, c2, by omega, by omega⟩
        unfold fX10_copy
        rw [qn_place h hQ h1 hx hUx ex, pr_b, tl_gt ⟨by omega, by omega⟩, if_neg (by omega), pr_b, qn_fails0, pr_b]
        dsimp only
        rw [tl_gt (show tl_R (0 : Int) by decide), if_pos rfl, qn_place h hQ h1 hx hUx ex, pr_b, d1, pr_b, tl_gt iX, e1, pr_b]
        dsimp only
        rw [tl_gt ⟨⟨by omega, by omega⟩, by decide⟩, if_pos (by omega), pr_b]
        dsimp only
        rw [qn_fails1 (by decide) (by decide), pr_b]
        dsimp only
        rw [tl_gt (show tl_R (1 : Int) by decide), if_neg (show ¬ (1 : Int) = 0 by decide), Int.toNat_natCast]
      · obtain ⟨cb, more', g1, g2, g3⟩ := hq_crowd (t := 0) (o := ob2) (m := g) (pm := pm) (km := km) (lv := lv2) (ra := ra) (more := more) hT h q2 q3 q6 hund hAU c2.2.1 e4
        have hcb := g3.mpr (room.elim (fun z => absurd z r100) id)
        refine ⟨.inl 5, 0, 2, g, U, nu, ki, w, d, _, _, dl, dw, hl, hw, kk, nn, ai, as, tws, i1, l1, st1, ob, pa, al, s1, had, hadMany, has, hasMany, kind, more', number, olds', queue', twin, va_up under' x 1, used, ob2, ec, ?_, lm_A.thr rfl (by decide), h, hR, hQ, a2, c2, by omega, by omega⟩
        unfold fX10_copy
        rw [qn_place h hQ h1 hx hUx ex, pr_b, tl_gt ⟨by omega, by omega⟩, if_neg (by omega), pr_b, qn_fails0, pr_b]
        dsimp only
        rw [tl_gt (show tl_R (0 : Int) by decide), if_pos rfl, qn_place h hQ h1 hx hUx ex, pr_b, d1, pr_b, tl_gt iX, e1, pr_b]
        dsimp only
        rw [tl_gt ⟨⟨by omega, by omega⟩, by decide⟩, if_neg (by omega), Int.toNat_natCast, g1, pr_b]
        dsimp only
        rw [tl_gt (show tl_R cb from ⟨by omega, by omega⟩), if_neg (by omega), pr_b]
        dsimp only
        rw [qn_fails1 (by decide) (by decide), pr_b]
        dsimp only
        rw [tl_gt (show tl_R (1 : Int) by decide), if_neg (show ¬ (1 : Int) = 0 by decide)]
    · have f0 : fb ≠ 0 := fun z => room (f3.mp z)
      rw [if_neg f0] at ec
      have r100 : ¬ 100 < hs_n U + B.length := fun z => room (Or.inl z)
      have hcr : ¬ hk_cr nl fo ru B d := fun z => room (Or.inr z)
      obtain ⟨cb, more', g1, g2, g3⟩ := hq_crowd (t := 0) (o := ob2) (m := g) (pm := pm) (km := km) (lv := lv2) (ra := ra) (more := more) hT h q2 q3 q6 hund hAU c2.2.1 e4
      have hcb : cb = 0 := g2.elim id (fun z => absurd (g3.mp z) hcr)
      obtain ⟨tw0, t1, t2⟩ := qk_L3 tl_N 0 twin (by omega) (by unfold tl_N; omega)
      rw [show ((0 : Nat) : Int) = (0 : Int) from rfl] at t1
      obtain ⟨U', nu', ki', tw, ob', ob2', kk', nn', hadMany1, hasMany1, kind', number', used', tw1', tw2', k1, k2, k3, k4, k5, k6, k7, k8, k9⟩ := hk_adm c2 e4 (lk := (nl : Int)) (pm := pm) (km := km) (lv := lv2) (ra := ra) (g0 := g) (z18 := ((0 : Int), (0 : Int))) B.length tl_N tl_N 0 U nu ki g ob ob2 kk nn hadMany hasMany kind number used tws tw0 (by omega) (by unfold tl_N; omega) (by unfold tl_N; omega) (by omega) hg0 (by omega) (by omega) (fun o ho => (hAU o (by rw [List.drop_zero] at ho; exact ho)).2) h hR hQ
      rw [List.drop_zero] at k6 k7 k9
      rw [show ((0 : Nat) : Int) = (0 : Int) from rfl] at k1 k2
      have hK : hk_K B tw := ⟨c2.2.1, fun o ho => ⟨(k6 o ho).2.2.1, fun z => by
        have h9 := (k6 o ho).2.2.2.1
        rw [(hAU _ z).2] at h9
        cases h9⟩, fun o ho o2 ho2 e => (k6 o ho).2.2.2.2.2.2 o2 ho2 e⟩
      have hA3 : ∀ o ∈ B, o < 100 ∧ U' o = true ∧ U' (tw o) = true := fun o ho => ⟨(hAU o ho).1, (k8 o (hAU o ho).2).1, (k6 o ho).2.2.2.2.1⟩
      have h00 : ∀ l, ∀ o ∈ B, w l (tw o) = [] ∧ d l (tw o) = [] := fun l o ho => h.none (k6 o ho).2.2.2.1 l
      have hd100 : ∀ l s, 100 ≤ s → d l s = [] := fun l s hs => List.eq_nil_iff_forall_not_mem.mpr (fun v hv => by
        have := (h.row l v s ((h.tw l v s).mpr hv)).2.2.1
        omega)
      have ht2 : ∀ y, y < 100 → tw2' y = if y ∈ B then ((tw y : Nat) : Int) else -1 := by
        intro y hy
        by_cases z : y ∈ B
        · rw [if_pos z]
          exact (k6 y z).2.1
        · rw [if_neg z, (k7 y z).2, t2 y hy, if_pos (Nat.zero_le _)]
      obtain ⟨kr1, kr2, kr3, kr4, kr5, kr6⟩ := k4
      obtain ⟨kq1, kq2, kq3, kq4, kq5, kq6⟩ := k5
      obtain ⟨pa', dl', dw', hl', hw', m1, m2, m3, m4⟩ := ck_L2 (ob := ob') c2 hK (fun o ho => (k6 o ho).1) hn hfr h00 (fun l s => (h.len l s).2) hd100 hcr tl_N 0 pa dl dw hl hw (Nat.zero_le _) (by unfold tl_N; omega) r3 r4 r2
      obtain ⟨had', hadMany', has', hasMany', n1, n2, n3⟩ := qk_L5 (g := g + (B.length : Int)) (ob := ob2') (pm := pm) (km := km) (lv := lv2) (ra := ra) (z18 := ((0 : Int), (0 : Int))) hK hA3 kq6 e4 ht2 hT h00 (fun l s => (h.len l s).2) hd100 (fun l s hs => (k3.none hs l).2) hcr rfl tl_N 0 had hadMany1 has hasMany1 (Nat.zero_le _) (by unfold tl_N; omega) kq2 kq3
      rw [show ((0 : Nat) : Int) = (0 : Int) from rfl] at m1 n1
      rw [(hk_Wl_nl h (A := B) (tw := tw)).1] at m3 m4 n3
      rw [(hk_Wl_nl h (A := B) (tw := tw)).2] at m2 n2
      have hxB : x ∈ B := (c4 x).mpr hF.h0
      obtain ⟨x1, x2, x3, x4, x5, x6, _⟩ := k6 x hxB
      refine ⟨.inr (nu' (tw x)), nu' (tw x), 0, g + (B.length : Int), U', nu', ki', hk_Wf fo ru B tw w, hk_Df fo ru B tw d, _, _, dl', dw', hl', hw', kk', nn', ai, as, tw1', i1, l1, st1, ob', pa', al, s1, had', hadMany', has', hasMany', kind', more', number', olds', queue', tw2', va_up under' x 1, used', ob2', ?_, ?_, lm_A.ret rfl rfl, k3.copy hK hA3 h00 hcr, ⟨kr1, m4, m2, m3, kr5, kr6⟩, ⟨kq1, n2, n3, kq4, kq5, kq6⟩, a2, c2, by omega, by omega⟩
      · rw [ec]
        unfold fX7_build fX4_length
        rw [k1, pr_b]
        dsimp only
        rw [m1, pr_b]
        dsimp only
        rw [pr_b, pr_b]
        dsimp only
        rw [ck_twin c2 (fun o ho => (k6 o ho).1) hxB, pr_b, ph_numberOf x3, pr_b, kr6 _ x3, if_pos x5, hal]
      · unfold fX10_copy
        rw [qn_place h hQ h1 hx hUx ex, pr_b, tl_gt ⟨by omega, by omega⟩, if_neg (by omega), pr_b, qn_fails0, pr_b]
        dsimp only
        rw [tl_gt (show tl_R (0 : Int) by decide), if_pos rfl, qn_place h hQ h1 hx hUx ex, pr_b, d1, pr_b, tl_gt iX, e1, pr_b]
        dsimp only
        rw [tl_gt ⟨⟨by omega, by omega⟩, by decide⟩, if_neg (by omega), Int.toNat_natCast, g1, pr_b]
        dsimp only
        rw [tl_gt (show tl_R cb from ⟨by omega, by omega⟩), if_pos hcb, pr_b]
        dsimp only
        rw [qn_fails0, pr_b]
        dsimp only
        rw [tl_gt (show tl_R (0 : Int) by decide), if_pos rfl, t1, pr_b, k2, pr_b]
        dsimp only
        rw [n1, pr_b]
        dsimp only
        rw [tl_gt iX.1, tl_gt ⟨by omega, by omega⟩, x2, Int.toNat_natCast, (kq5 _ x3).2 x5]
  · refine ⟨.inl 1, 0, 1, g, U, nu, ki, w, d, R, O, dl, dw, hl, hw, kk, nn, oi, os, tws, ri, rs, st, ob, pa, ol, rl, had, hadMany, has, hasMany, kind, more, number, olds, queue, twin, under, used, ob2, ?_, ?_, lm_A.thr rfl (by decide), h, hR, hQ, hS, hO, by omega, by omega⟩
    · unfold fX9_copy
      rw [cn_noslot h (by omega) hR h1 hno, pr_b]
    · unfold fX10_copy
      rw [qn_noplace hQ h1 hno, pr_b, tl_gt (by decide), if_pos (by decide), pr_b, qn_fails1 (by decide) (by decide), pr_b]
      dsimp only
      rw [tl_gt (show tl_R (1 : Int) by decide), if_neg (show ¬ (1 : Int) = 0 by decide)]
