/-! Walk.findWay whole, and the reference's walk -/
theorem pw_findWay {nl : Nat} {rules : Nat → Int} {Rw Rd : Nat → Nat → List Nat} {len dlen : Nat → Int} {w dw : Nat → Int64} (h : pr_R Rw len w) (hd : pr_R Rd dlen dw) (hn : nl ≤ 10) (hr : ∀ l, l < nl → tl_R (rules l)) {o p : Int} {cn nu D : Nat → Int} (hc : ∀ k, k < 100 → tl_R (cn k)) {from' to' : Nat} (hf : from' < 100) (ht : to' < 100) {R T : List Nat} {L : List Int} {rl spl tl : Int} {ri rs spi sps st tv : Nat → Int} (hR : ps_S R rl ri rs) (hT : ps_S T spl spi sps) (hL : pt_T 100 L tl tv)
    (eD : D = pw_D (pw_spread (pw_own nl rules Rd) to').1 (pw_spread (pw_own nl rules Rd) to').2)
    (hb : ∀ x, x < 100 → ∀ y ∈ pw_own nl rules Rd x, y < 100)
    (tw : ∀ x ∈ (pw_spread (pw_own nl rules Rd) to').1, ∀ y ∈ pw_own nl rules Rd x, x ∈ pw_own nl rules Rw y)
    (h0 : ∀ x ∈ (pw_spread (pw_own nl rules Rd) to').1, cn x = nu x)
    (hU : ∀ x ∈ (pw_spread (pw_own nl rules Rd) to').1, ∀ y ∈ pw_own nl rules Rw x, cn y = nu y) (inj : ∀ x ∈ (pw_spread (pw_own nl rules Rd) to').1, ∀ y ∈ pw_own nl rules Rw x, ∀ z ∈ pw_own nl rules Rw x, nu y = nu z → y = z) :
    ∃ (R' T' : List Nat) (tv' ri' rs' spi' sps' st' : Nat → Int) (tl' rl' spl' : Int), fX8_findWay rl ri rs spl spi sps st (nl : Int) rules o p dlen dw len w cn tl tv (from' : Int) (to' : Int) = some (if 0 ≤ D from' then 1 else 0, tv', ri', rs', spi', sps', st', tl', rl', spl') ∧ ps_S R' rl' ri' rs' ∧ ps_S T' spl' spi' sps' ∧ pt_T 100 (if 0 ≤ D from' then nu from' :: (pw_way (pw_own nl rules Rw) nu D (D from').toNat from').map nu else L) tl' tv' := by
  have F := pw_spread_F hb ht
  obtain ⟨ri2, rs2, st2, rl2, h1, h2, h3⟩ := pw_spread_eq hd hn hr hR st ht
  have e2 : ∀ y, (if y ∈ (pw_spread (pw_own nl rules Rd) to').1 then st2 y else -1) = D y := by
    intro y
    rw [eD]
    unfold pw_D
    by_cases z : y ∈ (pw_spread (pw_own nl rules Rd) to').1
    · rw [if_pos z, if_pos z, h3 y z]
    · rw [if_neg z, if_neg z]
  have hlen := h2.le
  unfold fX8_findWay fX1_had
  rw [pr_b, h1, pr_b, ps_holds h2 hf, pr_b]
  by_cases z : from' ∈ (pw_spread (pw_own nl rules Rd) to').1
  · have hD := e2 from'
    rw [if_pos z, h3 _ z] at hD
    have hge := F.ge _ z
    have hle := F.le _ z
    have hDn : ∃ m : Nat, D from' = (m : Int) ∧ m < 100 := ⟨(D from').toNat, by omega, by omega⟩
    obtain ⟨m, hm, hm2⟩ := hDn
    rw [if_pos z, tl_gt (by decide), if_neg (by decide), if_pos (by omega), if_pos (by omega)]
    unfold fX6_clear
    have hL0 : pt_T 100 [] 0 tv := ⟨rfl, by simp, fun i hi => by simp at hi⟩
    rw [pr_b, ph_numberOf hf, pr_b, pt_add hL0 (by simp), pr_b, pw_stepsTo h2 hf, if_pos z, show (ri2, rs2, st2, rl2).2.2.1 from' = (m : Int) from by rw [← hm, ← hD]; exact h3 _ z, pr_b, hm, h0 _ z, Int.toNat_natCast]
    have hL1 := pt_app hL0 (by simp) (nu from')
    obtain ⟨T3, s3, t3, i3, l3, v3, h5, h6, h7⟩ := pw_find_L (o := o) (p := p) (nu := nu) (D := D) (z2 := (ri2, rs2, st2, rl2)) h hn hr h2 hc (fun k hk => by
      have g1 := F.ge k hk
      have g2 := F.le k hk
      show tl_R (st2 k)
      rw [h3 k hk]
      exact ⟨by omega, by omega⟩) e2 hU inj (fun x hx h0x => by
        have hDx := e2 x
        rw [if_pos hx, h3 _ hx] at hDx
        rcases F.fr x hx with r | ⟨y, r1, r2, r3⟩
        · rw [r, F.d0] at hDx
          rw [r] at h0x
          omega
        · have hDy := e2 y
          rw [if_pos r1, h3 _ r1] at hDy
          exact ⟨y, tw y r1 x r2, by omega⟩) m tl_N from' T ([] ++ [nu from']) spl (0 + 1) spi sps _ (by unfold tl_N; omega) (by omega) hm z (by simp; omega) hT hL1
    rw [h5, pr_b]
    exact ⟨_, T3, v3, ri2, rs2, i3, l3, st2, t3, rl2, s3, rfl, h2, h6, h7⟩
  · have hD := e2 from'
    rw [if_neg z] at hD
    rw [if_neg z, tl_gt (by decide), if_pos rfl, if_neg (by omega), if_neg (by omega)]
    exact ⟨_, T, tv, ri2, rs2, spi, sps, st2, tl, rl2, spl, rfl, h2, hT, hL⟩
theorem qw_add {t lk o m km lv ra : Int} {L : List Int} {len : Int} {v num : Nat → Int} (h : pt_T 101 L len v) (hc : L.length < 101) {x : Nat} (hx : x < 100) : fX10_add t lk o m len km lv ra num v (x : Int) = some (va_up v len.toNat (num x), len + 1) := by
  have h1 := h.1
  unfold fX10_add
  rw [tl_gt ⟨by omega, by omega⟩, tl_gt ⟨by omega, by omega⟩, Int.toNat_natCast]
theorem qw_L1 {t o m km lv ra : Int} {nl : Nat} {rule has hasMany rn nu steps D : Nat → Int} {Rw : Nat → Nat → List Nat} (h : qr_R Rw hasMany has) (hn10 : nl ≤ 10) (hr : ∀ l, l < nl → tl_R (rule l)) (hn : ∀ k, k < 100 → tl_R (rn k)) (hst : ∀ k, k < 100 → steps k = D k) {S : List Nat} (hDb : ∀ k, k < 100 → -1 ≤ D k ∧ D k ≤ 100) (hS : ∀ x, x < 100 → (x ∈ S ↔ 0 ≤ D x)) (hS1 : ∀ x ∈ S, x < 100) (hb : ∀ x, x < 100 → ∀ y ∈ pw_own nl rule Rw x, y < 100) (hU : ∀ x ∈ S, ∀ y ∈ pw_own nl rule Rw x, rn y = nu y) (inj : ∀ x ∈ S, ∀ y ∈ pw_own nl rule Rw x, ∀ z ∈ pw_own nl rule Rw x, nu y = nu z → y = z) (hex : ∀ x ∈ S, 0 < D x → ∃ y ∈ pw_own nl rule Rw x, D y = D x - 1) :
    ∀ (j n x : Nat) (L : List Int) (len : Int) (v : Nat → Int), j + 1 ≤ n → D x = (j : Int) → x ∈ S → L.length + j ≤ 101 → pt_T 101 L len v →
      ∃ (len' : Int) (v' : Nat → Int), fX10_walk_L1 t (nl : Int) o m km lv ra has hasMany rn rule steps n (x : Int) len v = some (len', v') ∧ pt_T 101 (L ++ (pw_way (pw_own nl rule Rw) nu D j x).map nu) len' v' := by
  intro j
  induction j with
  | zero =>
    intro n x L len v hn2 hD hx hL hP
    obtain ⟨n, rfl⟩ : ∃ k, n = k + 1 := ⟨n - 1, by omega⟩
    have hx100 := hS1 x hx
    rw [fX10_walk_L1, tl_gt ⟨by omega, by omega⟩, Int.toNat_natCast, hst x hx100, hD, tl_gt (by decide), if_neg (by omega)]
    exact ⟨len, v, rfl, by rw [pw_way, List.map_nil, List.append_nil]; exact hP⟩
  | succ j ih =>
    intro n x L len v hn2 hD hx hL hP
    obtain ⟨n, rfl⟩ : ∃ k, n = k + 1 := ⟨n - 1, by omega⟩
    have hx100 := hS1 x hx
    have hbx := hDb x hx100
    have he := hex x hx (by omega)
    obtain ⟨_, hy1, hy2⟩ := pw_next_is (num := nu) he
    have hy100 := hb x hx100 _ hy1
    have hyS : pw_next (pw_own nl rule Rw) nu D x ∈ S := (hS _ hy100).mpr (by omega)
    have h1 := qw_L2 (num := rn) (steps := steps) h hn10 hr hx100 hn (fun k hk => by
      have := hDb k hk
      rw [hst k hk]
      exact ⟨by omega, by omega⟩) (by rw [hst x hx100]; exact ⟨by omega, by omega⟩) tl_N nl 0 (-1) (by omega) (by unfold tl_N; omega) (Or.inl rfl)
    rw [show ((0 : Nat) : Int) = (0 : Int) from rfl] at h1
    have h6 := (pl_fold_is (P := fun y => steps y = steps x - 1) (num := rn) (pw_own nl rule Rw x)).congr (nu := nu) (Q := fun y => D y = D x - 1) (fun y hy => hU x hx y hy) (fun y hy => by rw [hst y (hb x hx100 y hy), hst x hx100])
    have h7 := pl_fold_is (P := fun y => D y = D x - 1) (num := nu) (pw_own nl rule Rw x)
    have h8 := h6.one h7 (fun y => Iff.rfl) (inj x hx)
    rw [(pw_next_is he).1] at h8
    have h9 : fX10_walk_L2 (nl : Int) has hasMany rn rule steps (x : Int) tl_N 0 (-1) = some ((pw_next (pw_own nl rule Rw) nu D x : Nat) : Int) := by
      rw [h1]
      exact congrArg some h8
    have hlt : L.length < 101 := by omega
    rw [fX10_walk_L1, tl_gt ⟨by omega, by omega⟩, Int.toNat_natCast, hst x hx100, tl_gt ⟨by omega, by omega⟩, if_pos (by omega), h9, pr_b, qw_add hP hlt hy100, pr_b, hU x hx _ hy1]
    obtain ⟨len3, v3, h10, h11⟩ := ih n _ (L ++ [nu (pw_next (pw_own nl rule Rw) nu D x)]) (len + 1) (va_up v len.toNat (nu (pw_next (pw_own nl rule Rw) nu D x))) (by omega) (by omega) hyS (by rw [List.length_append, List.length_singleton]; omega) (pt_app hP hlt _)
    refine ⟨len3, v3, h10, ?_⟩
    rw [pw_way, List.map_cons]
    rw [List.append_assoc] at h11
    exact h11
theorem qw_walk {t o m pm km lv ra : Int} {nl : Nat} {rule has hasMany rn nu steps D pv : Nat → Int} {Rw : Nat → Nat → List Nat} (h : qr_R Rw hasMany has) (hn10 : nl ≤ 10) (hr : ∀ l, l < nl → tl_R (rule l)) (hn : ∀ k, k < 100 → tl_R (rn k)) (hst : ∀ k, k < 100 → steps k = D k) {S : List Nat} (hDb : ∀ k, k < 100 → -1 ≤ D k ∧ D k < 100) (hS : ∀ x, x < 100 → (x ∈ S ↔ 0 ≤ D x)) (hS1 : ∀ x ∈ S, x < 100) (hb : ∀ x, x < 100 → ∀ y ∈ pw_own nl rule Rw x, y < 100) (h0 : ∀ x ∈ S, rn x = nu x) (hU : ∀ x ∈ S, ∀ y ∈ pw_own nl rule Rw x, rn y = nu y) (inj : ∀ x ∈ S, ∀ y ∈ pw_own nl rule Rw x, ∀ z ∈ pw_own nl rule Rw x, nu y = nu z → y = z) (hex : ∀ x ∈ S, 0 < D x → ∃ y ∈ pw_own nl rule Rw x, D y = D x - 1) {p : Nat} (hp : p ∈ S) :
    ∃ (len' : Int) (v' : Nat → Int), fX10_walk t (nl : Int) o m pm km lv ra has hasMany rn pv rule steps (p : Int) = some (v', len') ∧ pt_T 101 (nu p :: (pw_way (pw_own nl rule Rw) nu D (D p).toNat p).map nu) len' v' := by
  have hp100 := hS1 p hp
  have hge := (hS p hp100).mp hp
  have hbp := hDb p hp100
  have hL0 : pt_T 101 [] 0 pv := ⟨rfl, by simp, fun i hi => by simp at hi⟩
  have hL1 := pt_app hL0 (by simp) (nu p)
  obtain ⟨len', v', h1, h2⟩ := qw_L1 (t := t) (o := o) (m := m) (km := km) (lv := lv) (ra := ra) h hn10 hr hn hst (S := S) (fun k hk => ⟨(hDb k hk).1, by have := (hDb k hk).2; omega⟩) hS hS1 hb hU inj hex (D p).toNat tl_N p ([] ++ [nu p]) (0 + 1) _ (by unfold tl_N; omega) (by omega) hp (by simp; omega) hL1
  unfold fX10_walk
  rw [qw_add hL0 (by simp) hp100, pr_b, h0 p hp, h1, pr_b]
  exact ⟨len', v', rfl, h2⟩
