/-! the way: from slot to slot, each time to the least that is one step nearer -/
theorem pl_least.congr {P Q : Nat → Prop} {num nu : Nat → Int} {xs : List Nat} {r : Int} (h : pl_least P num xs r) (e : ∀ x ∈ xs, num x = nu x) (f : ∀ x ∈ xs, P x ↔ Q x) : pl_least Q nu xs r := by
  rcases h with ⟨h1, h2⟩ | ⟨k, h1, h2, h3, h4⟩
  · exact Or.inl ⟨h1, fun x hx z => h2 x hx ((f x hx).mpr z)⟩
  · exact Or.inr ⟨k, h1, h2, (f k h2).mp h3, fun x hx z => by rw [← e k h2, ← e x hx]; exact h4 x hx ((f x hx).mpr z)⟩
theorem pl_fold_is {P : Nat → Prop} [DecidablePred P] {num : Nat → Int} (xs : List Nat) : pl_least P num xs (pl_fold P num (-1) xs) := by
  have h := pl_fold_least (P := P) (num := num) xs [] (-1) (Or.inl ⟨rfl, fun x hx => by cases hx⟩)
  rw [List.nil_append] at h
  exact h
def pw_D (S : List Nat) (d : Nat → Int) (k : Nat) : Int := if k ∈ S then d k else -1
def pw_next (own : Nat → List Nat) (num D : Nat → Int) (x : Nat) : Nat := (pl_fold (fun y => D y = D x - 1) num (-1) (own x)).toNat
def pw_way (own : Nat → List Nat) (num D : Nat → Int) : Nat → Nat → List Nat
  | 0, _ => []
  | n + 1, x => pw_next own num D x :: pw_way own num D n (pw_next own num D x)
theorem pw_next_is {own : Nat → List Nat} {num D : Nat → Int} {x : Nat} (hex : ∃ y ∈ own x, D y = D x - 1) : pl_fold (fun y => D y = D x - 1) num (-1) (own x) = ((pw_next own num D x : Nat) : Int) ∧ pw_next own num D x ∈ own x ∧ D (pw_next own num D x) = D x - 1 := by
  obtain ⟨y, hy, hy2⟩ := hex
  rcases pl_fold_is (P := fun y => D y = D x - 1) (num := num) (own x) with ⟨_, h2⟩ | ⟨k, h1, h2, h3, _⟩
  · exact absurd hy2 (h2 y hy)
  · unfold pw_next
    rw [h1, Int.toNat_natCast]
    exact ⟨rfl, h2, h3⟩
theorem pw_way_len {own : Nat → List Nat} {num D : Nat → Int} : ∀ (n x : Nat), (pw_way own num D n x).length = n
  | 0, _ => rfl
  | n + 1, x => by
    rw [pw_way, List.length_cons, pw_way_len n]
/-- a row of numbers in an array that holds c of them -/
def pt_T (c : Nat) (L : List Int) (len : Int) (v : Nat → Int) : Prop := len = (L.length : Int) ∧ L.length ≤ c ∧ ∀ (i : Nat) (h : i < L.length), v i = L[i]
theorem pt_app {c : Nat} {L : List Int} {len : Int} {v : Nat → Int} (h : pt_T c L len v) (hc : L.length < c) (n : Int) : pt_T c (L ++ [n]) (len + 1) (va_up v len.toNat n) := by
  obtain ⟨h1, h2, h3⟩ := h
  refine ⟨by rw [h1, List.length_append]; simp, by rw [List.length_append, List.length_singleton]; exact hc, fun i hi => ?_⟩
  rw [h1, Int.toNat_natCast]
  rw [List.length_append, List.length_singleton] at hi
  by_cases q : i = L.length
  · subst q
    rw [va_up_self]
    simp
  · rw [va_up_ne _ _ q, h3 i (by omega), List.getElem_append_left]
theorem pt_add {L : List Int} {len : Int} {v : Nat → Int} (h : pt_T 100 L len v) (hc : L.length < 100) (n : Int) : fX6_add len v n = some (va_up v len.toNat n, len + 1) := by
  have h1 := h.1
  unfold fX6_add
  rw [tl_gt ⟨⟨by omega, by omega⟩, by decide⟩, if_pos (by omega), tl_gt ⟨by omega, by omega⟩]
theorem pw_leastStep {nl x : Nat} {rules : Nat → Int} {Rw : Nat → Nat → List Nat} {len : Nat → Int} {w : Nat → Int64} (h : pr_R Rw len w) (hn : nl ≤ 10) (hr : ∀ l, l < nl → tl_R (rules l)) (hx : x < 100) {S T0 : List Nat} {rl spl o p p3 : Int} {rins rlst spi sps st cn nu D : Nat → Int} (hS : ps_S S rl rins rlst) (hT : ps_S T0 spl spi sps) (hc : ∀ k, k < 100 → tl_R (cn k)) (hst : ∀ k ∈ S, tl_R (st k)) (hp3 : tl_R p3) (e3 : p3 = D x - 1) (eD : ∀ y, (if y ∈ S then st y else -1) = D y) (hU : ∀ y ∈ pw_own nl rules Rw x, cn y = nu y) (inj : ∀ y ∈ pw_own nl rules Rw x, ∀ z ∈ pw_own nl rules Rw x, nu y = nu z → y = z) (hex : ∃ y ∈ pw_own nl rules Rw x, D y = D x - 1) :
    ∃ (T : List Nat) (ins' lst' : Nat → Int) (sl' : Int), fX8_leastStep rl rins spl spi sps st (nl : Int) rules o p len w cn (x : Int) p3 = some (((pw_next (pw_own nl rules Rw) nu D x : Nat) : Int), ins', lst', sl') ∧ ps_S T sl' ins' lst' := by
  obtain ⟨ins1, h1, h2⟩ := ps_clear hT
  obtain ⟨ins2, lst2, sl2, h3, h4⟩ := pw_addOwning (s := x) h hn hx hr (h2 sps)
  have hm : ∀ y, y ∈ pr_addAll [] (pw_own nl rules Rw x) ↔ y ∈ pw_own nl rules Rw x := fun y => by
    rw [pr_mem_addAll]
    simp
  have h5 := pw_least_L (o := o) (p := p) (z3 := (ins2, lst2, sl2)) hS h4 hc hst hp3 tl_N 0 (-1) (Nat.zero_le _) (by unfold tl_N; have := h4.le; omega) (Or.inl rfl)
  rw [show ((0 : Nat) : Int) = (0 : Int) from rfl, List.drop_zero] at h5
  have h6 := (pl_fold_is (P := fun y => (if y ∈ S then st y else -1) = p3) (num := cn) (pr_addAll [] (pw_own nl rules Rw x))).congr (nu := nu) (Q := fun y => D y = D x - 1) (fun y hy => hU y ((hm y).mp hy)) (fun y _ => by rw [eD y, e3])
  have h7 := pl_fold_is (P := fun y => D y = D x - 1) (num := nu) (pw_own nl rules Rw x)
  have h8 := h6.one h7 (fun y => by rw [hm y]) (fun y hy z hz => inj y ((hm y).mp hy) z ((hm z).mp hz))
  rw [(pw_next_is hex).1] at h8
  unfold fX8_leastStep fX1_has
  rw [h1, pr_b, pr_b, h3, pr_b, h5, pr_b, h8]
  exact ⟨_, ins2, lst2, sl2, rfl, h4⟩
theorem pw_find_L {nl : Nat} {rules : Nat → Int} {Rw : Nat → Nat → List Nat} {len : Nat → Int} {w : Nat → Int64} (h : pr_R Rw len w) (hn : nl ≤ 10) (hr : ∀ l, l < nl → tl_R (rules l)) {S : List Nat} {o p : Int} {cn nu D : Nat → Int} {z2 : (Nat → Int) × (Nat → Int) × (Nat → Int) × Int} (hS : ps_S S z2.2.2.2 z2.1 z2.2.1) (hc : ∀ k, k < 100 → tl_R (cn k)) (hst : ∀ k ∈ S, tl_R (z2.2.2.1 k)) (eD : ∀ y, (if y ∈ S then z2.2.2.1 y else -1) = D y) (hU : ∀ x ∈ S, ∀ y ∈ pw_own nl rules Rw x, cn y = nu y) (inj : ∀ x ∈ S, ∀ y ∈ pw_own nl rules Rw x, ∀ z ∈ pw_own nl rules Rw x, nu y = nu z → y = z) (hex : ∀ x ∈ S, 0 < D x → ∃ y ∈ pw_own nl rules Rw x, D y = D x - 1) :
    ∀ (m n x : Nat) (T : List Nat) (L : List Int) (spl tl : Int) (spi sps tv : Nat → Int), m + 1 ≤ n → m ≤ 100 → D x = (m : Int) → x ∈ S → L.length + m ≤ 100 → ps_S T spl spi sps → pt_T 100 L tl tv →
      ∃ (T' : List Nat) (spl' tl' : Int) (spi' sps' tv' : Nat → Int), fX8_findWay_L1 (nl : Int) rules o p len w cn z2 n ((m : Int) - 1) (x : Int) spl spi sps tl tv = some (spl', spi', sps', tl', tv') ∧ ps_S T' spl' spi' sps' ∧ pt_T 100 (L ++ (pw_way (pw_own nl rules Rw) nu D m x).map nu) tl' tv' := by
  intro m
  induction m with
  | zero =>
    intro n x T L spl tl spi sps tv hn2 hm hD hx hL hT hP
    obtain ⟨n, rfl⟩ : ∃ k, n = k + 1 := ⟨n - 1, by omega⟩
    rw [fX8_findWay_L1, tl_gt (by decide), if_pos (by decide)]
    exact ⟨T, spl, tl, spi, sps, tv, rfl, hT, by rw [pw_way, List.map_nil, List.append_nil]; exact hP⟩
  | succ m ih =>
    intro n x T L spl tl spi sps tv hn2 hm hD hx hL hT hP
    obtain ⟨n, rfl⟩ : ∃ k, n = k + 1 := ⟨n - 1, by omega⟩
    have hx100 := hS.2.2.1 x hx
    have he := hex x hx (by omega)
    obtain ⟨T2, i2, l2, s2, h1, h2⟩ := pw_leastStep (o := o) (p := p) (p3 := ((m + 1 : Nat) : Int) - 1) (nu := nu) h hn hr hx100 hS hT hc hst ⟨by omega, by omega⟩ (by omega) eD (hU x hx) (inj x hx) he
    obtain ⟨_, hy1, hy2⟩ := pw_next_is (num := nu) he
    have hyS : pw_next (pw_own nl rules Rw) nu D x ∈ S := by
      have hq := eD (pw_next (pw_own nl rules Rw) nu D x)
      by_cases z : pw_next (pw_own nl rules Rw) nu D x ∈ S
      · exact z
      · rw [if_neg z] at hq
        omega
    have hy100 := hS.2.2.1 _ hyS
    have hlt : L.length < 100 := by omega
    rw [fX8_findWay_L1, tl_gt ⟨by omega, by omega⟩, if_neg (by omega), h1, pr_b, ph_numberOf hy100, pr_b, pt_add hP hlt, pr_b, show ((m + 1 : Nat) : Int) - 1 + (-1) = (m : Int) - 1 by omega, hU x hx _ hy1]
    obtain ⟨T3, s3, t3, i3, l3, v3, h5, h6, h7⟩ := ih n _ T2 (L ++ [nu (pw_next (pw_own nl rules Rw) nu D x)]) s2 (tl + 1) i2 l2 (va_up tv tl.toNat (nu (pw_next (pw_own nl rules Rw) nu D x))) (by omega) (by omega) (by omega) hyS (by rw [List.length_append, List.length_singleton]; omega) h2 (pt_app hP hlt _)
    refine ⟨T3, s3, t3, i3, l3, v3, h5, h6, ?_⟩
    rw [pw_way, List.map_cons]
    rw [List.append_assoc] at h7
    exact h7
