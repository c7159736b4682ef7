/-! the reference's measure: links, queue, whole -/
theorem qm_S.congr {S : List Nat} {D D2 : Nat → Int} {many : Int} {queue steps : Nat → Int} (h : qm_S S D many queue steps) (e : ∀ k ∈ S, D k = D2 k) : qm_S S D2 many queue steps := by
  obtain ⟨h1, h2, h3, h4, h5, h6⟩ := h
  refine ⟨h1, h2, h3, h4, fun k hk => ?_, fun k hk => by rw [← e k hk]; exact h6 k hk⟩
  rw [h5 k hk]
  by_cases hm : k ∈ S
  · rw [if_pos hm, if_pos hm, e k hm]
  · rw [if_neg hm, if_neg hm]
theorem pr_addAll_sub {S xs : List Nat} {k : Nat} (h : k ∈ S) : k ∈ pr_addAll S xs := by
  obtain ⟨t, ht⟩ := pr_addAll_pre xs S
  rw [ht]
  exact List.mem_append_left _ h
theorem qm_L3 {nl y : Nat} {rule gone had hadMany x6 : Nat → Int} {Rw : Nat → Nat → List Nat} {p2 x4 far : Int} {D : Nat → Int} (h : qr_R Rw hadMany had) (hn : nl ≤ 10) (hr : ∀ l, l < nl → tl_R (rule l)) (hy : y < 100) (hp2 : tl_R p2) (hg : ∀ k, k < 100 → tl_R (gone k)) (e6 : x6 x4.toNat = (y : Int)) (hfar : D y + 1 = far) (hfb : 0 ≤ far ∧ far < 1000) :
    ∀ (n m l : Nat) (S : List Nat) (many : Int) (queue steps : Nat → Int), l + m = nl → m + 1 ≤ n → y ∈ S → (∀ k, k < 100 → k ∉ S → D k = far) → qm_S S D many queue steps →
      ∃ (many' : Int) (queue' steps' : Nat → Int), fX10_measure_L3 (nl : Int) gone had hadMany rule p2 x4 x6 n (l : Int) many queue steps = some (many', queue', steps') ∧ qm_S (pr_addAll S ((pw_from rule Rw y m l).filter (qm_ok p2 gone))) D many' queue' steps' := by
  intro n
  induction n with
  | zero => intro m l S many queue steps h1 h2; omega
  | succ n ih =>
    intro m l S many queue steps hlm hn2 hyS hD hS
    rw [fX10_measure_L3, tl_gt ⟨⟨by omega, by omega⟩, ⟨by omega, by omega⟩⟩]
    cases m with
    | zero =>
      rw [if_neg (by omega)]
      exact ⟨many, queue, steps, rfl, hS⟩
    | succ m =>
      rw [if_pos (by omega), tl_gt ⟨by omega, by omega⟩, Int.toNat_natCast, tl_gt ⟨hr l (by omega), by decide⟩, show (l : Int) + 1 = ((l + 1 : Nat) : Int) by omega, pw_from, List.filter_append, pr_addAll_app]
      by_cases hq : rule l = 1
      · obtain ⟨h1, h2, h3, h4⟩ := h l y (by omega) hy
        obtain ⟨m2, q2, s2, h5, h6⟩ := qm_L4 (gone := gone) (p2 := p2) (x6 := x6) (x4 := x4) (l := l) (by omega) hy hp2 hg e6 h1 h2 h4 h3 hfar hfb tl_N 0 S many queue steps (Nat.zero_le _) (by unfold tl_N; omega) hyS hD hS
        rw [show ((0 : Nat) : Int) = (0 : Int) from rfl] at h5
        rw [List.drop_zero] at h6
        rw [if_pos hq, h5, pr_b, if_pos hq]
        exact ih m (l + 1) _ m2 q2 s2 (by omega) (by omega) (pr_addAll_sub hyS) (fun k hk hk2 => hD k hk (fun z => hk2 (pr_addAll_sub z))) h6
      · rw [if_neg hq, if_neg hq]
        exact ih m (l + 1) _ many queue steps (by omega) (by omega) hyS hD hS
/-- what a slot owns, and the walk may enter -/
def qm_own (nl : Nat) (rule : Nat → Int) (Rw : Nat → Nat → List Nat) (p2 : Int) (gone : Nat → Int) (s : Nat) : List Nat := (pw_own nl rule Rw s).filter (qm_ok p2 gone)
theorem qm_L2 {nl : Nat} {rule gone had hadMany : Nat → Int} {Rw : Nat → Nat → List Nat} {p2 : Int} (h : qr_R Rw hadMany had) (hn : nl ≤ 10) (hr : ∀ l, l < nl → tl_R (rule l)) (hp2 : tl_R p2) (hg : ∀ k, k < 100 → tl_R (gone k)) :
    ∀ (n f i : Nat) (S : List Nat) (many : Int) (queue steps d : Nat → Int), i + f = 100 → f + 1 ≤ n → i ≤ S.length → (∀ k ∈ S, d k ≤ (i : Int)) → qm_S S d many queue steps →
      ∃ (many' : Int) (queue' steps' : Nat → Int), fX10_measure_L2 (nl : Int) gone had hadMany rule p2 n (i : Int) many queue steps = some (queue', steps') ∧ qm_S (pw_bfs (qm_own nl rule Rw p2 gone) f i S d).1 (pw_bfs (qm_own nl rule Rw p2 gone) f i S d).2 many' queue' steps' := by
  intro n
  induction n with
  | zero => intro f i S many queue steps d h1 h2; omega
  | succ n ih =>
    intro f i S many queue steps d hf hfn hi hd hS
    have h100 := hS.le
    have he := hS.1
    rw [fX10_measure_L2, tl_gt ⟨⟨by omega, by omega⟩, ⟨by omega, by omega⟩⟩]
    by_cases hq : i < S.length
    · cases f with
      | zero => omega
      | succ f =>
        have hyS := List.getElem_mem hq
        have hy := hS.2.2.1 _ hyS
        have hb := hS.2.2.2.2.2 _ hyS
        have hdi := hd _ hyS
        have e6 : queue ((i : Int)).toNat = ((S[i] : Nat) : Int) := by
          rw [Int.toNat_natCast]
          exact hS.2.2.2.1 i hq
        have hS2 : qm_S S (fun k => if k ∈ S then d k else d S[i] + 1) many queue steps := hS.congr (fun k hk => by simp only [if_pos hk])
        obtain ⟨m2, q2, s2, h1, h2⟩ := qm_L3 (x6 := queue) (x4 := (i : Int)) (far := d S[i] + 1) (D := fun k => if k ∈ S then d k else d S[i] + 1) h hn hr hy hp2 hg e6 (by simp only [if_pos hyS]) ⟨by omega, by omega⟩ tl_N nl 0 S many queue steps (by omega) (by unfold tl_N; omega) hyS (fun k _ hk => by simp only [if_neg hk]) hS2
        rw [show ((0 : Nat) : Int) = (0 : Int) from rfl] at h1
        rw [if_pos (by omega), tl_gt ⟨by omega, by omega⟩, h1, pr_b, pw_bfs, dif_pos hq]
        obtain ⟨t, ht⟩ := pr_addAll_pre (qm_own nl rule Rw p2 gone S[i]) S
        have hnd := h2.2.1
        have h2' : qm_S (pr_addAll S (qm_own nl rule Rw p2 gone S[i])) (fun k => if k ∈ S then d k else d S[i] + 1) m2 q2 s2 := h2
        have hnd2 := h2'.2.1
        have hdd : ∀ k ∈ pr_addAll S (qm_own nl rule Rw p2 gone S[i]), (if k ∈ S then d k else d S[i] + 1) = (if k ∈ (pr_addAll S (qm_own nl rule Rw p2 gone S[i])).drop S.length then d S[i] + 1 else d k) := by
          intro k hk
          rw [ht] at hk hnd2 ⊢
          rw [List.drop_left]
          by_cases hkS : k ∈ S
          · rw [if_pos hkS, if_neg (fun z => (List.nodup_append.mp hnd2).2.2 k hkS k z rfl)]
          · rw [if_neg hkS, if_pos ((List.mem_append.mp hk).elim (fun z => absurd z hkS) id)]
        have hlen : S.length ≤ (pr_addAll S (qm_own nl rule Rw p2 gone S[i])).length := by
          rw [ht, List.length_append]
          omega
        rw [show (i : Int) + 1 = ((i + 1 : Nat) : Int) by omega]
        refine ih f (i + 1) _ m2 q2 s2 _ (by omega) (by omega) (by omega) (fun k hk => ?_) (h2'.congr hdd)
        rw [← hdd k hk]
        by_cases hkS : k ∈ S
        · rw [if_pos hkS]
          have := hd k hkS
          omega
        · rw [if_neg hkS]
          omega
    · rw [if_neg (by omega)]
      refine ⟨many, queue, steps, rfl, ?_⟩
      cases f with
      | zero =>
        rw [pw_bfs]
        exact hS
      | succ f =>
        rw [pw_bfs, dif_neg hq]
        exact hS
theorem qm_L1 : ∀ (n i : Nat) (x : Nat → Int), i ≤ 100 → 101 ≤ i + n → ∃ x', fX10_measure_L1 n (i : Int) x = some x' ∧ ∀ k, k < 100 → x' k = if i ≤ k then -1 else x k := by
  intro n
  induction n with
  | zero => intro i x h1 h2; omega
  | succ n ih =>
    intro i x hi hn
    rw [fX10_measure_L1, tl_gt ⟨⟨by omega, by omega⟩, by decide⟩]
    by_cases hq : i < 100
    · rw [if_pos (by omega), tl_gt ⟨by omega, by omega⟩, Int.toNat_natCast, show (i : Int) + 1 = ((i + 1 : Nat) : Int) by omega]
      obtain ⟨x', h1, h2⟩ := ih (i + 1) (va_up x i (-1)) hq (by omega)
      refine ⟨x', h1, fun k hk => ?_⟩
      rw [h2 k hk]
      by_cases h3 : k = i
      · rw [h3, va_up_self, if_neg (by omega), if_pos (by omega)]
      · rw [va_up_ne _ _ h3]
        by_cases h4 : i + 1 ≤ k
        · rw [if_pos h4, if_pos (by omega)]
        · rw [if_neg h4, if_neg (by omega)]
    · rw [if_neg (by omega)]
      exact ⟨x, rfl, fun k hk => by rw [if_neg (by omega)]⟩
theorem qm_measure {t lk o m pm km lv ra : Int} {nl p : Nat} {rule gone had hadMany queue steps : Nat → Int} {Rw : Nat → Nat → List Nat} {p2 : Int} (hlk : lk = (nl : Int)) (h : qr_R Rw hadMany had) (hn : nl ≤ 10) (hr : ∀ l, l < nl → tl_R (rule l)) (hp2 : tl_R p2) (hg : ∀ k, k < 100 → tl_R (gone k)) (hp : p < 100) :
    ∃ (many' : Int) (queue' steps' : Nat → Int), fX10_measure t lk o m pm km lv ra gone had hadMany queue rule steps (p : Int) p2 = some (queue', steps') ∧ qm_S (pw_spread (qm_own nl rule Rw p2 gone) p).1 (pw_spread (qm_own nl rule Rw p2 gone) p).2 many' queue' steps' := by
  subst hlk
  obtain ⟨x', h1, h2⟩ := qm_L1 tl_N 0 steps (by omega) (by unfold tl_N; omega)
  rw [show ((0 : Nat) : Int) = (0 : Int) from rfl] at h1
  have hS : qm_S [p] (fun _ => 0) 1 (va_up queue ((0 : Int).toNat) (p : Int)) (va_up x' p 0) := by
    refine ⟨rfl, by simp, fun x hx => by rw [List.mem_singleton.mp hx]; exact hp, fun i hi => ?_, fun k hk => ?_, fun k _ => (by decide : (0 : Int) ≤ 0 ∧ (0 : Int) < 1000)⟩
    · have h0 : i = 0 := by simpa using hi
      subst h0
      exact va_up_self _ _ _
    · by_cases hkp : k = p
      · subst hkp
        rw [va_up_self, if_pos (List.mem_singleton.mpr rfl)]
      · rw [va_up_ne _ _ hkp, h2 k hk, if_pos (Nat.zero_le _), if_neg (fun z => hkp (List.mem_singleton.mp z))]
  obtain ⟨m3, q3, s3, h5, h6⟩ := qm_L2 h hn hr hp2 hg tl_N 100 0 [p] 1 _ _ (fun _ => 0) (by omega) (by unfold tl_N; omega) (Nat.zero_le _) (fun _ _ => by decide) hS
  rw [show ((0 : Nat) : Int) = (0 : Int) from rfl] at h5
  unfold fX10_measure
  rw [h1, pr_b, tl_gt ⟨by omega, by omega⟩, tl_gt (by decide), Int.toNat_natCast, h5, pr_b]
  exact ⟨m3, q3, s3, rfl, h6⟩
