/-! takeBack: the house that was kept -/
theorem rb_T2 {L : Nat} {f : Nat → Int} (hL : L ≤ 2147483647) (th li nm pm km lv x2 : Int) {w d : Nat → Nat → List Nat} {s : Nat} (hs : s < 100) (h12 : ∀ l s, (w l s).length ≤ 12 ∧ (d l s).length ≤ 12) (h1 : ∀ l s, ∀ x ∈ w l s, x < 100) (h2 : ∀ l s, ∀ x ∈ d l s, x < 100) :
    ∀ (j n l a : Nat) (had hadMany has hasMany : Nat → Int) (Rh Rd : Nat → Nat → List Nat), l + j = 10 → j + 1 ≤ n → ke_at f a (ke_r w d s l j) → a + (ke_r w d s l j).length ≤ L → qr_R Rh hasMany has → qr_R Rd hadMany had →
    ∃ (had' hadMany' has' hasMany' : Nat → Int) (Rh' Rd' : Nat → Nat → List Nat), fX10_takeBack_L2 L th li nm pm km lv f (s : Int) x2 n (l : Int) (a : Int) had hadMany has hasMany = some (((a + (ke_r w d s l j).length : Nat) : Int), had', hadMany', has', hasMany') ∧ qr_R Rh' hasMany' has' ∧ qr_R Rd' hadMany' had' ∧ (∀ l2 s2, Rh' l2 s2 = if s2 = s ∧ l ≤ l2 ∧ l2 < 10 then w l2 s else Rh l2 s2) ∧ ∀ l2 s2, Rd' l2 s2 = if s2 = s ∧ l ≤ l2 ∧ l2 < 10 then d l2 s else Rd l2 s2 := by
  intro j
  induction j with
  | zero =>
    intro n l a had hadMany has hasMany Rh Rd e hn hk ha hh hd
    obtain ⟨n, rfl⟩ : ∃ m, n = m + 1 := ⟨n - 1, by omega⟩
    refine ⟨had, hadMany, has, hasMany, Rh, Rd, ?_, hh, hd, fun l2 s2 => (if_neg (by omega)).symm, fun l2 s2 => (if_neg (by omega)).symm⟩
    rw [fX10_takeBack_L2, tl_gt ⟨⟨by omega, by omega⟩, ⟨by omega, by omega⟩⟩, if_neg (by omega)]
    rfl
  | succ j ih =>
    intro n l a had hadMany has hasMany Rh Rd e hn hk ha hh hd
    obtain ⟨n, rfl⟩ : ∃ m, n = m + 1 := ⟨n - 1, by omega⟩
    rw [ke_r] at hk ha ⊢
    rw [List.length_append] at ha ⊢
    obtain ⟨k1, k2⟩ := hk.app
    obtain ⟨d1, m1, a1, n1, e1, r1, r2⟩ := rb_rows hL th li (x2 + 1) nm pm km lv hh hd (l := l) (s := s) (a := a) (by omega) hs (h12 l s) (h1 l s) (h2 l s) k1 (by omega)
    obtain ⟨d2, m2, a2, n2, Rh', Rd', e2, r3, r4, r5, r6⟩ := ih n (l + 1) (a + (ke_q w d l s).length) d1 m1 a1 n1 _ _ (by omega) (by omega) k2 (by omega) r1 r2
    refine ⟨d2, m2, a2, n2, Rh', Rd', ?_, r3, r4, fun l2 s2 => ?_, fun l2 s2 => ?_⟩
    · rw [fX10_takeBack_L2, tl_gt ⟨⟨by omega, by omega⟩, ⟨by omega, by omega⟩⟩, if_pos (by omega), e1, pr_b]
      dsimp only
      rw [show (l : Int) + 1 = ((l + 1 : Nat) : Int) by omega, e2, Nat.add_assoc]
    · rw [r5]
      unfold pr_set
      by_cases q : s2 = s ∧ l + 1 ≤ l2 ∧ l2 < 10
      · rw [if_pos q, if_pos (by omega)]
      · rw [if_neg q]
        by_cases q2 : l2 = l ∧ s2 = s
        · rw [if_pos q2, if_pos (by omega), q2.1]
        · rw [if_neg q2, if_neg (by omega)]
    · rw [r6]
      unfold pr_set
      by_cases q : s2 = s ∧ l + 1 ≤ l2 ∧ l2 < 10
      · rw [if_pos q, if_pos (by omega)]
      · rw [if_neg q]
        by_cases q2 : l2 = l ∧ s2 = s
        · rw [if_pos q2, if_pos (by omega), q2.1]
        · rw [if_neg q2, if_neg (by omega)]
theorem rb_T1 {L : Nat} {f : Nat → Int} (hL : L ≤ 2147483647) (th li nm pm km lv : Int) {U : Nat → Bool} {nu ki : Nat → Int} {w d : Nat → Nat → List Nat} (h12 : ∀ l s, (w l s).length ≤ 12 ∧ (d l s).length ≤ 12) (h1 : ∀ l s, ∀ x ∈ w l s, x < 100) (h2 : ∀ l s, ∀ x ∈ d l s, x < 100) (hnu : ∀ k, k < 100 → U k = true → 0 ≤ nu k ∧ nu k ≤ 1000000) (hki : ∀ k, k < 100 → U k = true → tl_R (ki k)) :
    ∀ (j n s a : Nat) (ob : Int) (had hadMany has hasMany kind number used : Nat → Int) (Rh Rd : Nat → Nat → List Nat), s + j = 100 → j + 1 ≤ n → ke_at f a (ke_h U nu ki w d s j) → a + (ke_h U nu ki w d s j).length ≤ L → ob = ((hs_sum (fun k => if U k = true then 1 else 0) s : Nat) : Int) →
      qr_R Rh hasMany has → qr_R Rd hadMany had → (∀ l2 s2, l2 < 10 → s2 < s → U s2 = true → Rh l2 s2 = w l2 s2 ∧ Rd l2 s2 = d l2 s2) → (∀ k, k < 100 → tl_R (kind k) ∧ (k < s → U k = true → kind k = ki k)) → (∀ k, k < 100 → tl_R (number k) ∧ (k < s → U k = true → number k = nu k)) → (∀ k, k < s → used k = if U k = true then 1 else 0) →
    ∃ (ra ob' : Int) (had' hadMany' has' hasMany' kind' number' used' : Nat → Int), fX10_takeBack_L1 L th li nm pm km lv f n (s : Int) ob (a : Int) had hadMany has hasMany kind number used = some (ob', ra, had', hadMany', has', hasMany', kind', number', used') ∧ hq_R U nu ki w d ob' had' hadMany' has' hasMany' kind' number' used' := by
  intro j
  induction j with
  | zero =>
    intro n s a ob had hadMany has hasMany kind number used Rh Rd e hn hk ha hob hh hd hr hki2 hnu2 hus
    obtain ⟨n, rfl⟩ : ∃ m, n = m + 1 := ⟨n - 1, by omega⟩
    have es : s = 100 := by omega
    subst es
    refine ⟨(a : Int), ob, had, hadMany, has, hasMany, kind, number, used, ?_, hob, ⟨Rd, hd, fun l2 s2 a1 a2 a3 => (hr l2 s2 a1 a2 a3).2⟩, ⟨Rh, hh, fun l2 s2 a1 a2 a3 => (hr l2 s2 a1 a2 a3).1⟩, fun k hk => ⟨(hki2 k hk).1, (hki2 k hk).2 hk⟩, fun k hk => ⟨(hnu2 k hk).1, (hnu2 k hk).2 hk⟩, hus⟩
    rw [fX10_takeBack_L1, tl_gt ⟨⟨by omega, by omega⟩, ⟨by omega, by omega⟩⟩, if_neg (by omega)]
  | succ j ih =>
    intro n s a ob had hadMany has hasMany kind number used Rh Rd e hn hk ha hob hh hd hr hki2 hnu2 hus
    obtain ⟨n, rfl⟩ : ∃ m, n = m + 1 := ⟨n - 1, by omega⟩
    rw [ke_h] at hk ha
    rw [List.length_append] at ha
    obtain ⟨k1, k2⟩ := hk.app
    have hv : ∀ z : Int, va_up used (s : Int).toNat z (s : Int).toNat = z := fun z => va_up_self _ _ _
    have hus2 : ∀ z : Int, (z = if U s = true then 1 else 0) → ∀ k, k < s + 1 → va_up used (s : Int).toNat z k = if U k = true then 1 else 0 := fun z hz k hk => by
      rw [Int.toNat_natCast]
      unfold va_up
      by_cases q : k = s
      · rw [if_pos q, q]
        exact hz
      · rw [if_neg q]
        exact hus k (by omega)
    unfold ke_o at k1 k2 ha
    by_cases q : U s = true
    · rw [if_pos q] at k1 k2 ha
      obtain ⟨c1, c2⟩ := k1.cons
      obtain ⟨c3, c4⟩ := c2.cons
      simp only [List.length_cons] at ha k2
      have hn0 := hnu s (by omega) q
      obtain ⟨d1, m1, a1, n1, Rh', Rd', e1, r1, r2, r3, r4⟩ := rb_T2 hL th li nm pm km lv ob (s := s) (by omega) h12 h1 h2 10 tl_N 0 (a + 1 + 1) had hadMany has hasMany Rh Rd (by omega) (by unfold tl_N; omega) c4 (by omega) hh hd
      rw [show ((0 : Nat) : Int) = (0 : Int) from rfl] at e1
      obtain ⟨ra, ob', g1, g2, g3, g4, g5, g6, g7, e2, hq⟩ := ih n (s + 1) (a + 1 + 1 + (ke_r w d s 0 10).length) (ob + 1) d1 m1 a1 n1 (va_up kind (s : Int).toNat (ki s)) (va_up number (s : Int).toNat (nu s)) (va_up used (s : Int).toNat 1) Rh' Rd' (by omega) (by omega) (by rw [show a + 1 + 1 + (ke_r w d s 0 10).length = a + ((ke_r w d s 0 10).length + 1 + 1) by omega]; exact k2) (by omega)
        (by rw [hob, hs_sum, if_pos q]; omega) r1 r2
        (fun l2 s2 b1 b2 b3 => by
          rw [r3, r4]
          by_cases qq : s2 = s
          · rw [if_pos ⟨qq, by omega, b1⟩, if_pos ⟨qq, by omega, b1⟩, qq]
            exact ⟨rfl, rfl⟩
          · rw [if_neg (fun z => qq z.1), if_neg (fun z => qq z.1)]
            exact hr l2 s2 b1 (by omega) b3)
        (fun k hk => by
          rw [Int.toNat_natCast]
          unfold va_up
          by_cases qq : k = s
          · rw [if_pos qq, qq]
            exact ⟨hki s (by omega) q, fun _ _ => rfl⟩
          · rw [if_neg qq]
            exact ⟨(hki2 k hk).1, fun z => (hki2 k hk).2 (by omega)⟩)
        (fun k hk => by
          rw [Int.toNat_natCast]
          unfold va_up
          by_cases qq : k = s
          · rw [if_pos qq, qq]
            exact ⟨⟨by omega, by omega⟩, fun _ _ => rfl⟩
          · rw [if_neg qq]
            exact ⟨(hnu2 k hk).1, fun z => (hnu2 k hk).2 (by omega)⟩)
        (hus2 1 (by rw [if_pos q]))
      refine ⟨ra, ob', g1, g2, g3, g4, g5, g6, g7, ?_, hq⟩
      rw [fX10_takeBack_L1, tl_gt ⟨⟨by omega, by omega⟩, ⟨by omega, by omega⟩⟩, if_pos (by omega), rb_next (by omega) hL, pr_b]
      dsimp only
      rw [c1, tl_gt ⟨by omega, by omega⟩, if_neg (by omega), pr_b, tl_gt ⟨⟨by omega, by omega⟩, Or.inr rfl⟩, tl_gt ⟨by omega, by omega⟩, tl_gt (by rw [hv]; exact ⟨by omega, by omega⟩), if_neg (by rw [hv]; omega), tl_gt ⟨by omega, by omega⟩, rb_next (by omega) hL, pr_b, tl_gt ⟨by omega, by omega⟩]
      dsimp only
      rw [c3, e1, pr_b]
      dsimp only
      rw [show (s : Int) + 1 = ((s + 1 : Nat) : Int) by omega]
      exact e2
    · rw [if_neg q] at k1 k2 ha
      obtain ⟨c1, -⟩ := k1.cons
      simp only [List.length_cons, List.length_nil] at ha k2
      obtain ⟨ra, ob', g1, g2, g3, g4, g5, g6, g7, e2, hq⟩ := ih n (s + 1) (a + 1) ob had hadMany has hasMany kind number (va_up used (s : Int).toNat 0) Rh Rd (by omega) (by omega) k2 (by omega)
        (by rw [hob, hs_sum, if_neg q]; omega) hh hd
        (fun l2 s2 b1 b2 b3 => by
          by_cases qq : s2 = s
          · exact absurd (qq ▸ b3) q
          · exact hr l2 s2 b1 (by omega) b3)
        (fun k hk => ⟨(hki2 k hk).1, fun z z2 => (hki2 k hk).2 (by
          by_cases qq : k = s
          · exact absurd (qq ▸ z2) q
          · omega) z2⟩)
        (fun k hk => ⟨(hnu2 k hk).1, fun z z2 => (hnu2 k hk).2 (by
          by_cases qq : k = s
          · exact absurd (qq ▸ z2) q
          · omega) z2⟩)
        (hus2 0 (by rw [if_neg q]))
      refine ⟨ra, ob', g1, g2, g3, g4, g5, g6, g7, ?_, hq⟩
      rw [fX10_takeBack_L1, tl_gt ⟨⟨by omega, by omega⟩, ⟨by omega, by omega⟩⟩, if_pos (by omega), rb_next (by omega) hL, pr_b]
      dsimp only
      rw [c1, tl_gt ⟨by omega, by omega⟩, if_pos (by omega), pr_b, tl_gt ⟨⟨by omega, by omega⟩, Or.inl rfl⟩, tl_gt ⟨by omega, by omega⟩, tl_gt (by rw [hv]; exact ⟨by omega, by omega⟩), if_pos (hv 0), show (s : Int) + 1 = ((s + 1 : Nat) : Int) by omega]
      exact e2
