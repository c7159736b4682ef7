/-! alike: what it is, and the groups -/
def ha_al (nl : Nat) (ru ki : Nat → Int) (w : Nat → Nat → List Nat) : Nat → Nat → Nat → Prop
  | 0, _, _ => True
  | n + 1, a, b => ki a = ki b ∧ ∀ l, l < nl → ru l = 1 → (w l a).length = (w l b).length ∧ ∀ (i : Nat) (h : i < (w l a).length) (h2 : i < (w l b).length), ha_al nl ru ki w n (w l a)[i] (w l b)[i]
def ha_A (nl : Nat) (ru ki : Nat → Int) (w : Nat → Nat → List Nat) (a b : Nat) : Prop := ∀ n, ha_al nl ru ki w n a b
theorem ha_refl {nl : Nat} {ru ki : Nat → Int} {w : Nat → Nat → List Nat} : ∀ (n a : Nat), ha_al nl ru ki w n a a
  | 0, _ => trivial
  | n + 1, a => ⟨rfl, fun l _ _ => ⟨rfl, fun i _ _ => ha_refl n _⟩⟩
theorem ha_symm {nl : Nat} {ru ki : Nat → Int} {w : Nat → Nat → List Nat} : ∀ (n a b : Nat), ha_al nl ru ki w n a b → ha_al nl ru ki w n b a
  | 0, _, _, _ => trivial
  | n + 1, a, b, h => ⟨h.1.symm, fun l h1 h2 => ⟨(h.2 l h1 h2).1.symm, fun i i1 i2 => ha_symm n _ _ ((h.2 l h1 h2).2 i i2 i1)⟩⟩
theorem ha_trans {nl : Nat} {ru ki : Nat → Int} {w : Nat → Nat → List Nat} : ∀ (n a b c : Nat), ha_al nl ru ki w n a b → ha_al nl ru ki w n b c → ha_al nl ru ki w n a c
  | 0, _, _, _, _, _ => trivial
  | n + 1, a, b, c, h, k => ⟨h.1.trans k.1, fun l h1 h2 => ⟨(h.2 l h1 h2).1.trans (k.2 l h1 h2).1, fun i i1 i2 => by
    have e := (h.2 l h1 h2).1
    exact ha_trans n _ _ _ ((h.2 l h1 h2).2 i i1 (by omega)) ((k.2 l h1 h2).2 i (by omega) i2)⟩⟩
def ga_I (ok : Nat → Nat → Prop) (Q : List (Nat × Nat)) (len : Int) (fs ld ss : Nat → Int) : Prop := len = (Q.length : Int) ∧ (∀ (i : Nat) (h : i < Q.length), fs i = ((Q[i].1 : Nat) : Int) ∧ ss i = ((Q[i].2 : Nat) : Int)) ∧ (∀ q ∈ Q, q.1 < 100 ∧ q.2 < 100 ∧ ok q.1 q.2 ∧ ld q.1 = ld q.2) ∧ (∀ k, k < 100 → ∃ m : Nat, m < 100 ∧ ld k = (m : Int) ∧ ld m = (m : Int)) ∧ Q.length + hs_sum (fun k => if ld k = (k : Int) then 1 else 0) 100 = 100 ∧ ∀ R : Nat → Nat → Prop, (∀ a, R a a) → (∀ a b, R a b → R b a) → (∀ a b c, R a b → R b c → R a c) → (∀ q ∈ Q, R q.1 q.2) → ∀ j k, j < 100 → k < 100 → ld j = ld k → R j k
theorem ga_dem_L {ld : Nat → Int} {a b : Nat} (ha : a < 100) (hb : b < 100) (hR : ∀ k, k < 100 → tl_R (ld k)) (hne : ld a ≠ ld b) :
    ∀ (n i : Nat) (x : Nat → Int), i ≤ 100 → 101 ≤ i + n → (∀ k, k < 100 → x k = if k < i ∧ ld k = ld b then ld a else ld k) → ∃ x', fX0_demand_L1 ld (a : Int) (b : Int) n (i : Int) x = some x' ∧ ∀ k, k < 100 → x' k = if ld k = ld b then ld a else ld k := by
  intro n
  induction n with
  | zero => intro i x h1 h2; omega
  | succ n ih =>
    intro i x hi hn hx
    rw [fX0_demand_L1, tl_gt ⟨⟨by omega, by omega⟩, by decide⟩]
    by_cases q : i < 100
    · have hxi := hx i q
      rw [if_neg (fun z => by omega)] at hxi
      have hxa : x a = ld a := by
        rw [hx a ha, if_neg (fun z => hne z.2)]
      rw [if_pos (by omega), tl_gt ⟨by omega, by omega⟩, Int.toNat_natCast, Int.toNat_natCast, tl_gt ⟨by rw [hxi]; exact hR i q, hR b hb⟩, show (i : Int) + 1 = ((i + 1 : Nat) : Int) by omega]
      by_cases e : ld i = ld b
      · rw [if_pos (by rw [hxi]; exact e), tl_gt ⟨by omega, by omega⟩, tl_gt ⟨by omega, by omega⟩, Int.toNat_natCast, hxa]
        refine ih (i + 1) _ q (by omega) (fun k hk => ?_)
        by_cases z : k = i
        · rw [z, va_up_self, if_pos ⟨by omega, e⟩]
        · rw [va_up_ne _ _ z, hx k hk]
          by_cases v : k < i ∧ ld k = ld b
          · rw [if_pos v, if_pos ⟨by omega, v.2⟩]
          · rw [if_neg v, if_neg (fun y => v ⟨by omega, y.2⟩)]
      · rw [if_neg (by rw [hxi]; exact e)]
        refine ih (i + 1) x q (by omega) (fun k hk => ?_)
        rw [hx k hk]
        by_cases v : k < i ∧ ld k = ld b
        · rw [if_pos v, if_pos ⟨by omega, v.2⟩]
        · have hne2 : ld k = ld b → k ≠ i := fun y z => e (z ▸ y)
          rw [if_neg v, if_neg (fun y => v ⟨by have := hne2 y.2; omega, y.2⟩)]
    · rw [if_neg (by omega)]
      refine ⟨x, rfl, fun k hk => ?_⟩
      rw [hx k hk]
      by_cases e : ld k = ld b
      · rw [if_pos ⟨by omega, e⟩, if_pos e]
      · rw [if_neg (fun y => e y.2), if_neg e]
theorem hs_sum_ge {f : Nat → Nat} {i : Nat} : ∀ (n : Nat), i < n → f i ≤ hs_sum f n
  | 0, h => by omega
  | n + 1, h => by
    rw [hs_sum]
    by_cases q : i = n
    · rw [q]
      omega
    · have := hs_sum_ge (f := f) (i := i) n (by omega)
      omega
theorem ga_demand {ok : Nat → Nat → Prop} {Q : List (Nat × Nat)} {len : Int} {fs ld ss : Nat → Int} (h : ga_I ok Q len fs ld ss) {a b : Nat} (ha : a < 100) (hb : b < 100) (hok : ok a b) :
    ∃ (Q' : List (Nat × Nat)) (len' : Int) (fs' ld' ss' : Nat → Int), fX0_demand len fs ld ss (a : Int) (b : Int) = some (fs', ld', ss', len') ∧ ga_I ok Q' len' fs' ld' ss' ∧ (∃ t, Q' = Q ++ t) ∧ (∀ j k, j < 100 → k < 100 → ld j = ld k → ld' j = ld' k) ∧ ld' a = ld' b := by
  obtain ⟨h1, h2, h3, h4, h5, h6⟩ := id h
  have hR : ∀ k, k < 100 → tl_R (ld k) := fun k hk => by
    obtain ⟨m, m1, m2, _⟩ := h4 k hk
    exact ⟨by omega, by omega⟩
  have iA : tl_in (a : Int) 100 := ⟨by omega, by omega⟩
  have iB : tl_in (b : Int) 100 := ⟨by omega, by omega⟩
  obtain ⟨ma, ma1, ma2, ma3⟩ := h4 a ha
  have hpos : 0 < hs_sum (fun k => if ld k = (k : Int) then 1 else 0) 100 := by
    have := hs_sum_ge (f := fun k => if ld k = (k : Int) then 1 else 0) (i := ma) 100 ma1
    have e1 : (if ld ma = (ma : Int) then 1 else 0) = 1 := if_pos ma3
    omega
  have hlt : Q.length < 100 := by omega
  unfold fX0_demand
  rw [ps_isSlot1 ha, pr_b, tl_gt (by decide), if_neg (by decide), ps_isSlot1 hb, pr_b, tl_gt (by decide), if_neg (by decide), tl_gt ⟨⟨by omega, by omega⟩, by decide⟩, if_pos (by omega), tl_gt iA, tl_gt iB, Int.toNat_natCast, Int.toNat_natCast, tl_gt ⟨hR a ha, hR b hb⟩]
  by_cases e : ld a = ld b
  · rw [if_pos e]
    exact ⟨Q, len, fs, ld, ss, rfl, h, ⟨[], (List.append_nil _).symm⟩, fun j k _ _ z => z, e⟩
  · obtain ⟨mb, mb1, mb2, mb3⟩ := h4 b hb
    have hmne : ma ≠ mb := fun z => e (by rw [ma2, mb2, z])
    obtain ⟨ld', d1, d2⟩ := ga_dem_L ha hb hR e tl_N 0 ld (by omega) (by unfold tl_N; omega) (fun k hk => by rw [if_neg (fun z => by omega)])
    rw [show ((0 : Nat) : Int) = (0 : Int) from rfl] at d1
    have mono : ∀ j k, j < 100 → k < 100 → ld j = ld k → ld' j = ld' k := by
      intro j k hj hk z
      rw [d2 j hj, d2 k hk, z]
    have hab : ld' a = ld' b := by
      rw [d2 a ha, d2 b hb, if_neg e, if_pos rfl]
    rw [if_neg e, tl_gt ⟨by omega, by omega⟩, tl_gt ⟨by omega, by omega⟩, tl_gt iB, d1, pr_b]
    refine ⟨Q ++ [(a, b)], len + 1, _, ld', _, rfl, ⟨by rw [h1, List.length_append]; simp, fun i hi => ?_, fun q hq => ?_, fun k hk => ?_, ?_, fun R r1 r2 r3 r4 j k hj hk z => ?_⟩, ⟨[(a, b)], rfl⟩, mono, hab⟩
    · rw [h1, Int.toNat_natCast]
      rw [List.length_append, List.length_singleton] at hi
      by_cases z : i = Q.length
      · subst z
        rw [va_up_self, va_up_self]
        simp
      · rw [va_up_ne _ _ z, va_up_ne _ _ z, List.getElem_append_left (by omega)]
        exact h2 i (by omega)
    · rcases List.mem_append.mp hq with z | z
      · obtain ⟨c1, c2, c3, c4⟩ := h3 q z
        exact ⟨c1, c2, c3, mono _ _ c1 c2 c4⟩
      · rw [List.mem_singleton.mp z]
        exact ⟨ha, hb, hok, hab⟩
    · rw [d2 k hk]
      by_cases z : ld k = ld b
      · rw [if_pos z]
        exact ⟨ma, ma1, ma2, by rw [d2 ma ma1, if_neg (fun y => by rw [ma3, mb2] at y; omega)]; exact ma3⟩
      · rw [if_neg z]
        obtain ⟨m, m1, m2, m3⟩ := h4 k hk
        exact ⟨m, m1, m2, by rw [d2 m m1, if_neg (fun y => z (by rw [m2, ← m3]; exact y))]; exact m3⟩
    · have := hs_sum_one (f := fun k => if ld' k = (k : Int) then 1 else 0) (g := fun k => if ld k = (k : Int) then 1 else 0) (i := mb) 100 mb1 (fun k hk hne => by
        show (if ld' k = (k : Int) then 1 else 0) = (if ld k = (k : Int) then 1 else 0)
        rw [d2 k hk]
        by_cases z : ld k = ld b
        · rw [if_pos z]
          have n1 : ¬ ld k = (k : Int) := fun y => hne (by rw [z, mb2] at y; omega)
          have n2 : ¬ ld a = (k : Int) := fun y => by
            have y2 : ma = k := by omega
            rw [← y2, ma3, mb2] at z
            omega
          rw [if_neg n1, if_neg n2]
        · rw [if_neg z])
      have e1 : ¬ ld' mb = (mb : Int) := fun y => by
        rw [d2 mb mb1, if_pos (by rw [mb3, mb2])] at y
        omega
      simp only [if_neg e1, if_pos mb3] at this
      rw [List.length_append, List.length_singleton]
      omega
    · have r5 : ∀ j k, j < 100 → k < 100 → ld j = ld k → R j k := h6 R r1 r2 r3 (fun q hq => r4 q (List.mem_append_left _ hq))
      have rab : R a b := r4 (a, b) (List.mem_append_right _ (List.mem_singleton.mpr rfl))
      rw [d2 j hj, d2 k hk] at z
      by_cases zj : ld j = ld b
      · by_cases zk : ld k = ld b
        · exact r5 j k hj hk (by rw [zj, zk])
        · rw [if_pos zj, if_neg zk] at z
          exact r3 _ _ _ (r5 j b hj hb zj) (r3 _ _ _ (r2 _ _ rab) (r5 a k ha hk z))
      · by_cases zk : ld k = ld b
        · rw [if_neg zj, if_pos zk] at z
          exact r3 _ _ _ (r5 j a hj ha z) (r3 _ _ _ rab (r5 b k hb hk zk.symm))
        · rw [if_neg zj, if_neg zk] at z
          exact r5 j k hj hk z
theorem ga_rows_L {ok : Nat → Nat → Prop} {w : Nat → Nat → List Nat} {hl : Nat → Int} {hw : Nat → Int64} (hh : pr_R w hl hw) {l a b : Nat} (hl10 : l < 10) (ha : a < 100) (hb : b < 100) (elen : (w l a).length = (w l b).length) (hok : ∀ (i : Nat) (h : i < (w l a).length) (h2 : i < (w l b).length), ok (w l a)[i] (w l b)[i]) :
    ∀ (n i : Nat) (Q : List (Nat × Nat)) (len : Int) (fs ld ss : Nat → Int), i ≤ (w l a).length → (w l a).length + 1 ≤ i + n → ga_I ok Q len fs ld ss →
      ∃ (Q' : List (Nat × Nat)) (len' : Int) (fs' ld' ss' : Nat → Int), fX0_matchRows_L1 hl hw (l : Int) (a : Int) (b : Int) ((w l a).length : Int) n (i : Int) len fs ld ss = some (len', fs', ld', ss') ∧ ga_I ok Q' len' fs' ld' ss' ∧ (∃ t, Q' = Q ++ t) ∧ (∀ j k, j < 100 → k < 100 → ld j = ld k → ld' j = ld' k) ∧ ∀ (j : Nat) (h : j < (w l a).length) (h2 : j < (w l b).length), i ≤ j → ld' (w l a)[j] = ld' (w l b)[j] := by
  obtain ⟨_, h12, _, h4a⟩ := hh l a hl10 ha
  obtain ⟨_, _, _, h4b⟩ := hh l b hl10 hb
  intro n
  induction n with
  | zero => intro i Q len fs ld ss x y; omega
  | succ n ih =>
    intro i Q len fs ld ss hi hn hQ
    rw [fX0_matchRows_L1, tl_gt ⟨⟨by omega, by omega⟩, ⟨by omega, by omega⟩⟩]
    by_cases q : i < (w l a).length
    · have q2 : i < (w l b).length := by omega
      have m1 := h4a _ (List.getElem_mem q)
      have m2 := h4b _ (List.getElem_mem q2)
      obtain ⟨Q1, len1, fs1, ld1, ss1, a1, a2, ⟨t1, a3⟩, a4, a5⟩ := ga_demand hQ m1 m2 (hok i q q2)
      obtain ⟨Q2, len2, fs2, ld2, ss2, b1, b2, ⟨t2, b3⟩, b4, b5⟩ := ih (i + 1) Q1 len1 fs1 ld1 ss1 q (by omega) a2
      rw [if_pos (by omega), pr_get hh hl10 ha q, pr_b, pr_get hh hl10 hb q2, pr_b, a1, pr_b, show (i : Int) + 1 = ((i + 1 : Nat) : Int) by omega]
      refine ⟨Q2, len2, fs2, ld2, ss2, b1, b2, ⟨t1 ++ t2, by rw [b3, a3, List.append_assoc]⟩, fun j k hj hk z => b4 j k hj hk (a4 j k hj hk z), fun j hj hj2 hij => ?_⟩
      by_cases e : j = i
      · subst e
        exact b4 _ _ m1 m2 a5
      · exact b5 j hj hj2 (by omega)
    · rw [if_neg (by omega)]
      exact ⟨Q, len, fs, ld, ss, rfl, hQ, ⟨[], (List.append_nil _).symm⟩, fun j k _ _ z => z, fun j hj _ hij => by omega⟩
theorem ga_rows {ok : Nat → Nat → Prop} {w : Nat → Nat → List Nat} {hl : Nat → Int} {hw : Nat → Int64} (hh : pr_R w hl hw) {l a b : Nat} (hl10 : l < 10) (ha : a < 100) (hb : b < 100) (hok : (w l a).length = (w l b).length → ∀ (i : Nat) (h : i < (w l a).length) (h2 : i < (w l b).length), ok (w l a)[i] (w l b)[i]) {Q : List (Nat × Nat)} {len : Int} {fs ld ss : Nat → Int} (hQ : ga_I ok Q len fs ld ss) :
    ∃ (r : Int) (Q' : List (Nat × Nat)) (len' : Int) (fs' ld' ss' : Nat → Int), fX0_matchRows len fs ld ss hl hw (l : Int) (a : Int) (b : Int) = some (r, fs', ld', ss', len') ∧ ga_I ok Q' len' fs' ld' ss' ∧ (∃ t, Q' = Q ++ t) ∧ (∀ j k, j < 100 → k < 100 → ld j = ld k → ld' j = ld' k) ∧ ((r = 1 ∧ (w l a).length = (w l b).length ∧ ∀ (j : Nat) (h : j < (w l a).length) (h2 : j < (w l b).length), ld' (w l a)[j] = ld' (w l b)[j]) ∨ (r = 0 ∧ (w l a).length ≠ (w l b).length)) := by
  obtain ⟨_, h12, _, _⟩ := hh l a hl10 ha
  obtain ⟨_, h12b, _, _⟩ := hh l b hl10 hb
  unfold fX0_matchRows
  rw [pr_lengthOf hh hl10 ha, pr_b, pr_lengthOf hh hl10 hb, pr_b, tl_gt ⟨⟨by omega, by omega⟩, ⟨by omega, by omega⟩⟩]
  by_cases e : (w l a).length = (w l b).length
  · obtain ⟨Q', len', fs', ld', ss', a1, a2, a3, a4, a5⟩ := ga_rows_L hh hl10 ha hb e (hok e) tl_N 0 Q len fs ld ss (Nat.zero_le _) (by unfold tl_N; omega) hQ
    rw [show ((0 : Nat) : Int) = (0 : Int) from rfl] at a1
    rw [if_pos (by omega), a1, pr_b]
    exact ⟨1, Q', len', fs', ld', ss', rfl, a2, a3, a4, Or.inl ⟨rfl, e, fun j h1 h2 => a5 j h1 h2 (Nat.zero_le _)⟩⟩
  · rw [if_neg (by omega)]
    exact ⟨0, Q, len, fs, ld, ss, rfl, hQ, ⟨[], (List.append_nil _).symm⟩, fun j k _ _ z => z, Or.inr ⟨rfl, e⟩⟩
