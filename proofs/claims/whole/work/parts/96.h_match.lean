/-! alike: the class's answer -/
def ga_ok (A0 : Prop) (nl : Nat) (ru ki : Nat → Int) (w : Nat → Nat → List Nat) (U : Nat → Bool) (a b : Nat) : Prop := (A0 → ha_A nl ru ki w a b) ∧ U a = true ∧ U b = true
def ga_done (nl : Nat) (ru ki : Nat → Int) (w : Nat → Nat → List Nat) (ld : Nat → Int) (a b : Nat) : Prop := ki a = ki b ∧ ∀ l, l < nl → ru l = 1 → (w l a).length = (w l b).length ∧ ∀ (j : Nat) (h : j < (w l a).length) (h2 : j < (w l b).length), ld (w l a)[j] = ld (w l b)[j]
theorem ga_pair_L {A0 : Prop} {nl : Nat} {fo fr ru to fo2 fr2 ru2 to2 : Nat → Int} (hTo : ht_R nl fo fr ru to fo2 fr2 ru2 to2) {g ob pa : Int} {U : Nat → Bool} {nu ki : Nat → Int} {w d : Nat → Nat → List Nat} (h : hs_I nl fo ru g U nu w d) {hl : Nat → Int} {hw : Nat → Int64} (hh : pr_R w hl hw) {a b : Nat} (ha : a < 100) (hb : b < 100) (hok : ga_ok A0 nl ru ki w U a b) :
    ∀ (n l : Nat) (Q : List (Nat × Nat)) (len : Int) (fs ld ss : Nat → Int), l ≤ nl → nl + 1 ≤ l + n → ga_I (ga_ok A0 nl ru ki w U) Q len fs ld ss →
      ∃ (Q' : List (Nat × Nat)) (len' : Int) (fs' ld' ss' : Nat → Int), ga_I (ga_ok A0 nl ru ki w U) Q' len' fs' ld' ss' ∧ (∃ t, Q' = Q ++ t) ∧ (∀ j k, j < 100 → k < 100 → ld j = ld k → ld' j = ld' k) ∧ ((fX0_matchPair_L1 (nl : Int) ru ob pa hl hw (a : Int) (b : Int) n (l : Int) len fs ld ss = some (.inl (len', fs', ld', ss')) ∧ ∀ l2, l ≤ l2 → l2 < nl → ru l2 = 1 → (w l2 a).length = (w l2 b).length ∧ ∀ (j : Nat) (h : j < (w l2 a).length) (h2 : j < (w l2 b).length), ld' (w l2 a)[j] = ld' (w l2 b)[j]) ∨ (fX0_matchPair_L1 (nl : Int) ru ob pa hl hw (a : Int) (b : Int) n (l : Int) len fs ld ss = some (.inr (0, fs', ld', ss', len')) ∧ ¬ ha_A nl ru ki w a b)) := by
  have hn := hTo.1
  intro n
  induction n with
  | zero => intro l Q len fs ld ss x y; omega
  | succ n ih =>
    intro l Q len fs ld ss hl2 hn2 hQ
    rw [fX0_matchPair_L1]
    unfold fX5_howMany fX1_has
    rw [pr_b, tl_gt ⟨⟨by omega, by omega⟩, ⟨by omega, by omega⟩⟩]
    by_cases q : l < nl
    · have hTl := hTo.2 l q
      rw [if_pos (by omega), pt_hasRule hn q ⟨by omega, by omega⟩ (by decide), pr_b, show (l : Int) + 1 = ((l + 1 : Nat) : Int) by omega]
      by_cases r : ru l = 1
      · obtain ⟨rv, Q1, len1, fs1, ld1, ss1, a1, a2, ⟨t1, a3⟩, a4, a5⟩ := ga_rows hh (l := l) (by omega) ha hb (fun e i i1 i2 => ⟨fun z => fun m => ((hok.1 z (m + 1)).2 l q r).2 i i1 i2, (h.row l a _ (List.getElem_mem i1)).2.2.2.2, (h.row l b _ (List.getElem_mem i2)).2.2.2.2⟩) hQ
        rw [if_pos r, tl_gt (by decide), if_neg (by decide), pr_b, a1, pr_b]
        dsimp only
        rcases a5 with ⟨e1, e2, e3⟩ | ⟨e1, e2⟩
        · rw [e1, tl_gt (by decide), if_neg (by decide)]
          obtain ⟨Q2, len2, fs2, ld2, ss2, b1, ⟨t2, b2⟩, b3, b4⟩ := ih (l + 1) Q1 len1 fs1 ld1 ss1 q (by omega) a2
          refine ⟨Q2, len2, fs2, ld2, ss2, b1, ⟨t1 ++ t2, by rw [b2, a3, List.append_assoc]⟩, fun j k hj hk z => b3 j k hj hk (a4 j k hj hk z), b4.elim (fun z => Or.inl ⟨z.1, fun l2 h1 h2 h3 => ?_⟩) Or.inr⟩
          by_cases e : l2 = l
          · subst e
            refine ⟨e2, fun j h4 h5 => b3 _ _ (h.row l2 a _ (List.getElem_mem h4)).2.2.1 (h.row l2 b _ (List.getElem_mem h5)).2.2.1 (e3 j h4 h5)⟩
          · exact z.2 l2 (by omega) h2 h3
        · rw [e1, tl_gt (by decide), if_pos rfl]
          exact ⟨Q1, len1, fs1, ld1, ss1, a2, ⟨t1, a3⟩, a4, Or.inr ⟨rfl, fun z => e2 ((z 1).2 l q r).1⟩⟩
      · rw [if_neg r, tl_gt (by decide), if_pos rfl]
        obtain ⟨Q2, len2, fs2, ld2, ss2, b1, b2, b3, b4⟩ := ih (l + 1) Q len fs ld ss q (by omega) hQ
        refine ⟨Q2, len2, fs2, ld2, ss2, b1, b2, b3, b4.elim (fun z => Or.inl ⟨z.1, fun l2 h1 h2 h3 => ?_⟩) Or.inr⟩
        by_cases e : l2 = l
        · exact absurd (e ▸ h3) r
        · exact z.2 l2 (by omega) h2 h3
    · rw [if_neg (by omega)]
      exact ⟨Q, len, fs, ld, ss, hQ, ⟨[], (List.append_nil _).symm⟩, fun j k _ _ z => z, Or.inl ⟨rfl, fun l2 h1 h2 => by omega⟩⟩
theorem ga_pair {A0 : Prop} {nl : Nat} {fo fr ru to fo2 fr2 ru2 to2 : Nat → Int} (hTo : ht_R nl fo fr ru to fo2 fr2 ru2 to2) {g ob pa : Int} {U : Nat → Bool} {nu ki : Nat → Int} {w d : Nat → Nat → List Nat} (h : hs_I nl fo ru g U nu w d) {hl : Nat → Int} {hw : Nat → Int64} {kk : Nat → Int} (hh : pr_R w hl hw) (hk : ∀ k, k < 100 → tl_R (kk k) ∧ (U k = true → kk k = ki k)) {a b : Nat} (ha : a < 100) (hb : b < 100) (hok : ga_ok A0 nl ru ki w U a b) {Q : List (Nat × Nat)} {len : Int} {fs ld ss : Nat → Int} (hQ : ga_I (ga_ok A0 nl ru ki w U) Q len fs ld ss) :
    ∃ (r : Int) (Q' : List (Nat × Nat)) (len' : Int) (fs' ld' ss' : Nat → Int), fX0_matchPair len fs ld ss (nl : Int) ru ob pa hl hw kk (a : Int) (b : Int) = some (r, fs', ld', ss', len') ∧ ga_I (ga_ok A0 nl ru ki w U) Q' len' fs' ld' ss' ∧ (∃ t, Q' = Q ++ t) ∧ (∀ j k, j < 100 → k < 100 → ld j = ld k → ld' j = ld' k) ∧ ((r = 1 ∧ ga_done nl ru ki w ld' a b) ∨ (r = 0 ∧ ¬ ha_A nl ru ki w a b)) := by
  have ka := hk a ha
  have kb := hk b hb
  have kaR := ka.1
  have kbR := kb.1
  rw [ka.2 hok.2.1] at kaR
  rw [kb.2 hok.2.2] at kbR
  unfold fX0_matchPair
  rw [ph_kindOf ha, pr_b, ph_kindOf hb, pr_b, ka.2 hok.2.1, kb.2 hok.2.2, tl_gt ⟨kaR, kbR⟩]
  by_cases e : ki a = ki b
  · obtain ⟨Q', len', fs', ld', ss', b1, b2, b3, b4⟩ := ga_pair_L (ob := ob) (pa := pa) hTo h hh ha hb hok tl_N 0 Q len fs ld ss (by omega) (by have := hTo.1; unfold tl_N; omega) hQ
    rw [show ((0 : Nat) : Int) = (0 : Int) from rfl] at b4
    rw [if_pos e]
    rcases b4 with ⟨c1, c2⟩ | ⟨c1, c2⟩
    · rw [c1, pr_b]
      exact ⟨1, Q', len', fs', ld', ss', rfl, b1, b2, b3, Or.inl ⟨rfl, e, fun l h1 h2 => c2 l (Nat.zero_le _) h1 h2⟩⟩
    · rw [c1, pr_b]
      exact ⟨0, Q', len', fs', ld', ss', rfl, b1, b2, b3, Or.inr ⟨rfl, c2⟩⟩
  · rw [if_neg e]
    exact ⟨0, Q, len, fs, ld, ss, rfl, hQ, ⟨[], (List.append_nil _).symm⟩, fun j k _ _ z => z, Or.inr ⟨rfl, fun z => e (z 1).1⟩⟩
theorem ga_len {ok : Nat → Nat → Prop} {Q : List (Nat × Nat)} {len : Int} {fs ld ss : Nat → Int} (h : ga_I ok Q len fs ld ss) : Q.length ≤ 100 := by
  have := h.2.2.2.2.1
  omega
theorem ga_L2 {A0 : Prop} {nl : Nat} {fo fr ru to fo2 fr2 ru2 to2 : Nat → Int} (hTo : ht_R nl fo fr ru to fo2 fr2 ru2 to2) {g ob pa : Int} {U : Nat → Bool} {nu ki : Nat → Int} {w d : Nat → Nat → List Nat} (h : hs_I nl fo ru g U nu w d) {hl : Nat → Int} {hw : Nat → Int64} {kk : Nat → Int} (hh : pr_R w hl hw) (hk : ∀ k, k < 100 → tl_R (kk k) ∧ (U k = true → kk k = ki k)) {a b : Nat} (ha : a < 100) (hb : b < 100) :
    ∀ (n i : Nat) (Q : List (Nat × Nat)) (len : Int) (fs ld ss : Nat → Int), i ≤ Q.length → 101 ≤ i + n → ga_I (ga_ok A0 nl ru ki w U) Q len fs ld ss → ld a = ld b → (∀ q ∈ Q.take i, ga_done nl ru ki w ld q.1 q.2) →
      ∃ (len' : Int) (fs' ld' ss' : Nat → Int), (fX0_match_L2 (nl : Int) ru ob pa hl hw kk n (i : Int) len fs ld ss = some (.inl (len', fs', ld', ss')) ∧ ha_A nl ru ki w a b) ∨ (fX0_match_L2 (nl : Int) ru ob pa hl hw kk n (i : Int) len fs ld ss = some (.inr (0, fs', ld', ss', len')) ∧ ¬ A0) := by
  intro n
  induction n with
  | zero =>
    intro i Q len fs ld ss hi hn hQ
    have := ga_len hQ
    omega
  | succ n ih =>
    intro i Q len fs ld ss hi hn hQ hab hdone
    have h100 := ga_len hQ
    have he := hQ.1
    rw [fX0_match_L2, tl_gt ⟨⟨by omega, by omega⟩, ⟨by omega, by omega⟩⟩]
    by_cases q : i < Q.length
    · obtain ⟨m1, m2, m3, _⟩ := hQ.2.2.1 _ (List.getElem_mem q)
      obtain ⟨r, Q1, len1, fs1, ld1, ss1, a1, a2, ⟨t1, a3⟩, a4, a5⟩ := ga_pair (ob := ob) (pa := pa) hTo h hh hk m1 m2 m3 hQ
      rw [if_pos (by omega), tl_gt ⟨⟨by omega, by omega⟩, by decide⟩, if_pos (by omega), tl_gt ⟨by omega, by omega⟩, tl_gt ⟨by omega, by omega⟩, Int.toNat_natCast, (hQ.2.1 i q).1, (hQ.2.1 i q).2, a1, pr_b]
      dsimp only
      rcases a5 with ⟨e1, e2⟩ | ⟨e1, e2⟩
      · rw [e1, tl_gt (by decide), if_neg (by decide), show (i : Int) + 1 = ((i + 1 : Nat) : Int) by omega]
        refine ih (i + 1) Q1 len1 fs1 ld1 ss1 (by rw [a3, List.length_append]; omega) (by omega) a2 (a4 a b ha hb hab) (fun x hx => ?_)
        have htk : Q1.take (i + 1) = Q.take i ++ [Q[i]] := by
          rw [a3, List.take_append_of_le_length (by omega)]
          exact List.take_succ_eq_append_getElem q
        rw [htk] at hx
        rcases List.mem_append.mp hx with z | z
        · have hd := hdone x z
          refine ⟨hd.1, fun l h1 h2 => ⟨(hd.2 l h1 h2).1, fun j h3 h4 => a4 _ _ (h.row l _ _ (List.getElem_mem h3)).2.2.1 (h.row l _ _ (List.getElem_mem h4)).2.2.1 ((hd.2 l h1 h2).2 j h3 h4)⟩⟩
        · rw [List.mem_singleton.mp z]
          exact e2
      · rw [e1, tl_gt (by decide), if_pos rfl]
        exact ⟨len1, fs1, ld1, ss1, Or.inr ⟨rfl, fun z => e2 (m3.1 z)⟩⟩
    · rw [if_neg (by omega)]
      refine ⟨len, fs, ld, ss, Or.inl ⟨rfl, ?_⟩⟩
      rw [List.take_of_length_le (by omega)] at hdone
      have all : ∀ m, ∀ j k, j < 100 → k < 100 → ld j = ld k → ha_al nl ru ki w m j k := by
        intro m
        induction m with
        | zero => intro j k _ _ _; exact trivial
        | succ m ihm =>
          refine hQ.2.2.2.2.2 (ha_al nl ru ki w (m + 1)) (fun x => ha_refl _ x) (fun x y => ha_symm _ x y) (fun x y z => ha_trans _ x y z) (fun x hx => ?_)
          have hd := hdone x hx
          refine ⟨hd.1, fun l h1 h2 => ⟨(hd.2 l h1 h2).1, fun j h3 h4 => ihm _ _ (h.row l _ _ (List.getElem_mem h3)).2.2.1 (h.row l _ _ (List.getElem_mem h4)).2.2.1 ((hd.2 l h1 h2).2 j h3 h4)⟩⟩
      exact fun m => all m a b ha hb hab
theorem ga_L1 : ∀ (n i : Nat) (x : Nat → Int), i ≤ 100 → 101 ≤ i + n → ∃ x', fX0_match_L1 n (i : Int) x = some x' ∧ ∀ k, k < 100 → x' k = if i ≤ k then (k : Int) else x k := by
  intro n
  induction n with
  | zero => intro i x h1 h2; omega
  | succ n ih =>
    intro i x hi hn
    rw [fX0_match_L1, tl_gt ⟨⟨by omega, by omega⟩, by decide⟩]
    by_cases hq : i < 100
    · rw [if_pos (by omega), tl_gt ⟨by omega, by omega⟩, Int.toNat_natCast, show (i : Int) + 1 = ((i + 1 : Nat) : Int) by omega]
      obtain ⟨x', h1, h2⟩ := ih (i + 1) (va_up x i (i : Int)) hq (by omega)
      refine ⟨x', h1, fun k hk => ?_⟩
      rw [h2 k hk]
      by_cases h3 : k = i
      · rw [h3, va_up_self, if_neg (by omega), if_pos (by omega)]
      · rw [va_up_ne _ _ h3]
        by_cases h4 : i + 1 ≤ k
        · rw [if_pos h4, if_pos (by omega)]
        · rw [if_neg h4, if_neg (by omega)]
    · rw [if_neg (by omega)]
      exact ⟨x, rfl, fun k hk => by rw [if_neg (by omega)]⟩
theorem hc_alike {nl : Nat} {fo fr ru to fo2 fr2 ru2 to2 : Nat → Int} (hTo : ht_R nl fo fr ru to fo2 fr2 ru2 to2) {g ob pa : Int} {U : Nat → Bool} {nu ki : Nat → Int} {w d : Nat → Nat → List Nat} (h : hs_I nl fo ru g U nu w d) {hl : Nat → Int} {hw : Nat → Int64} {kk : Nat → Int} (hh : pr_R w hl hw) (hk : ∀ k, k < 100 → tl_R (kk k) ∧ (U k = true → kk k = ki k)) {a b : Nat} (ha : a < 100) (hb : b < 100) (hUa : U a = true) (hUb : U b = true) (len : Int) (fs ld ss : Nat → Int) :
    ∃ (r len' : Int) (fs' ld' ss' : Nat → Int), fX0_match len fs ld ss (nl : Int) ru ob pa hl hw kk (a : Int) (b : Int) = some (r, fs', ld', ss', len') ∧ (r = 0 ∨ r = 1) ∧ (r = 1 ↔ ha_A nl ru ki w a b) := by
  obtain ⟨ld1, a1, a2⟩ := ga_L1 tl_N 0 ld (by omega) (by unfold tl_N; omega)
  rw [show ((0 : Nat) : Int) = (0 : Int) from rfl] at a1
  have a3 : ∀ k, k < 100 → ld1 k = (k : Int) := fun k hk => by rw [a2 k hk, if_pos (Nat.zero_le _)]
  have hQ0 : ga_I (ga_ok (ha_A nl ru ki w a b) nl ru ki w U) [] 0 fs ld1 ss := by
    refine ⟨rfl, fun i hi => (by simp at hi), fun q hq => (by cases hq), fun k hk => ⟨k, hk, a3 k hk, a3 k hk⟩, ?_, fun R r1 _ _ _ j k hj hk z => ?_⟩
    · rw [hs_sum_eq (g := fun _ => 1) 100 (fun k hk => by rw [if_pos (a3 k hk)])]
      rfl
    · rw [a3 j hj, a3 k hk] at z
      have : j = k := by omega
      rw [this]
      exact r1 k
  obtain ⟨Q1, len1, fs1, ld2, ss1, b1, b2, b3, b4, b5⟩ := ga_demand hQ0 ha hb ⟨fun z => z, hUa, hUb⟩
  obtain ⟨len', fs', ld', ss', c⟩ := ga_L2 (ob := ob) (pa := pa) hTo h hh hk ha hb tl_N 0 Q1 len1 fs1 ld2 ss1 (Nat.zero_le _) (by unfold tl_N; omega) b2 b5 (fun q hq => by rw [List.take_zero] at hq; cases hq)
  rw [show ((0 : Nat) : Int) = (0 : Int) from rfl] at c
  unfold fX0_match
  rw [a1, pr_b, b1, pr_b]
  dsimp only
  rcases c with ⟨c1, c2⟩ | ⟨c1, c2⟩
  · rw [c1, pr_b]
    exact ⟨1, len', fs', ld', ss', rfl, Or.inr rfl, fun _ => c2, fun _ => rfl⟩
  · rw [c1, pr_b]
    exact ⟨0, len', fs', ld', ss', rfl, Or.inl rfl, fun z => by omega, fun z => absurd z c2⟩
