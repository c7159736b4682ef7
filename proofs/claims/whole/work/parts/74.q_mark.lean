/-! markUnder walks what spread walks: no one is under itself -/
def qn_M (x : Nat) (S : List Nat) (n many : Int) (queue under : Nat → Int) : Prop := many = (S.length : Int) ∧ n = (S.length : Int) - 1 ∧ S.Nodup ∧ (∀ s ∈ S, s < 100) ∧ x ∈ S ∧ (∀ (i : Nat) (h : i < S.length), queue i = ((S[i] : Nat) : Int)) ∧ ∀ k, k < 100 → under k = if k ∈ S ∧ k ≠ x then 1 else 0
theorem qn_M.add {x : Nat} {S : List Nat} {n many : Int} {queue under : Nat → Int} (h : qn_M x S n many queue under) {y : Nat} (hy : y < 100) (hm : y ∉ S) : S.length < 100 ∧ qn_M x (S ++ [y]) (n + 1) (many + 1) (va_up queue many.toNat (y : Int)) (va_up under y 1) := by
  obtain ⟨e1, e2, hn, hb, hx, hq, hu⟩ := h
  have hlt : S.length < 100 := by
    have h2 := ps_len 100 (y :: S) (List.nodup_cons.mpr ⟨hm, hn⟩) (fun z hz => (List.mem_cons.mp hz).elim (fun q => by omega) (hb z))
    simp at h2
    omega
  have hyx : y ≠ x := fun e => hm (e ▸ hx)
  refine ⟨hlt, by rw [e1, List.length_append]; simp, by rw [e2, List.length_append, List.length_singleton]; omega, ?_, ?_, List.mem_append_left _ hx, ?_, ?_⟩
  · rw [List.nodup_append]
    refine ⟨hn, by simp, ?_⟩
    intro a ha b hb2 he
    simp at hb2
    subst hb2
    exact hm (he ▸ ha)
  · intro z hz
    rcases List.mem_append.mp hz with h1 | h1
    · exact hb z h1
    · simp at h1
      omega
  · intro i hii
    rw [e1, Int.toNat_natCast]
    rw [List.length_append, List.length_singleton] at hii
    by_cases hq2 : i = S.length
    · subst hq2
      rw [va_up_self]
      simp
    · rw [va_up_ne _ _ hq2, hq i (by omega), List.getElem_append_left]
  · intro k hk
    by_cases hq2 : k = y
    · subst hq2
      rw [va_up_self, if_pos ⟨List.mem_append_right _ (List.mem_singleton.mpr rfl), hyx⟩]
    · rw [va_up_ne _ _ hq2, hu k hk]
      by_cases hm2 : k ∈ S ∧ k ≠ x
      · rw [if_pos hm2, if_pos ⟨List.mem_append_left _ hm2.1, hm2.2⟩]
      · rw [if_neg hm2, if_neg (fun z => hm2 ⟨(List.mem_append.mp z.1).elim id (fun v => absurd (List.mem_singleton.mp v) hq2), z.2⟩)]
theorem qn_L4 {xs : List Nat} {has hasMany x12 : Nat → Int} {x4 : Int} {l x y : Nat} (hl : l < 10) (hy : y < 100) (e12 : x12 x4.toNat = (y : Int)) (h1 : hasMany (l * 100 + y) = (xs.length : Int)) (h12 : xs.length ≤ 12) (hx : ∀ z ∈ xs, z < 100) (h3 : ∀ (i : Nat) (h : i < xs.length), has ((l * 100 + y) * 12 + i) = ((xs[i] : Nat) : Int)) (hne : ∀ z ∈ xs, z ≠ x) :
    ∀ (f i : Nat) (S : List Nat) (n many : Int) (queue under : Nat → Int), i ≤ xs.length → xs.length + 1 ≤ i + f → qn_M x S n many queue under →
      ∃ (n' many' : Int) (queue' under' : Nat → Int), fX10_markUnder_L4 has hasMany x4 (l : Int) x12 f (i : Int) n many queue under = some (n', many', queue', under') ∧ qn_M x (pr_addAll S (xs.drop i)) n' many' queue' under' := by
  have er : (((l : Nat) : Int) * (100 : Int) + (y : Int)) = ((l * 100 + y : Nat) : Int) := by omega
  intro f
  induction f with
  | zero => intro i S n many queue under h1 h2; omega
  | succ f ih =>
    intro i S n many queue under hi hf hM
    rw [fX10_markUnder_L4, e12, er, tl_gt ⟨by omega, by omega⟩, Int.toNat_natCast, h1, tl_gt ⟨⟨by omega, by omega⟩, ⟨by omega, by omega⟩⟩]
    by_cases q : i < xs.length
    · have hm := hx _ (List.getElem_mem q)
      have hn := hne _ (List.getElem_mem q)
      have hu := hM.2.2.2.2.2.2 _ hm
      have ei : (i : Int) + 1 = ((i + 1 : Nat) : Int) := by omega
      rw [if_pos (by omega), tl_gt ⟨by omega, by omega⟩, qr_ix, h3 i q, tl_gt ⟨by omega, by omega⟩, Int.toNat_natCast, ei, List.drop_eq_getElem_cons q, pr_addAll]
      by_cases hin : xs[i] ∈ S
      · rw [if_pos ⟨hin, hn⟩] at hu
        rw [if_pos hin, tl_gt (by rw [hu]; decide), if_neg (by rw [hu]; decide)]
        exact ih (i + 1) S n many queue under q (by omega) hM
      · rw [if_neg (fun z => hin z.1)] at hu
        obtain ⟨hlt, hM2⟩ := hM.add hm hin
        have he := hM.1
        rw [if_neg hin, tl_gt (by rw [hu]; decide), if_pos hu, tl_gt ⟨⟨by omega, by omega⟩, Or.inr rfl⟩, tl_gt ⟨by omega, by omega⟩]
        exact ih (i + 1) _ _ _ _ _ q (by omega) hM2
    · rw [if_neg (by omega), List.drop_eq_nil_of_le (by omega)]
      exact ⟨n, many, queue, under, rfl, hM⟩
theorem qn_L3 {nl : Nat} {fo fr ru to fo2 fr2 ru2 to2 : Nat → Int} (hT : ht_R nl fo fr ru to fo2 fr2 ru2 to2) {U : Nat → Bool} {w : Nat → Nat → List Nat} {has hasMany : Nat → Int} (hh : qu_R U w hasMany has) {q x y : Nat} (hy : y < 100) (hU : U y = true) (hq : q < 100) (hne : ∀ z ∈ pw_own nl ru w y, z ≠ x) :
    ∀ (f m l : Nat) (S : List Nat) (n many : Int) (queue under : Nat → Int), l + m = nl → m + 1 ≤ f → (∃ h : q < S.length, S[q] = y) → qn_M x S n many queue under →
      ∃ (n' many' : Int) (queue' under' : Nat → Int), fX10_markUnder_L3 (nl : Int) has hasMany ru2 (q : Int) f (l : Int) n many queue under = some (n', many', queue', under') ∧ qn_M x (pr_addAll S (pw_from ru w y m l)) n' many' queue' under' := by
  have hn10 := hT.1
  intro f
  induction f with
  | zero => intro m l S n many queue under h1 h2; omega
  | succ f ih =>
    intro m l S n many queue under hlm hf hS hM
    rw [fX10_markUnder_L3, tl_gt ⟨⟨by omega, by omega⟩, ⟨by omega, by omega⟩⟩]
    cases m with
    | zero =>
      rw [if_neg (by omega)]
      exact ⟨n, many, queue, under, rfl, hM⟩
    | succ m =>
      have hTl := hT.2 l (by omega)
      have hru := hTl.2.2.1
      rw [if_pos (by omega), tl_gt ⟨by omega, by omega⟩, Int.toNat_natCast, hru, tl_gt ⟨⟨by omega, by omega⟩, by decide⟩, show (l : Int) + 1 = ((l + 1 : Nat) : Int) by omega, pw_from, pr_addAll_app]
      by_cases r : ru l = 1
      · obtain ⟨h1, h2, h3, h4⟩ := qu_many hh (l := l) (by omega) hy hU
        obtain ⟨hS1, hS2⟩ := hS
        have e12 : queue ((q : Int)).toNat = (y : Int) := by
          rw [Int.toNat_natCast, hM.2.2.2.2.2.1 q hS1, hS2]
        obtain ⟨n2, m2, q2, u2, a1, a2⟩ := qn_L4 (x := x) (by omega) hy e12 h1 h2 h4 h3 (fun z hz => hne z (pw_mem_own.mpr ⟨l, by omega, r, hz⟩)) tl_N 0 S n many queue under (Nat.zero_le _) (by unfold tl_N; omega) hM
        rw [show ((0 : Nat) : Int) = (0 : Int) from rfl] at a1
        rw [List.drop_zero] at a2
        rw [if_pos r, if_pos r, tl_gt ⟨by omega, by omega⟩, a1, pr_b]
        dsimp only
        obtain ⟨t, ht⟩ := pr_addAll_pre (w l y) S
        exact ih m (l + 1) _ n2 m2 q2 u2 (by omega) (by omega) ⟨by rw [ht, List.length_append]; omega, by simp only [ht]; rw [List.getElem_append_left hS1]; exact hS2⟩ a2
      · rw [if_neg r, if_neg r]
        exact ih m (l + 1) _ n many queue under (by omega) (by omega) hS hM
theorem qn_L2 {nl : Nat} {fo fr ru to fo2 fr2 ru2 to2 : Nat → Int} (hT : ht_R nl fo fr ru to fo2 fr2 ru2 to2) {U : Nat → Bool} {w : Nat → Nat → List Nat} {has hasMany : Nat → Int} (hh : qu_R U w hasMany has) {x : Nat} {P : Nat → Prop} (hP : ∀ y, P y → y < 100 ∧ U y = true ∧ ∀ z ∈ pw_own nl ru w y, z ≠ x ∧ P z) :
    ∀ (f g i : Nat) (S : List Nat) (n many : Int) (queue under d : Nat → Int), i + g = 100 → g + 1 ≤ f → i ≤ S.length → (∀ y ∈ S, P y) → qn_M x S n many queue under →
      ∃ (n' : Int) (queue' under' : Nat → Int), fX10_markUnder_L2 (nl : Int) has hasMany ru2 f (i : Int) n many queue under = some (n', queue', under') ∧ ∃ many', qn_M x (pw_bfs (pw_own nl ru w) g i S d).1 n' many' queue' under' := by
  intro f
  induction f with
  | zero => intro g i S n many queue under d h1 h2; omega
  | succ f ih =>
    intro g i S n many queue under d hg hf hi hS hM
    have he := hM.1
    have hle := ps_len 100 S hM.2.2.1 hM.2.2.2.1
    rw [fX10_markUnder_L2, tl_gt ⟨⟨by omega, by omega⟩, ⟨by omega, by omega⟩⟩]
    by_cases q : i < S.length
    · cases g with
      | zero => omega
      | succ g =>
        obtain ⟨p1, p2, p3⟩ := hP _ (hS _ (List.getElem_mem q))
        obtain ⟨n2, m2, q2, u2, a1, a2⟩ := qn_L3 (x := x) (q := i) hT hh p1 p2 (by omega) (fun z hz => (p3 z hz).1) tl_N nl 0 S n many queue under (by omega) (by have := hT.1; unfold tl_N; omega) ⟨q, rfl⟩ hM
        rw [show ((0 : Nat) : Int) = (0 : Int) from rfl] at a1
        rw [if_pos (by omega), a1, pr_b, pw_bfs, dif_pos q]
        dsimp only
        obtain ⟨t, ht⟩ := pr_addAll_pre (pw_own nl ru w S[i]) S
        rw [show (i : Int) + 1 = ((i + 1 : Nat) : Int) by omega]
        refine ih g (i + 1) _ n2 m2 q2 u2 _ (by omega) (by omega) (by rw [ht, List.length_append]; omega) (fun y hy => ?_) a2
        rcases (pr_mem_addAll _ _).mp hy with r | r
        · exact hS y r
        · exact (p3 y r).2
    · rw [if_neg (by omega)]
      refine ⟨n, queue, under, rfl, many, ?_⟩
      cases g with
      | zero => exact hM
      | succ g =>
        rw [pw_bfs, dif_neg q]
        exact hM
theorem qn_L1 : ∀ (n i : Nat) (x : Nat → Int), i ≤ 100 → 101 ≤ i + n → ∃ x', fX10_markUnder_L1 n (i : Int) x = some x' ∧ ∀ k, k < 100 → x' k = if i ≤ k then 0 else x k := by
  intro n
  induction n with
  | zero => intro i x h1 h2; omega
  | succ n ih =>
    intro i x hi hn
    rw [fX10_markUnder_L1, tl_gt ⟨⟨by omega, by omega⟩, by decide⟩]
    by_cases hq : i < 100
    · rw [if_pos (by omega), tl_gt ⟨⟨by omega, by omega⟩, Or.inl rfl⟩, Int.toNat_natCast, show (i : Int) + 1 = ((i + 1 : Nat) : Int) by omega]
      obtain ⟨x', h1, h2⟩ := ih (i + 1) (va_up x i 0) hq (by omega)
      refine ⟨x', h1, fun k hk => ?_⟩
      rw [h2 k hk]
      by_cases h3 : k = i
      · rw [h3, va_up_self, if_neg (by omega), if_pos (by omega)]
      · rw [va_up_ne _ _ h3]
        by_cases h4 : i + 1 ≤ k
        · rw [if_pos h4, if_pos (by omega)]
        · rw [if_neg h4, if_neg (by omega)]
    · rw [if_neg (by omega)]
      exact ⟨x, rfl, fun k hk => by rw [if_neg (by omega)]⟩
theorem hq_mark {t o m pm km lv ra : Int} {nl : Nat} {fo fr ru to fo2 fr2 ru2 to2 : Nat → Int} (hT : ht_R nl fo fr ru to fo2 fr2 ru2 to2) {g : Int} {U : Nat → Bool} {nu : Nat → Int} {w d : Nat → Nat → List Nat} (h : hs_I nl fo ru g U nu w d) {has hasMany queue under : Nat → Int} (hh : qu_R U w hasMany has) {x : Nat} (hx : x < 100) (hU : U x = true) :
    ∃ (queue' under' : Nat → Int), fX10_markUnder t (nl : Int) o m pm km lv ra has hasMany queue ru2 under (x : Int) = some (((pw_spread (pw_own nl ru w) x).1.length : Int) - 1, queue', under') ∧ ∀ k, k < 100 → under' k = if k ∈ (pw_spread (pw_own nl ru w) x).1 ∧ k ≠ x then 1 else 0 := by
  obtain ⟨u1, a1, a2⟩ := qn_L1 tl_N 0 under (by omega) (by unfold tl_N; omega)
  rw [show ((0 : Nat) : Int) = (0 : Int) from rfl] at a1
  have hM : qn_M x [x] 0 1 (va_up queue ((0 : Int).toNat) (x : Int)) u1 := by
    refine ⟨rfl, rfl, by simp, fun s hs => by rw [List.mem_singleton.mp hs]; exact hx, by simp, fun i hi => ?_, fun k hk => ?_⟩
    · have h0 : i = 0 := by simpa using hi
      subst h0
      exact va_up_self _ _ _
    · rw [a2 k hk, if_pos (Nat.zero_le _), if_neg (fun z => z.2 (List.mem_singleton.mp z.1))]
  obtain ⟨n', q', u', b1, m', b2⟩ := qn_L2 (P := fun y => y < 100 ∧ U y = true ∧ ∃ n, hs_pa (pw_own nl ru w) n x y) hT hh (x := x) (fun y hy => by
    obtain ⟨y1, y2, n, y3⟩ := hy
    refine ⟨y1, y2, fun z hz => ?_⟩
    have g1 := hs_own_w h hz
    have g2 : hs_pa (pw_own nl ru w) (n + 1) x z := hs_pa_app n 1 x y z y3 ⟨z, hz, rfl⟩
    exact ⟨fun e => h.ac n x (e ▸ g2), g1.2.1, g1.2.2.2.1, n + 1, g2⟩) tl_N 100 0 [x] 0 1 _ u1 (fun _ => 0) (by omega) (by unfold tl_N; omega) (Nat.zero_le _) (fun y hy => by
      rw [List.mem_singleton.mp hy]
      exact ⟨hx, hU, 0, rfl⟩) hM
  rw [show ((0 : Nat) : Int) = (0 : Int) from rfl] at b1
  have b3 : qn_M x (pw_spread (pw_own nl ru w) x).1 n' m' q' u' := b2
  unfold fX10_markUnder
  rw [a1, pr_b, tl_gt (by decide), b1, pr_b]
  exact ⟨q', u', by rw [b3.2.1], b3.2.2.2.2.2.2⟩
