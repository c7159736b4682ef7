/-! what begin keeps, as a list of a house -/
def ke_v (xs : List Nat) : List Int := xs.map (fun (x : Nat) => (x : Int))
def ke_q (w d : Nat → Nat → List Nat) (l s : Nat) : List Int := ((w l s).length : Int) :: (ke_v (w l s) ++ ((d l s).length : Int) :: ke_v (d l s))
def ke_r (w d : Nat → Nat → List Nat) (s : Nat) : Nat → Nat → List Int
  | _, 0 => []
  | l, j + 1 => ke_q w d l s ++ ke_r w d s (l + 1) j
def ke_o (U : Nat → Bool) (nu ki : Nat → Int) (w d : Nat → Nat → List Nat) (s : Nat) : List Int := if U s = true then nu s :: ki s :: ke_r w d s 0 10 else [-1]
def ke_h (U : Nat → Bool) (nu ki : Nat → Int) (w d : Nat → Nat → List Nat) : Nat → Nat → List Int
  | _, 0 => []
  | s, j + 1 => ke_o U nu ki w d s ++ ke_h U nu ki w d (s + 1) j
theorem ke_v_eq {row : Nat → Int} {xs : List Nat} {b : Nat} (h : ∀ (i : Nat) (h : i < xs.length), row (b * 12 + i) = ((xs[i] : Nat) : Int)) : ∀ (j x : Nat), x + j = xs.length → kp_v row (b : Int) (x : Int) j = ke_v (xs.drop x) := by
  intro j
  induction j with
  | zero =>
    intro x e
    rw [List.drop_eq_nil_of_le (by omega)]
    rfl
  | succ j ih =>
    intro x e
    rw [kp_v, List.drop_eq_getElem_cons (show x < xs.length by omega), show ((b : Int) * (12 : Int) + (x : Int)).toNat = b * 12 + x by omega, h x (by omega), show (x : Int) + 1 = ((x + 1 : Nat) : Int) by omega, ih (x + 1) (by omega)]
    rfl
theorem ke_q_eq {U : Nat → Bool} {w d : Nat → Nat → List Nat} {hm ha dm da : Nat → Int} (hh : qu_R U w hm ha) (hd : qu_R U d dm da) {l s : Nat} (hl : l < 10) (hs : s < 100) (hU : U s = true) : kp_q hm ha dm da (((l : Int) * (100 : Int)) + (s : Int)) = ke_q w d l s := by
  obtain ⟨Rw, h1, e1⟩ := hh
  obtain ⟨Rd, h2, e2⟩ := hd
  obtain ⟨a1, a2, a3, a4⟩ := h1 l s hl hs
  obtain ⟨b1, b2, b3, b4⟩ := h2 l s hl hs
  have z1 := ke_v_eq (b := l * 100 + s) a3 (Rw l s).length 0 (by omega)
  have z2 := ke_v_eq (b := l * 100 + s) b3 (Rd l s).length 0 (by omega)
  rw [List.drop_zero, show ((0 : Nat) : Int) = (0 : Int) from rfl] at z1 z2
  unfold kp_q ke_q
  rw [show (((l : Int) * (100 : Int)) + (s : Int)).toNat = l * 100 + s by omega, a1, b1, Int.toNat_natCast, Int.toNat_natCast, show (((l : Int) * (100 : Int)) + (s : Int)) = ((l * 100 + s : Nat) : Int) by omega, z1, z2, e1 l s hl hs hU, e2 l s hl hs hU]
theorem ke_r_eq {U : Nat → Bool} {w d : Nat → Nat → List Nat} {hm ha dm da : Nat → Int} (hh : qu_R U w hm ha) (hd : qu_R U d dm da) {s : Nat} (hs : s < 100) (hU : U s = true) : ∀ (j l : Nat), l + j = 10 → kp_r hm ha dm da (s : Int) (l : Int) j = ke_r w d s l j := by
  intro j
  induction j with
  | zero => intro l _; rfl
  | succ j ih =>
    intro l e
    rw [kp_r, ke_r, ke_q_eq hh hd (by omega) hs hU, show (l : Int) + 1 = ((l + 1 : Nat) : Int) by omega, ih (l + 1) (by omega)]
theorem ke_h_eq {U : Nat → Bool} {nu ki : Nat → Int} {w d : Nat → Nat → List Nat} {ob : Int} {had hadMany has hasMany kind number used : Nat → Int} (hq : hq_R U nu ki w d ob had hadMany has hasMany kind number used) : ∀ (j s : Nat), s + j = 100 → kp_h hasMany has hadMany had number kind used (s : Int) j = ke_h U nu ki w d s j := by
  obtain ⟨_, hd, hh, hk, hn, hu⟩ := hq
  intro j
  induction j with
  | zero => intro s _; rfl
  | succ j ih =>
    intro s e
    rw [kp_h, ke_h, show (s : Int) + 1 = ((s + 1 : Nat) : Int) by omega, ih (s + 1) (by omega)]
    congr 1
    unfold kp_o ke_o
    rw [Int.toNat_natCast, hu s (by omega)]
    by_cases q : U s = true
    · rw [if_pos q, if_pos q, if_neg (by decide), (hn s (by omega)).2 q, (hk s (by omega)).2 q]
      have z := ke_r_eq hh hd (s := s) (by omega) q 10 0 (by omega)
      rw [show ((0 : Nat) : Int) = (0 : Int) from rfl] at z
      rw [z]
    · rw [if_neg q, if_neg q, if_pos rfl]
theorem ke_r_len {w d : Nat → Nat → List Nat} (h : ∀ l s, (w l s).length ≤ 12 ∧ (d l s).length ≤ 12) (s : Nat) : ∀ (j l : Nat), (ke_r w d s l j).length ≤ 26 * j := by
  intro j
  induction j with
  | zero => intro l; exact Nat.le_refl _
  | succ j ih =>
    intro l
    have a := ih (l + 1)
    have b := h l s
    rw [ke_r, List.length_append]
    unfold ke_q ke_v
    simp only [List.length_cons, List.length_append, List.length_map]
    omega
theorem ke_h_len {U : Nat → Bool} {nu ki : Nat → Int} {w d : Nat → Nat → List Nat} (h : ∀ l s, (w l s).length ≤ 12 ∧ (d l s).length ≤ 12) : ∀ (j s : Nat), (ke_h U nu ki w d s j).length ≤ 262 * j := by
  intro j
  induction j with
  | zero => intro s; exact Nat.le_refl _
  | succ j ih =>
    intro s
    have a := ih (s + 1)
    have b := ke_r_len h s 10 0
    rw [ke_h, List.length_append]
    unfold ke_o
    split
    · simp only [List.length_cons]
      omega
    · simp only [List.length_cons, List.length_nil]
      omega
/-- from place a on the list is kept -/
def ke_at (f : Nat → Int) (a : Nat) (vs : List Int) : Prop := ∀ (i : Nat) (h : i < vs.length), f (a + i) = vs[i]
theorem ke_at.cons {f : Nat → Int} {a : Nat} {v : Int} {vs : List Int} (h : ke_at f a (v :: vs)) : f a = v ∧ ke_at f (a + 1) vs := by
  refine ⟨h 0 (by simp), fun i hi => ?_⟩
  have := h (i + 1) (by simpa using hi)
  rw [show a + 1 + i = a + (i + 1) by omega, this]
  rfl
theorem ke_at.app {f : Nat → Int} {a : Nat} {u v : List Int} (h : ke_at f a (u ++ v)) : ke_at f a u ∧ ke_at f (a + u.length) v := by
  refine ⟨fun i hi => ?_, fun i hi => ?_⟩
  · rw [h i (by rw [List.length_append]; omega), List.getElem_append_left hi]
  · have := h (u.length + i) (by rw [List.length_append]; omega)
    rw [show a + u.length + i = a + (u.length + i) by omega, this, List.getElem_append_right (by omega)]
    congr 1
    omega
theorem ke_at.same {f g : Nat → Int} {a : Nat} {vs : List Int} (h : ke_at f a vs) {n : Nat} (hn : a + vs.length ≤ n) (e : ∀ i, i < n → g i = f i) : ke_at g a vs := fun i hi => by rw [e _ (by omega), h i hi]
theorem kp_1_f {s : Nat × (Nat → Int) × Nat} (hok : kp_ok s) (v : Int) : (∀ i, i < s.2.2 → (kp_1 s v).2.1 i = s.2.1 i) ∧ (kp_1 s v).2.1 s.2.2 = v := by
  unfold kp_1
  by_cases e : s.2.2 = kp_L s.1
  · rw [if_pos e]
    refine ⟨fun i hi => ?_, va_up_self _ _ _⟩
    show va_up _ _ _ i = _
    rw [va_up_ne _ _ (by omega)]
    unfold kp_g
    rw [if_pos (by omega)]
  · rw [if_neg e]
    exact ⟨fun i hi => va_up_ne _ _ (by omega), va_up_self _ _ _⟩
theorem kp_all_f (vs : List Int) : ∀ {s : Nat × (Nat → Int) × Nat}, kp_ok s → (∀ i, i < s.2.2 → (kp_all s vs).2.1 i = s.2.1 i) ∧ ke_at (kp_all s vs).2.1 s.2.2 vs := by
  induction vs with
  | nil => intro s _; exact ⟨fun _ _ => rfl, fun i hi => absurd hi (by simp)⟩
  | cons v vs ih =>
    intro s hok
    obtain ⟨a1, a2⟩ := kp_1_f hok v
    obtain ⟨b1, b2⟩ := ih (kp_1_ok (v := v) hok)
    rw [kp_1_n] at b1 b2
    rw [kp_all_cons]
    refine ⟨fun i hi => by rw [b1 i (by omega), a1 i hi], fun i hi => ?_⟩
    cases i with
    | zero =>
      rw [Nat.add_zero, b1 _ (by omega), a2]
      rfl
    | succ i =>
      rw [show s.2.2 + (i + 1) = s.2.2 + 1 + i by omega, b2 i (by simpa using hi)]
      rfl
theorem kp_all_9 (vs : List Int) : ∀ {s : Nat × (Nat → Int) × Nat}, s.1 ≤ 9 → s.2.2 + vs.length ≤ 314400 → (kp_all s vs).1 ≤ 9 := by
  induction vs with
  | nil => intro s h _; exact h
  | cons v vs ih =>
    intro s h hn
    rw [List.length_cons] at hn
    rw [kp_all_cons]
    refine ih ?_ (by rw [kp_1_n]; omega)
    unfold kp_1
    by_cases e : s.2.2 = kp_L s.1
    · rw [if_pos e]
      show s.1 + 1 ≤ 9
      have : ¬ 9 ≤ s.1 := fun q => by
        have a := kp_L_mono q
        have b : kp_L 9 = 524288 := rfl
        omega
      omega
    · rw [if_neg e]
      exact h
theorem hs_I.later {nl : Nat} {fo ru : Nat → Int} {g g2 : Int} {U : Nat → Bool} {nu : Nat → Int} {w d : Nat → Nat → List Nat} (h : hs_I nl fo ru g U nu w d) (hg : g ≤ g2) : hs_I nl fo ru g2 U nu w d :=
  ⟨fun k hk hU => ⟨(h.num k hk hU).1, by have := (h.num k hk hU).2; omega⟩, h.2⟩
/-- the class's copy of a house is that house -/
theorem hc_cpy {U : Nat → Bool} {nu ki : Nat → Int} {w d : Nat → Nat → List Nat} {ob pa : Int} {dl : Nat → Int} {dw : Nat → Int64} {hl : Nat → Int} {hw : Nat → Int64} {kk nn : Nat → Int} (h : hc_R U nu ki w d ob pa dl dw hl hw kk nn) (ob2 pa2 : Int) (dl2 : Nat → Int) (dw2 : Nat → Int64) (hl2 : Nat → Int) (hw2 : Nat → Int64) (kk2 nn2 : Nat → Int) :
    ∃ z, fX1_takeFrom ob2 pa2 dl2 dw2 hl2 hw2 kk2 nn2 ob pa dl dw hl hw kk nn = some z ∧ hc_R U nu ki w d z.2.2.2.2.2.2.1 z.2.2.2.2.2.2.2 z.1 z.2.1 z.2.2.1 z.2.2.2.1 z.2.2.2.2.1 z.2.2.2.2.2.1 := by
  obtain ⟨h1, h2, h3, h4, h5, h6⟩ := h
  have C : ∀ {α : Type} (f g : Nat → α) (n k : Nat), k < n → va_cpy f g 0 0 n k = f k := fun f g n k hk => by
    unfold va_cpy
    rw [if_pos ⟨Nat.zero_le _, by omega⟩]
    congr 1
    omega
  have PR : ∀ {Rw : Nat → Nat → List Nat} {len : Nat → Int} {w : Nat → Int64} (len2 : Nat → Int) (w2 : Nat → Int64), pr_R Rw len w → pr_R Rw (va_cpy len len2 0 0 1000) (va_cpy w w2 0 0 2000) := by
    intro Rw len w len2 w2 h l s hl hs
    obtain ⟨a1, a2, a3, a4⟩ := h l s hl hs
    refine ⟨by rw [C _ _ _ _ (by omega)]; exact a1, a2, fun i hi => ?_, a4⟩
    rw [← a3 i hi]
    unfold pr_rd
    rw [C _ _ _ _ (by omega)]
  refine ⟨_, rfl, h1, h2, PR _ _ h3, PR _ _ h4, fun k hk => ?_, fun k hk => ?_⟩
  · show tl_R (va_cpy kk kk2 0 0 100 k) ∧ (U k = true → va_cpy kk kk2 0 0 100 k = ki k)
    rw [C _ _ _ _ hk]
    exact h5 k hk
  · show va_cpy nn nn2 0 0 100 k = _
    rw [C _ _ _ _ hk]
    exact h6 k hk
theorem fi_L1 : ∀ (n i : Nat) (f : Nat → Int), i ≤ 100 → 101 ≤ i + n → (∀ k, k < i → f k = -1) → ∃ z, fX1_init_L1 n (i : Int) f = some z ∧ ∀ k, k < 100 → z k = -1 := by
  intro n
  induction n with
  | zero => intro i f h1 h2; omega
  | succ n ih =>
    intro i f hi hn hf
    rw [fX1_init_L1, tl_gt ⟨⟨by omega, by omega⟩, ⟨by omega, by omega⟩⟩]
    by_cases q : i < 100
    · rw [if_pos (by omega), tl_gt ⟨by omega, by omega⟩, Int.toNat_natCast, show (i : Int) + 1 = ((i + 1 : Nat) : Int) by omega]
      refine ih (i + 1) _ (by omega) (by omega) (fun k hk => ?_)
      unfold va_up
      by_cases e : k = i
      · rw [if_pos e]
      · rw [if_neg e]
        exact hf k (by omega)
    · rw [if_neg (by omega)]
      exact ⟨f, rfl, fun k hk => hf k (by omega)⟩
theorem fi_X1 : ∃ z, fX1_init = some z ∧ ∀ k, k < 100 → z k = -1 := by
  obtain ⟨z, h1, h2⟩ := fi_L1 tl_N 0 (fun _ => 0) (by omega) (by unfold tl_N; omega) (fun k hk => absurd hk (by omega))
  refine ⟨z, ?_, h2⟩
  rw [show ((0 : Nat) : Int) = (0 : Int) from rfl] at h1
  unfold fX1_init fX3_init
  rw [pr_b, pr_b, h1, pr_b]
