/-! what holds of a house holds behind a join, a move in a row, a newcomer -/
theorem hs_mem_ins {xs : List Nat} {i y z : Nat} : z ∈ xs.take i ++ y :: xs.drop i ↔ z ∈ xs ∨ z = y := by
  have h : z ∈ xs ↔ z ∈ xs.take i ∨ z ∈ xs.drop i := by
    rw [← List.mem_append, List.take_append_drop]
  rw [List.mem_append, List.mem_cons, h]
  constructor
  · rintro (a | a | a)
    · exact Or.inl (Or.inl a)
    · exact Or.inr a
    · exact Or.inl (Or.inr a)
  · rintro ((a | a) | a)
    · exact Or.inl a
    · exact Or.inr (Or.inr a)
    · exact Or.inr (Or.inl a)
theorem hs_nd_ins {xs : List Nat} {i y : Nat} (h : xs.Nodup) (hy : y ∉ xs) : (xs.take i ++ y :: xs.drop i).Nodup := by
  rw [(List.perm_middle (a := y) (l₁ := xs.take i) (l₂ := xs.drop i)).nodup_iff, List.take_append_drop, List.nodup_cons]
  exact ⟨hy, h⟩
theorem hs_len_ins {xs : List Nat} {i y : Nat} : (xs.take i ++ y :: xs.drop i).length = xs.length + 1 := by
  rw [(List.perm_middle (a := y) (l₁ := xs.take i) (l₂ := xs.drop i)).length_eq, List.take_append_drop, List.length_cons]
theorem hs_mem_put {w : Nat → Nat → List Nat} {l x i y l2 s2 z : Nat} : z ∈ hs_put w l x i y l2 s2 ↔ z ∈ w l2 s2 ∨ (l2 = l ∧ s2 = x ∧ z = y) := by
  unfold hs_put
  by_cases q : l2 = l ∧ s2 = x
  · obtain ⟨rfl, rfl⟩ := q
    rw [pr_set_at, hs_mem_ins]
    simp
  · rw [pr_set_ne _ _ q]
    exact ⟨Or.inl, fun h => h.elim id (fun z => absurd ⟨z.1, z.2.1⟩ q)⟩
theorem hs_app_put (w : Nat → Nat → List Nat) (l x y : Nat) : pr_set w l x (w l x ++ [y]) = hs_put w l x (w l x).length y := by
  unfold hs_put
  rw [List.take_length, List.drop_length]
theorem hs_split {own own2 : Nat → List Nat} {x y : Nat} (h : ∀ a, ∀ b ∈ own2 a, b ∈ own a ∨ (a = x ∧ b = y)) : ∀ (n a b : Nat), hs_pa own2 n a b → hs_pa own n a b ∨ ∃ n1 n2, hs_pa own n1 a x ∧ hs_pa own n2 y b
  | 0, a, b, e => Or.inl e
  | n + 1, a, b, ⟨z, h1, h2⟩ => by
    rcases h a z h1 with q | ⟨rfl, rfl⟩
    · rcases hs_split h n z b h2 with r | ⟨n1, n2, r1, r2⟩
      · exact Or.inl ⟨z, q, r⟩
      · exact Or.inr ⟨n1 + 1, n2, ⟨z, q, r1⟩, r2⟩
    · rcases hs_split h n z b h2 with r | ⟨n1, n2, r1, r2⟩
      · exact Or.inr ⟨0, n, rfl, r⟩
      · exact Or.inr ⟨0, n2, rfl, r2⟩
theorem hs_I.join {nl : Nat} {fo ru : Nat → Int} {g : Int} {U : Nat → Bool} {nu : Nat → Int} {w d : Nat → Nat → List Nat} (h : hs_I nl fo ru g U nu w d) {l x y i : Nat} (hl : l < nl) (hx : x < 100) (hy : y < 100) (hUx : U x = true) (hUy : U y = true) (hm : y ∉ w l x) (h12 : (w l x).length < 12) (hd12 : (d l y).length < 12) (h1 : fo l = 0 → (w l x).length = 0) (hac : ru l = 1 → ∀ n, ¬ hs_pa (pw_own nl ru w) n y x) : hs_I nl fo ru g U nu (hs_put w l x i y) (pr_set d l y (d l y ++ [x])) := by
  rw [hs_app_put]
  refine ⟨h.num, h.inj, fun l2 s z hz => ?_, fun l2 s z => ?_, fun l2 s => ⟨?_, ?_⟩, fun l2 s => ⟨?_, ?_⟩, fun l2 g1 g2 s => ?_, fun n z q => ?_⟩
  · rcases hs_mem_put.mp hz with q | ⟨rfl, rfl, rfl⟩
    · exact h.row l2 s z q
    · exact ⟨hl, hx, hy, hUx, hUy⟩
  · rw [hs_mem_put, hs_mem_put, h.tw l2 s z]
    exact ⟨fun q => q.elim Or.inl (fun r => Or.inr ⟨r.1, r.2.2, r.2.1⟩), fun q => q.elim Or.inl (fun r => Or.inr ⟨r.1, r.2.2, r.2.1⟩)⟩
  · unfold hs_put
    by_cases q : l2 = l ∧ s = x
    · obtain ⟨rfl, rfl⟩ := q
      rw [pr_set_at]
      exact hs_nd_ins (h.nd _ _).1 hm
    · rw [pr_set_ne _ _ q]
      exact (h.nd l2 s).1
  · unfold hs_put
    by_cases q : l2 = l ∧ s = y
    · obtain ⟨rfl, rfl⟩ := q
      rw [pr_set_at]
      exact hs_nd_ins (h.nd _ _).2 (fun z => hm ((h.tw _ _ _).mpr z))
    · rw [pr_set_ne _ _ q]
      exact (h.nd l2 s).2
  · unfold hs_put
    by_cases q : l2 = l ∧ s = x
    · obtain ⟨rfl, rfl⟩ := q
      rw [pr_set_at, hs_len_ins]
      exact h12
    · rw [pr_set_ne _ _ q]
      exact (h.len l2 s).1
  · unfold hs_put
    by_cases q : l2 = l ∧ s = y
    · obtain ⟨rfl, rfl⟩ := q
      rw [pr_set_at, hs_len_ins]
      exact hd12
    · rw [pr_set_ne _ _ q]
      exact (h.len l2 s).2
  · unfold hs_put
    by_cases q : l2 = l ∧ s = x
    · obtain ⟨rfl, rfl⟩ := q
      rw [pr_set_at, hs_len_ins, h1 g2]
      exact Nat.le_refl _
    · rw [pr_set_ne _ _ q]
      exact h.one l2 g1 g2 s
  · by_cases hr : ru l = 1
    · have hsp : ∀ a, ∀ b ∈ pw_own nl ru (hs_put w l x i y) a, b ∈ pw_own nl ru w a ∨ (a = x ∧ b = y) := by
        intro a b hb
        obtain ⟨k, k1, k2, k3⟩ := pw_mem_own.mp hb
        rcases hs_mem_put.mp k3 with r | ⟨_, r2, r3⟩
        · exact Or.inl (pw_mem_own.mpr ⟨k, k1, k2, r⟩)
        · exact Or.inr ⟨r2, r3⟩
      rcases hs_split hsp _ _ _ q with r | ⟨n1, n2, r1, r2⟩
      · exact h.ac n z r
      · exact hac hr _ (hs_pa_app _ _ _ _ _ r2 r1)
    · refine h.ac n z (hs_pa_mono (fun a b hb => ?_) _ _ _ q)
      obtain ⟨k, k1, k2, k3⟩ := pw_mem_own.mp hb
      rcases hs_mem_put.mp k3 with r | ⟨r1, _, _⟩
      · exact pw_mem_own.mpr ⟨k, k1, k2, r⟩
      · exact absurd (r1 ▸ k2) hr
theorem hs_I.move {nl : Nat} {fo ru : Nat → Int} {g : Int} {U : Nat → Bool} {nu : Nat → Int} {w d : Nat → Nat → List Nat} (h : hs_I nl fo ru g U nu w d) {l x y : Nat} (i : Nat) (hm : y ∈ w l x) : hs_I nl fo ru g U nu (hs_put (hs_cut w l x y) l x i y) d := by
  have hmem : ∀ l2 s z, z ∈ hs_put (hs_cut w l x y) l x i y l2 s ↔ z ∈ w l2 s := by
    intro l2 s z
    rw [hs_mem_put, hs_mem_cut]
    constructor
    · rintro (q | ⟨rfl, rfl, rfl⟩)
      · exact q.1
      · exact hm
    · intro q
      by_cases r : l2 = l ∧ s = x ∧ z = y
      · exact Or.inr r
      · exact Or.inl ⟨q, r⟩
  have hlen : ∀ l2 s, (hs_put (hs_cut w l x y) l x i y l2 s).length = (w l2 s).length := by
    intro l2 s
    unfold hs_put
    by_cases q : l2 = l ∧ s = x
    · obtain ⟨rfl, rfl⟩ := q
      rw [pr_set_at, hs_len_ins]
      unfold hs_cut
      rw [pr_set_at]
      exact pr_wo_len (h.nd _ _).1 hm
    · rw [pr_set_ne _ _ q]
      unfold hs_cut
      rw [pr_set_ne _ _ q]
  refine ⟨h.num, h.inj, fun l2 s z hz => h.row l2 s z ((hmem _ _ _).mp hz), fun l2 s z => by rw [hmem]; exact h.tw l2 s z, fun l2 s => ⟨?_, (h.nd l2 s).2⟩, fun l2 s => ⟨by rw [hlen]; exact (h.len l2 s).1, (h.len l2 s).2⟩, fun l2 g1 g2 s => by rw [hlen]; exact h.one l2 g1 g2 s, fun n z q => h.ac n z (hs_pa_mono (hs_own_sub (fun l2 s v hv => (hmem _ _ _).mp hv)) _ _ _ q)⟩
  unfold hs_put
  by_cases q : l2 = l ∧ s = x
  · obtain ⟨rfl, rfl⟩ := q
    rw [pr_set_at]
    exact hs_nd_ins (hs_cut_nd (h.nd _ _).1) (fun z => (hs_mem_cut.mp z).2 ⟨rfl, rfl, rfl⟩)
  · rw [pr_set_ne _ _ q]
    exact hs_cut_nd (h.nd _ _).1
theorem hs_I.none {nl : Nat} {fo ru : Nat → Int} {g : Int} {U : Nat → Bool} {nu : Nat → Int} {w d : Nat → Nat → List Nat} (h : hs_I nl fo ru g U nu w d) {p : Nat} (hp : U p = false) (l : Nat) : w l p = [] ∧ d l p = [] := by
  constructor
  · refine List.eq_nil_iff_forall_not_mem.mpr (fun z hz => ?_)
    have := (h.row l p z hz).2.2.2.1
    rw [hp] at this
    cases this
  · refine List.eq_nil_iff_forall_not_mem.mpr (fun z hz => ?_)
    have := (h.row l z p ((h.tw l z p).mpr hz)).2.2.2.2
    rw [hp] at this
    cases this
theorem hs_I.adm {nl : Nat} {fo ru : Nat → Int} {g : Int} {U : Nat → Bool} {nu : Nat → Int} {w d : Nat → Nat → List Nat} (h : hs_I nl fo ru g U nu w d) {p : Nat} (hg : 0 ≤ g) : hs_I nl fo ru (g + 1) (va_up U p true) (va_up nu p g) w d := by
  have hU : ∀ k, U k = true → va_up U p true k = true := by
    intro k hk
    unfold va_up
    by_cases q : k = p
    · rw [if_pos q]
    · rw [if_neg q]
      exact hk
  refine ⟨fun k hk hq => ?_, fun j k hj hk h1 h2 e => ?_, fun l s x hx => ?_, h.tw, h.nd, h.len, h.one, h.ac⟩
  · by_cases q : k = p
    · rw [q, va_up_self]
      omega
    · rw [va_up_ne _ _ q] at hq ⊢
      have := h.num k hk hq
      omega
  · by_cases q : j = p
    · by_cases r : k = p
      · rw [q, r]
      · rw [va_up_ne _ _ r] at h2 e
        rw [q, va_up_self] at e
        have := h.num k hk h2
        omega
    · rw [va_up_ne _ _ q] at h1 e
      by_cases r : k = p
      · rw [r, va_up_self] at e
        have := h.num j hj h1
        omega
      · rw [va_up_ne _ _ r] at h2 e
        exact h.inj j k hj hk h1 h2 e
  · obtain ⟨a, b, c, e, f⟩ := h.row l s x hx
    exact ⟨a, b, c, hU s e, hU x f⟩
