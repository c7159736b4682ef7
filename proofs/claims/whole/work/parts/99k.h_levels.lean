/-! the levels: houses that were saved, and what was kept of them -/
abbrev hH : Type := (Nat → Bool) × (Nat → Int) × (Nat → Int) × (Nat → Nat → List Nat) × (Nat → Nat → List Nat)
def lv_e (h : hH) : List Int := ke_h h.1 h.2.1 h.2.2.1 h.2.2.2.1 h.2.2.2.2 0 100
def lv_I (nl : Nat) (fo ru : Nat → Int) (g : Int) (h : hH) : Prop := hs_I nl fo ru g h.1 h.2.1 h.2.2.2.1 h.2.2.2.2 ∧ ∀ k, k < 100 → h.1 k = true → tl_R (h.2.2.1 k)
def lv_K (lv : Nat) (hh : Nat → hH) (f at_ : Nat → Int) (many : Nat) : Prop := ∃ pos : Nat → Nat, pos 0 = 0 ∧ pos lv = many ∧ ∀ i, i < lv → at_ i = (pos i : Int) ∧ pos (i + 1) = pos i + (lv_e (hh i)).length ∧ ke_at f (pos i) (lv_e (hh i))
theorem lv_e_len {nl : Nat} {fo ru : Nat → Int} {g : Int} {h : hH} (hI : lv_I nl fo ru g h) : (lv_e h).length ≤ 26200 := by
  have := ke_h_len (U := h.1) (nu := h.2.1) (ki := h.2.2.1) hI.1.len 100 0
  unfold lv_e
  omega
theorem lv_K.zero (hh : Nat → hH) (f at_ : Nat → Int) : lv_K 0 hh f at_ 0 := ⟨fun _ => 0, rfl, rfl, fun i hi => absurd hi (by omega)⟩
theorem lv_K.pos_le {lv : Nat} {hh : Nat → hH} {pos : Nat → Nat} {f at_ : Nat → Int} (h : ∀ i, i < lv → at_ i = (pos i : Int) ∧ pos (i + 1) = pos i + (lv_e (hh i)).length ∧ ke_at f (pos i) (lv_e (hh i))) : ∀ (j i : Nat), i + j ≤ lv → pos i ≤ pos (i + j) := by
  intro j
  induction j with
  | zero => intro i _; exact Nat.le_refl _
  | succ j ih =>
    intro i hi
    have a := ih i (by omega)
    have b := (h (i + j) (by omega)).2.1
    rw [show i + (j + 1) = i + j + 1 by omega]
    omega
theorem lv_K.many {lv : Nat} {hh : Nat → hH} {f at_ : Nat → Int} {many : Nat} (hK : lv_K lv hh f at_ many) {nl : Nat} {fo ru : Nat → Int} {g : Int} (hI : ∀ i, i < lv → lv_I nl fo ru g (hh i)) : many ≤ 26200 * lv := by
  obtain ⟨pos, h0, h1, h⟩ := hK
  have : ∀ i, i ≤ lv → pos i ≤ 26200 * i := by
    intro i
    induction i with
    | zero => intro _; omega
    | succ i ih =>
      intro hi
      have a := ih (by omega)
      have b := (h i (by omega)).2.1
      have c := lv_e_len (hI i (by omega))
      omega
  rw [← h1]
  exact this lv (Nat.le_refl _)
theorem lv_K.push {lv : Nat} {hh : Nat → hH} {f at_ : Nat → Int} {many : Nat} (hK : lv_K lv hh f at_ many) (h : hH) {f2 : Nat → Int} (e : ∀ i, i < many → f2 i = f i) (hk : ke_at f2 many (lv_e h)) : lv_K (lv + 1) (va_up hh lv h) f2 (va_up at_ lv (many : Int)) (many + (lv_e h).length) := by
  obtain ⟨pos, h0, h1, hp⟩ := hK
  refine ⟨va_up pos (lv + 1) (many + (lv_e h).length), ?_, va_up_self _ _ _, fun i hi => ?_⟩
  · rw [va_up_ne _ _ (by omega)]
    exact h0
  · rw [va_up_ne pos _ (show i ≠ lv + 1 by omega)]
    by_cases q : i = lv
    · subst q
      rw [va_up_self, va_up_self, va_up_self, h1]
      exact ⟨rfl, rfl, hk⟩
    · have z := hp i (by omega)
      rw [va_up_ne _ _ q, va_up_ne _ _ q, va_up_ne pos _ (show i + 1 ≠ lv + 1 by omega)]
      refine ⟨z.1, z.2.1, z.2.2.same (n := many) ?_ e⟩
      have := lv_K.pos_le hp (lv - (i + 1)) (i + 1) (by omega)
      rw [show i + 1 + (lv - (i + 1)) = lv by omega, h1] at this
      have := z.2.1
      omega
theorem lv_K.pop {lv : Nat} {hh : Nat → hH} {f at_ : Nat → Int} {many : Nat} (hK : lv_K (lv + 1) hh f at_ many) : ∃ m : Nat, at_ lv = (m : Int) ∧ lv_K lv hh f at_ m ∧ m + (lv_e (hh lv)).length = many ∧ ke_at f m (lv_e (hh lv)) := by
  obtain ⟨pos, h0, h1, hp⟩ := hK
  have z := hp lv (by omega)
  exact ⟨pos lv, z.1, ⟨pos, h0, rfl, fun i hi => hp i (by omega)⟩, by omega, z.2.2⟩
def lf_level : Nat → Int
  | 5 => 1
  | _ => 0
theorem hs_I.lt {nl : Nat} {fo ru : Nat → Int} {g : Int} {U : Nat → Bool} {nu : Nat → Int} {w d : Nat → Nat → List Nat} (h : hs_I nl fo ru g U nu w d) : (∀ l s, ∀ x ∈ w l s, x < 100) ∧ ∀ l s, ∀ x ∈ d l s, x < 100 :=
  ⟨fun l s x hx => (h.row l s x hx).2.2.1, fun l s x hx => (h.row l x s ((h.tw l x s).mpr hx)).2.1⟩
/-- end, not kept: the house that was saved -/
theorem qe_back {L : Nat} (hL : L ≤ 2147483647) {lv : Nat} (hlv : lv + 1 ≤ 12) {hh : Nat → hH} {f at_ : Nat → Int} {many : Nat} (hK : lv_K (lv + 1) hh f at_ many) (hm : many ≤ L) {nl : Nat} {fo ru : Nat → Int} {g : Int} (hg : g ≤ 1000000) (hI : lv_I nl fo ru g (hh lv)) {U : Nat → Bool} {nu ki : Nat → Int} {w d : Nat → Nat → List Nat} {ob : Int} {had hadMany has hasMany kind number used : Nat → Int} (hq : hq_R U nu ki w d ob had hadMany has hasMany kind number used) (th li nm pm ra : Int) :
    ∃ (m : Nat) (ra' ob' : Int) (had' hadMany' has' hasMany' kind' number' used' : Nat → Int), fX10_end L th li ob nm pm (many : Int) (((lv + 1 : Nat)) : Int) ra had hadMany has hasMany f kind at_ number used 0 = some ((lv : Int), had', hadMany', has', hasMany', kind', number', used', (m : Int), (lv : Int), ob', ra', 0) ∧ lv_K lv hh f at_ m ∧ m ≤ many ∧ hq_R (hh lv).1 (hh lv).2.1 (hh lv).2.2.1 (hh lv).2.2.2.1 (hh lv).2.2.2.2 ob' had' hadMany' has' hasMany' kind' number' used' := by
  obtain ⟨m, h1, h2, h3, h4⟩ := hK.pop
  obtain ⟨Hs, Hk⟩ := hI
  obtain ⟨-, ⟨Rd, hd, -⟩, ⟨Rh, hhh, -⟩, hki, hnu, hus⟩ := hq
  obtain ⟨ra', ob', g1, g2, g3, g4, g5, g6, g7, e, hq'⟩ := rb_T1 hL 0 li nm pm (many : Int) (lv : Int) Hs.len Hs.lt.1 Hs.lt.2 (fun k hk hU => by have := Hs.num k hk hU; omega) Hk 100 tl_N 0 m 0 had hadMany has hasMany kind number used Rh Rd (by omega) (by unfold tl_N; omega) h4 (by unfold lv_e at h3; omega) rfl hhh hd (fun l2 s2 _ z => absurd z (by omega)) (fun k hk => ⟨(hki k hk).1, fun z => absurd z (by omega)⟩) (fun k hk => ⟨(hnu k hk).1, fun z => absurd z (by omega)⟩) (fun k z => absurd z (by omega))
  rw [show ((0 : Nat) : Int) = (0 : Int) from rfl] at e
  refine ⟨m, ra', ob', g1, g2, g3, g4, g5, g6, g7, ?_, h2, by omega, hq'⟩
  have hn : ¬ (((lv + 1 : Nat) : Int) = 0) := by omega
  have hl1 : ((lv + 1 : Nat) : Int) - (1 : Int) = (lv : Int) := by omega
  unfold fX10_end fX10_fails fX10_takeBack
  rw [tl_gt ⟨by omega, by omega⟩, if_neg hn, pr_b, tl_gt ⟨by omega, by omega⟩, if_pos rfl, pr_b, tl_gt ⟨by omega, by omega⟩, if_pos rfl, tl_gt ⟨by omega, by omega⟩, if_pos rfl, hl1, tl_gt ⟨by omega, by omega⟩, Int.toNat_natCast, h1, e, pr_b]
  dsimp only
  rw [pr_b, pr_b, tl_gt ⟨by omega, by omega⟩]
theorem qe_kept {L : Nat} {lv : Nat} (hlv : lv + 1 ≤ 12) {hh : Nat → hH} {f at_ : Nat → Int} {many : Nat} (hK : lv_K (lv + 1) hh f at_ many) (th li ob nm pm ra : Int) (had hadMany has hasMany kind number used : Nat → Int) {p1 : Int} (hp : tl_R p1) (hp0 : ¬ p1 = 0) :
    ∃ (m : Nat), fX10_end L th li ob nm pm (many : Int) (((lv + 1 : Nat)) : Int) ra had hadMany has hasMany f kind at_ number used p1 = some ((lv : Int), had, hadMany, has, hasMany, kind, number, used, (m : Int), (lv : Int), ob, ra, 0) ∧ lv_K lv hh f at_ m ∧ m ≤ many := by
  obtain ⟨m, h1, h2, h3, h4⟩ := hK.pop
  refine ⟨m, ?_, h2, by omega⟩
  have hn : ¬ (((lv + 1 : Nat) : Int) = 0) := by omega
  have hl1 : ((lv + 1 : Nat) : Int) - (1 : Int) = (lv : Int) := by omega
  unfold fX10_end fX10_fails
  rw [tl_gt ⟨by omega, by omega⟩, if_neg hn, pr_b, tl_gt ⟨by omega, by omega⟩, if_pos rfl, pr_b, tl_gt ⟨by omega, by omega⟩, if_pos rfl, tl_gt hp, if_neg hp0, pr_b, hl1, tl_gt ⟨by omega, by omega⟩, Int.toNat_natCast, h1]
theorem qe_none {L : Nat} (th li ob nm pm km ra : Int) (had hadMany has hasMany kept kind at_ number used : Nat → Int) (p1 : Int) :
    fX10_end L th li ob nm pm km 0 ra had hadMany has hasMany kept kind at_ number used p1 = some (0, had, hadMany, has, hasMany, kind, number, used, km, 0, ob, ra, 1) := by
  unfold fX10_end fX10_fails
  rw [tl_gt ⟨by omega, by omega⟩, if_pos rfl, pr_b, tl_gt ⟨by omega, by omega⟩, if_neg (by omega), pr_b, tl_gt ⟨by omega, by omega⟩, if_neg (by omega)]
