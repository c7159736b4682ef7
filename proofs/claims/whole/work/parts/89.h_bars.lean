/-! drop: what bars it -/
def hb_ru (ru : Nat → Int) (l : Nat) : Int := if ru l = 2 then 1 else 0
theorem hb_one {ru : Nat → Int} {l : Nat} : hb_ru ru l = 1 ↔ ru l = 2 := by
  unfold hb_ru
  by_cases h : ru l = 2
  · rw [if_pos h]
    exact ⟨fun _ => h, fun _ => rfl⟩
  · rw [if_neg h]
    exact ⟨fun z => by omega, fun z => absurd z h⟩
theorem cb_L2 {ob pa : Int} {G : List Nat} {gl : Int} {gi gs cn : Nat → Int} (hG : ps_S G gl gi gs) {w : Nat → Nat → List Nat} {hl : Nat → Int} {hw : Nat → Int64} (hh : pr_R w hl hw) (hc : ∀ k, k < 100 → tl_R (cn k)) {l s : Nat} (hl10 : l < 10) (hs : s < 100) :
    ∀ (n i : Nat) (b : Int), i ≤ (w l s).length → (w l s).length + 1 ≤ i + n → (b = -1 ∨ ∃ k : Nat, k < 100 ∧ b = (k : Int)) → fX2_leastBar_L2 gl gi ob pa hl hw cn (s : Int) (l : Int) ((w l s).length : Int) n (i : Int) b = some (pl_fold (fun y => y ∉ G) cn b ((w l s).drop i)) := by
  obtain ⟨_, h12, _, h4⟩ := hh l s hl10 hs
  intro n
  induction n with
  | zero => intro i b h1 h2; omega
  | succ n ih =>
    intro i b hi hn2 hb
    rw [fX2_leastBar_L2, tl_gt ⟨⟨by omega, by omega⟩, ⟨by omega, by omega⟩⟩]
    by_cases hq : i < (w l s).length
    · have hm := h4 _ (List.getElem_mem hq)
      unfold fX1_has
      rw [if_pos (by omega), pr_b, pr_get hh hl10 hs hq, pr_b, ps_holds hG hm, pr_b, show (i : Int) + 1 = ((i + 1 : Nat) : Int) by omega, List.drop_eq_getElem_cons hq, pl_fold]
      unfold pl_step
      by_cases hP : (w l s)[i] ∈ G
      · rw [if_pos hP, tl_gt (by decide), if_neg (by decide), pr_b, tl_gt (by decide), if_pos rfl, if_neg (fun z => z.1 hP)]
        exact ih (i + 1) _ hq (by omega) hb
      · rw [if_neg hP, tl_gt (by decide), if_pos rfl, pr_b, tl_gt (by decide), if_neg (by decide)]
        rcases hb with rfl | ⟨k, hk, rfl⟩
        · rw [tl_gt (by decide), if_pos rfl, if_pos ⟨hP, Or.inl (by decide)⟩]
          exact ih (i + 1) _ hq (by omega) (Or.inr ⟨_, hm, rfl⟩)
        · rw [tl_gt ⟨⟨by omega, by omega⟩, by decide⟩, if_neg (by omega), ph_numberOf hm, pr_b, ph_numberOf hk, pr_b, tl_gt ⟨hc _ hm, hc _ hk⟩, Int.toNat_natCast]
          by_cases hlt : cn (w l s)[i] < cn k
          · rw [if_pos hlt, if_pos ⟨hP, Or.inr hlt⟩]
            exact ih (i + 1) _ hq (by omega) (Or.inr ⟨_, hm, rfl⟩)
          · rw [if_neg hlt, if_neg (fun z => z.2.elim (fun q => by omega) hlt)]
            exact ih (i + 1) _ hq (by omega) (Or.inr ⟨_, hk, rfl⟩)
    · rw [if_neg (by omega), List.drop_eq_nil_of_le (by omega)]
      rfl
theorem cb_L1 {ob pa : Int} {G : List Nat} {gl : Int} {gi gs cn : Nat → Int} (hG : ps_S G gl gi gs) {w : Nat → Nat → List Nat} {hl : Nat → Int} {hw : Nat → Int64} (hh : pr_R w hl hw) (hc : ∀ k, k < 100 → tl_R (cn k)) {nl : Nat} {ru : Nat → Int} (hn : nl ≤ 10) (hr : ∀ l, l < nl → tl_R (ru l)) {s : Nat} (hs : s < 100) :
    ∀ (n m l : Nat) (b : Int), l + m = nl → m + 1 ≤ n → (b = -1 ∨ ∃ k : Nat, k < 100 ∧ b = (k : Int)) → fX2_leastBar_L1 gl gi (nl : Int) ru ob pa hl hw cn (s : Int) n (l : Int) b = some (pl_fold (fun y => y ∉ G) cn b (pw_from (hb_ru ru) w s m l)) := by
  obtain ⟨n9, hn9⟩ : ∃ n9, tl_N = n9 + 1 := ⟨999999, by unfold tl_N; omega⟩
  intro n
  induction n with
  | zero => intro m l b h1 h2; omega
  | succ n ih =>
    intro m l b hlm hn2 hb
    rw [fX2_leastBar_L1]
    unfold fX5_howMany
    rw [pr_b, tl_gt ⟨⟨by omega, by omega⟩, ⟨by omega, by omega⟩⟩]
    cases m with
    | zero =>
      rw [if_neg (by omega)]
      rfl
    | succ m =>
      obtain ⟨_, h12, _, h4⟩ := hh l s (by omega) hs
      rw [if_pos (by omega), pt_hasRule hn (by omega) (hr l (by omega)) (by decide), pr_b, show (l : Int) + 1 = ((l + 1 : Nat) : Int) by omega, pw_from, pl_fold_app]
      by_cases q : ru l = 2
      · have e := cb_L2 (ob := ob) (pa := pa) hG hh hc (l := l) (by omega) hs tl_N 0 b (Nat.zero_le _) (by unfold tl_N; omega) hb
        rw [show ((0 : Nat) : Int) = (0 : Int) from rfl, List.drop_zero] at e
        unfold fX1_has
        rw [if_pos q, tl_gt (by decide), if_neg (by decide), pr_b, pr_lengthOf hh (by omega) hs, pr_b, pr_b, e, pr_b, if_pos (hb_one.mpr q)]
        exact ih m (l + 1) _ (by omega) (by omega) (pl_fold_slot _ _ h4 hb)
      · rw [if_neg q, tl_gt (by decide), if_pos rfl, pr_b, hn9, fX2_leastBar_L2, tl_gt (by decide), if_neg (by decide), pr_b, if_neg (fun z => q (hb_one.mp z))]
        exact ih m (l + 1) _ (by omega) (by omega) hb
theorem qb_L2 {xs : List Nat} {gone has hasMany num : Nat → Int} {l x : Nat} (hl : l < 10) (hx100 : x < 100) (h1 : hasMany (l * 100 + x) = (xs.length : Int)) (h12 : xs.length ≤ 12) (hx : ∀ y ∈ xs, y < 100) (h3 : ∀ (i : Nat) (h : i < xs.length), has ((l * 100 + x) * 12 + i) = ((xs[i] : Nat) : Int)) (hn : ∀ k, k < 100 → tl_R (num k)) (hg : ∀ k, k < 100 → tl_R (gone k)) :
    ∀ (n i : Nat) (b : Int), i ≤ xs.length → xs.length + 1 ≤ i + n → (b = -1 ∨ ∃ k : Nat, k < 100 ∧ b = (k : Int)) → fX10_barred_L2 gone has hasMany num (x : Int) (l : Int) n (i : Int) b = some (pl_fold (fun y => gone y = 0) num b (xs.drop i)) := by
  have er : (((l : Nat) : Int) * (100 : Int) + (x : Int)) = ((l * 100 + x : Nat) : Int) := by omega
  intro n
  induction n with
  | zero => intro i b h1 h2; omega
  | succ n ih =>
    intro i b hi hn2 hb
    rw [fX10_barred_L2, er, tl_gt ⟨by omega, by omega⟩, Int.toNat_natCast, h1, tl_gt ⟨⟨by omega, by omega⟩, ⟨by omega, by omega⟩⟩]
    by_cases hq : i < xs.length
    · have hm := hx _ (List.getElem_mem hq)
      rw [if_pos (by omega), tl_gt ⟨by omega, by omega⟩, qr_ix, h3 i hq, tl_gt ⟨by omega, by omega⟩, Int.toNat_natCast, tl_gt (hg _ hm), show (i : Int) + 1 = ((i + 1 : Nat) : Int) by omega, List.drop_eq_getElem_cons hq, pl_fold]
      unfold pl_step
      by_cases hP : gone xs[i] = 0
      · rw [if_pos hP]
        rcases hb with rfl | ⟨k, hk, rfl⟩
        · rw [tl_gt (by decide), if_pos (by decide), if_pos ⟨hP, Or.inl (by decide)⟩]
          exact ih (i + 1) _ hq (by omega) (Or.inr ⟨_, hm, rfl⟩)
        · rw [tl_gt ⟨by omega, by omega⟩, if_neg (by omega), tl_gt ⟨by omega, by omega⟩, tl_gt ⟨by omega, by omega⟩, Int.toNat_natCast, tl_gt ⟨hn _ hm, hn _ hk⟩]
          by_cases hlt : num xs[i] < num k
          · rw [if_pos hlt, if_pos ⟨hP, Or.inr hlt⟩]
            exact ih (i + 1) _ hq (by omega) (Or.inr ⟨_, hm, rfl⟩)
          · rw [if_neg hlt, if_neg (fun z => z.2.elim (fun q => by omega) hlt)]
            exact ih (i + 1) _ hq (by omega) (Or.inr ⟨_, hk, rfl⟩)
      · rw [if_neg hP, if_neg (fun z => hP z.1)]
        exact ih (i + 1) _ hq (by omega) hb
    · rw [if_neg (by omega), List.drop_eq_nil_of_le (by omega)]
      rfl
theorem qb_L1 {nl : Nat} {fo fr ru to fo2 fr2 ru2 to2 : Nat → Int} (hT : ht_R nl fo fr ru to fo2 fr2 ru2 to2) {U : Nat → Bool} {w : Nat → Nat → List Nat} {gone has hasMany num : Nat → Int} (hh : qu_R U w hasMany has) {x : Nat} (hx : x < 100) (hU : U x = true) (hn : ∀ k, k < 100 → tl_R (num k)) (hg : ∀ k, k < 100 → tl_R (gone k)) :
    ∀ (n m l : Nat) (b : Int), l + m = nl → m + 1 ≤ n → (b = -1 ∨ ∃ k : Nat, k < 100 ∧ b = (k : Int)) → fX10_barred_L1 (nl : Int) gone has hasMany num ru2 (x : Int) n (l : Int) b = some (pl_fold (fun y => gone y = 0) num b (pw_from (hb_ru ru) w x m l)) := by
  have hn10 := hT.1
  intro n
  induction n with
  | zero => intro m l b h1 h2; omega
  | succ n ih =>
    intro m l b hlm hn2 hb
    rw [fX10_barred_L1, tl_gt ⟨⟨by omega, by omega⟩, ⟨by omega, by omega⟩⟩]
    cases m with
    | zero =>
      rw [if_neg (by omega)]
      rfl
    | succ m =>
      have hTl := hT.2 l (by omega)
      have hru := hTl.2.2.1
      rw [if_pos (by omega), tl_gt ⟨by omega, by omega⟩, Int.toNat_natCast, hru, tl_gt ⟨⟨by omega, by omega⟩, by decide⟩, show (l : Int) + 1 = ((l + 1 : Nat) : Int) by omega, pw_from, pl_fold_app]
      by_cases q : ru l = 2
      · obtain ⟨h1, h2, h3, h4⟩ := qu_many hh (l := l) (by omega) hx hU
        have e := qb_L2 (num := num) (gone := gone) (l := l) (by omega) hx h1 h2 h4 h3 hn hg tl_N 0 b (Nat.zero_le _) (by unfold tl_N; omega) hb
        rw [show ((0 : Nat) : Int) = (0 : Int) from rfl, List.drop_zero] at e
        rw [if_pos q, e, pr_b, if_pos (hb_one.mpr q)]
        exact ih m (l + 1) _ (by omega) (by omega) (pl_fold_slot _ _ h4 hb)
      · rw [if_neg q, if_neg (fun z => q (hb_one.mp z))]
        exact ih m (l + 1) _ (by omega) (by omega) hb
/-- the least, by number, of what s has by a link that bars and that stays -/
def hb_b (nl : Nat) (ru nu : Nat → Int) (w : Nat → Nat → List Nat) (G : List Nat) (s : Nat) : Int := pl_fold (fun y => y ∉ G) nu (-1) (pw_own nl (hb_ru ru) w s)
theorem hs_bar_w {nl : Nat} {fo ru : Nat → Int} {g : Int} {U : Nat → Bool} {nu : Nat → Int} {w d : Nat → Nat → List Nat} (h : hs_I nl fo ru g U nu w d) {ru3 : Nat → Int} {x y : Nat} (hy : y ∈ pw_own nl ru3 w x) : y < 100 ∧ U y = true := by
  obtain ⟨k, _, _, k3⟩ := pw_mem_own.mp hy
  have := h.row k x y k3
  exact ⟨this.2.2.1, this.2.2.2.2⟩
theorem cb_bar {ob pa : Int} {nl : Nat} {fo ru : Nat → Int} {g : Int} {U : Nat → Bool} {nu ki : Nat → Int} {w d : Nat → Nat → List Nat} (h : hs_I nl fo ru g U nu w d) (hg : g ≤ 1000000) (hn : nl ≤ 10) (hr : ∀ l, l < nl → tl_R (ru l)) {ob2 pa2 : Int} {dl : Nat → Int} {dw : Nat → Int64} {hl : Nat → Int} {hw : Nat → Int64} {kk nn : Nat → Int} (hR : hc_R U nu ki w d ob2 pa2 dl dw hl hw kk nn) {G : List Nat} {gl : Int} {gi gs : Nat → Int} (hG : ps_S G gl gi gs) {s : Nat} (hs : s < 100) : fX2_leastBar gl gi (nl : Int) ru ob pa hl hw nn (s : Int) = some (hb_b nl ru nu w G s) := by
  have hnn := hR.2.2.2.2.2
  have e := cb_L1 (ob := ob) (pa := pa) hG hR.2.2.2.1 (hc_nR h hg hR) hn hr hs tl_N nl 0 (-1) (by omega) (by unfold tl_N; omega) (Or.inl rfl)
  rw [show ((0 : Nat) : Int) = (0 : Int) from rfl] at e
  unfold fX2_leastBar
  rw [e, pr_b]
  have h6 := (pl_fold_is (P := fun y => y ∉ G) (num := nn) (pw_own nl (hb_ru ru) w s)).congr (nu := nu) (Q := fun y => y ∉ G) (fun y hy => by rw [hnn y (hs_bar_w h hy).1, if_pos (hs_bar_w h hy).2]) (fun _ _ => Iff.rfl)
  have h7 := pl_fold_is (P := fun y => y ∉ G) (num := nu) (pw_own nl (hb_ru ru) w s)
  exact congrArg some (h6.one h7 (fun y => Iff.rfl) (fun y hy z hz => h.inj y z (hs_bar_w h hy).1 (hs_bar_w h hz).1 (hs_bar_w h hy).2 (hs_bar_w h hz).2))
theorem qb_bar {t o m pm km lv ra : Int} {nl : Nat} {fo fr ru to fo2 fr2 ru2 to2 : Nat → Int} (hT : ht_R nl fo fr ru to fo2 fr2 ru2 to2) {g : Int} {U : Nat → Bool} {nu ki : Nat → Int} {w d : Nat → Nat → List Nat} (h : hs_I nl fo ru g U nu w d) {ob : Int} {had hadMany has hasMany kind number used gone : Nat → Int} (hQ : hq_R U nu ki w d ob had hadMany has hasMany kind number used) {G : List Nat} (hgo : ∀ k, k < 100 → (gone k = 0 ∨ gone k = 1) ∧ (gone k ≠ 0 ↔ k ∈ G)) {x : Nat} (hx : x < 100) (hU : U x = true) : fX10_barred t (nl : Int) o m pm km lv ra gone has hasMany number ru2 (x : Int) = some (hb_b nl ru nu w G x) := by
  have e := qb_L1 (gone := gone) (num := number) hT hQ.2.2.1 hx hU (fun k hk => (hQ.2.2.2.2.1 k hk).1) (fun k hk => by
    rcases (hgo k hk).1 with z | z
    · rw [z]; decide
    · rw [z]; decide) tl_N nl 0 (-1) (by omega) (by have := hT.1; unfold tl_N; omega) (Or.inl rfl)
  rw [show ((0 : Nat) : Int) = (0 : Int) from rfl] at e
  unfold fX10_barred
  rw [e, pr_b]
  have h6 := (pl_fold_is (P := fun y => gone y = 0) (num := number) (pw_own nl (hb_ru ru) w x)).congr (nu := nu) (Q := fun y => y ∉ G) (fun y hy => (hQ.2.2.2.2.1 y (hs_bar_w h hy).1).2 (hs_bar_w h hy).2) (fun y hy => by
    have := (hgo y (hs_bar_w h hy).1).2
    exact ⟨fun z v => (this.mpr v) z, fun z => by
      by_cases v : gone y = 0
      · exact v
      · exact absurd (this.mp v) z⟩)
  have h7 := pl_fold_is (P := fun y => y ∉ G) (num := nu) (pw_own nl (hb_ru ru) w x)
  exact congrArg some (h6.one h7 (fun y => Iff.rfl) (fun y hy z hz => h.inj y z (hs_bar_w h hy).1 (hs_bar_w h hz).1 (hs_bar_w h hy).2 (hs_bar_w h hz).2))
theorem hb_is {nl : Nat} {fo ru : Nat → Int} {g : Int} {U : Nat → Bool} {nu : Nat → Int} {w d : Nat → Nat → List Nat} (h : hs_I nl fo ru g U nu w d) (G : List Nat) (s : Nat) : hb_b nl ru nu w G s = -1 ∨ ∃ k : Nat, hb_b nl ru nu w G s = (k : Int) ∧ k < 100 ∧ U k = true ∧ k ∉ G := by
  rcases pl_fold_is (P := fun y => y ∉ G) (num := nu) (pw_own nl (hb_ru ru) w s) with ⟨h1, _⟩ | ⟨k, h1, h2, h3, _⟩
  · exact Or.inl h1
  · exact Or.inr ⟨k, h1, (hs_bar_w h h2).1, (hs_bar_w h h2).2, h3⟩
