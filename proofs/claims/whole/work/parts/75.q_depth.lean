/-! depth: the longest way up -/
def hd_hp (own : Nat → List Nat) (n x : Nat) : Prop := ∃ z, hs_pa own n x z
theorem hd_list {own : Nat → List Nat} (ac : ∀ n x, ¬ hs_pa own (n + 1) x x) (hb : ∀ x, ∀ y ∈ own x, x < 100 ∧ y < 100) : ∀ (n x z : Nat), x < 100 → hs_pa own n x z → ∃ S : List Nat, S.length = n + 1 ∧ S.Nodup ∧ (∀ y ∈ S, y < 100 ∧ ∃ m, hs_pa own m x y)
  | 0, x, z, hx, _ => ⟨[x], rfl, by simp, fun y hy => by rw [List.mem_singleton.mp hy]; exact ⟨hx, 0, rfl⟩⟩
  | n + 1, x, z, hx, ⟨v, h1, h2⟩ => by
    obtain ⟨S, a1, a2, a3⟩ := hd_list ac hb n v z (hb x v h1).2 h2
    refine ⟨x :: S, by rw [List.length_cons, a1], List.nodup_cons.mpr ⟨fun q => ?_, a2⟩, fun y hy => ?_⟩
    · obtain ⟨_, m, hm⟩ := a3 x q
      exact ac m x ⟨v, h1, hm⟩
    · rcases List.mem_cons.mp hy with q | q
      · rw [q]
        exact ⟨hx, 0, rfl⟩
      · obtain ⟨b1, m, hm⟩ := a3 y q
        exact ⟨b1, m + 1, v, h1, hm⟩
theorem hd_lt {own : Nat → List Nat} (ac : ∀ n x, ¬ hs_pa own (n + 1) x x) (hb : ∀ x, ∀ y ∈ own x, x < 100 ∧ y < 100) {n x : Nat} (hx : x < 100) (h : hd_hp own n x) : n < 100 := by
  obtain ⟨z, hz⟩ := h
  obtain ⟨S, a1, a2, a3⟩ := hd_list ac hb n x z hx hz
  have := ps_len 100 S a2 (fun y hy => (a3 y hy).1)
  omega
theorem hd_down {own : Nat → List Nat} : ∀ (n m x : Nat), m ≤ n → hd_hp own n x → hd_hp own m x
  | _, 0, x, _, _ => ⟨x, rfl⟩
  | 0, m + 1, _, h, _ => by omega
  | n + 1, m + 1, x, h, ⟨z, v, h1, h2⟩ => by
    obtain ⟨z2, h3⟩ := hd_down n m v (by omega) ⟨z, h2⟩
    exact ⟨z2, v, h1, h3⟩
theorem hs_pa_rev {own own2 : Nat → List Nat} (h : ∀ x, ∀ y ∈ own x, x ∈ own2 y) : ∀ (n x y : Nat), hs_pa own n x y → hs_pa own2 n y x
  | 0, x, y, e => by
    have e2 : x = y := e
    exact e2.symm
  | n + 1, x, y, ⟨z, h1, h2⟩ => hs_pa_app n 1 y z x (hs_pa_rev h n z y h2) ⟨x, h x z h1, rfl⟩
theorem hs_ac_d {nl : Nat} {fo ru : Nat → Int} {g : Int} {U : Nat → Bool} {nu : Nat → Int} {w d : Nat → Nat → List Nat} (h : hs_I nl fo ru g U nu w d) : ∀ n x, ¬ hs_pa (pw_own nl ru d) (n + 1) x x := fun n x q => h.ac n x (hs_pa_rev (fun a b hb => (hs_own_d h hb).2.2.2.2) _ _ _ q)
def hd_V (own : Nat → List Nat) (st : Nat → Int) : Prop := ∀ k, k < 100 → ∃ a : Nat, st k = (a : Int) ∧ hd_hp own a k
def hd_Sm (st : Nat → Int) : Nat := hs_sum (fun k => (st k).toNat) 100
theorem hd_Sm_up {st : Nat → Int} {y : Nat} {v : Int} (hy : y < 100) (h0 : 0 ≤ st y) (h : st y < v) : hd_Sm st < hd_Sm (va_up st y v) := by
  have h1 := hs_sum_one (f := fun k => (va_up st y v k).toNat) (g := fun k => (st k).toNat) (i := y) 100 hy (fun k _ hk => by
    show (va_up st y v k).toNat = _
    rw [va_up_ne _ _ hk])
  simp only [va_up_self] at h1
  unfold hd_Sm
  have h2 : (st y).toNat < v.toNat := by omega
  omega
theorem hd_Sm_le {own : Nat → List Nat} (ac : ∀ n x, ¬ hs_pa own (n + 1) x x) (hb : ∀ x, ∀ y ∈ own x, x < 100 ∧ y < 100) {st : Nat → Int} (h : hd_V own st) : hd_Sm st ≤ 9900 := by
  have : ∀ n, n ≤ 100 → hs_sum (fun k => (st k).toNat) n ≤ 99 * n := by
    intro n
    induction n with
    | zero => intro _; exact Nat.le_refl _
    | succ n ih =>
      intro hn
      have h1 := ih (by omega)
      obtain ⟨a, e1, e2⟩ := h n (by omega)
      have h3 := hd_lt ac hb (x := n) (by omega) e2
      have h2 : (st n).toNat ≤ 99 := by omega
      rw [hs_sum]
      omega
  exact this 100 (Nat.le_refl _)
def hd_S (own : Nat → List Nat) (ok : Prop) (g : Int) (st : Nat → Int) (g' : Int) (st' : Nat → Int) : Prop := hd_V own st' ∧ ((g' = g ∧ st' = st ∧ ok) ∨ (g' = 1 ∧ hd_Sm st < hd_Sm st'))
theorem hd_S.seq {own : Nat → List Nat} {A B C : Prop} {g g1 g2 : Int} {st st1 st2 : Nat → Int} (h1 : hd_S own A g st g1 st1) (h2 : hd_S own B g1 st1 g2 st2) (hC : st1 = st → A → B → C) : hd_S own C g st g2 st2 := by
  obtain ⟨_, h1⟩ := h1
  obtain ⟨v2, h2⟩ := h2
  refine ⟨v2, ?_⟩
  rcases h1 with ⟨a1, a2, a3⟩ | ⟨a1, a2⟩
  · rcases h2 with ⟨b1, b2, b3⟩ | ⟨b1, b2⟩
    · exact Or.inl ⟨by omega, by rw [b2, a2], hC a2 a3 b3⟩
    · exact Or.inr ⟨b1, by rw [← a2]; exact b2⟩
  · rcases h2 with ⟨b1, b2, _⟩ | ⟨b1, b2⟩
    · exact Or.inr ⟨by omega, by rw [b2]; exact a2⟩
    · exact Or.inr ⟨b1, by omega⟩
theorem qd_L5 {nl : Nat} {fo ru : Nat → Int} {g0 : Int} {U : Nat → Bool} {nu : Nat → Int} {w d : Nat → Nat → List Nat} (h : hs_I nl fo ru g0 U nu w d) {has hasMany used : Nat → Int} (hh : qu_R U w hasMany has) (hu : ∀ k, k < 100 → used k = if U k = true then 1 else 0) {l k : Nat} (hl : l < 10) (hln : l < nl) (hr : ru l = 1) (hk : k < 100) (hU : U k = true) :
    ∀ (n i : Nat) (g : Int) (st : Nat → Int), i ≤ (w l k).length → (w l k).length + 1 ≤ i + n → hd_V (pw_own nl ru d) st → ∃ (g' : Int) (st' : Nat → Int), fX10_depth_L5 has hasMany used (l : Int) (k : Int) n (i : Int) g st = some (g', st') ∧ hd_S (pw_own nl ru d) (∀ y ∈ (w l k).drop i, st k < st y) g st g' st' := by
  have hb : ∀ x, ∀ y ∈ pw_own nl ru d x, x < 100 ∧ y < 100 := fun x y hy => ⟨(hs_own_d h hy).1, (hs_own_d h hy).2.1⟩
  have hac := hs_ac_d h
  obtain ⟨h1, h12, h3, h4⟩ := qu_many hh hl hk hU
  have er : (((l : Nat) : Int) * (100 : Int) + (k : Int)) = ((l * 100 + k : Nat) : Int) := by omega
  intro n
  induction n with
  | zero => intro i g st a b; omega
  | succ n ih =>
    intro i g st hi hn hV
    rw [fX10_depth_L5, tl_gt ⟨by omega, by omega⟩, Int.toNat_natCast, tl_gt (hq_uR hu k hk), hu k hk, if_pos hU, if_neg (by decide), er, tl_gt ⟨by omega, by omega⟩, Int.toNat_natCast, h1, tl_gt ⟨⟨by omega, by omega⟩, ⟨by omega, by omega⟩⟩]
    by_cases q : i < (w l k).length
    · have hm := h4 _ (List.getElem_mem q)
      obtain ⟨a, ea, pa⟩ := hV k hk
      obtain ⟨b, eb, pb⟩ := hV _ hm
      have la := hd_lt hac hb hk pa
      have lb := hd_lt hac hb hm pb
      rw [if_pos (by omega), tl_gt ⟨by omega, by omega⟩, qr_ix, h3 i q, tl_gt ⟨by omega, by omega⟩, tl_gt ⟨by omega, by omega⟩, Int.toNat_natCast, tl_gt ⟨⟨by omega, by omega⟩, ⟨by omega, by omega⟩⟩, show (i : Int) + 1 = ((i + 1 : Nat) : Int) by omega]
      by_cases c : st k < st (w l k)[i]
      · rw [if_pos c]
        obtain ⟨g', st', e1, e2⟩ := ih (i + 1) g st q (by omega) hV
        refine ⟨g', st', e1, e2.1, e2.2.elim (fun z => Or.inl ⟨z.1, z.2.1, fun y hy => ?_⟩) Or.inr⟩
        rw [List.drop_eq_getElem_cons q] at hy
        rcases List.mem_cons.mp hy with v | v
        · rw [v]
          exact c
        · exact z.2.2 y v
      · rw [if_neg c, tl_gt ⟨by omega, by omega⟩, tl_gt ⟨by omega, by omega⟩]
        have hV2 : hd_V (pw_own nl ru d) (va_up st (w l k)[i] (st k + 1)) := by
          intro j hj
          by_cases e : j = (w l k)[i]
          · rw [e, va_up_self]
            obtain ⟨z, hz⟩ := pa
            exact ⟨a + 1, by omega, z, k, pw_mem_own.mpr ⟨l, hln, hr, (h.tw l k _).mp (List.getElem_mem q)⟩, hz⟩
          · rw [va_up_ne _ _ e]
            exact hV j hj
        obtain ⟨g', st', e1, e2⟩ := ih (i + 1) 1 _ q (by omega) hV2
        refine ⟨g', st', e1, e2.1, Or.inr ?_⟩
        have up := hd_Sm_up (st := st) (v := st k + 1) hm (by omega) (by omega)
        rcases e2.2 with ⟨z1, z2, _⟩ | ⟨z1, z2⟩
        · exact ⟨z1, by rw [z2]; exact up⟩
        · exact ⟨z1, by omega⟩
    · rw [if_neg (by omega)]
      refine ⟨g, st, rfl, hV, Or.inl ⟨rfl, rfl, fun y hy => ?_⟩⟩
      rw [List.drop_eq_nil_of_le (by omega)] at hy
      cases hy
theorem qd_L4 {nl : Nat} {fo ru : Nat → Int} {g0 : Int} {U : Nat → Bool} {nu : Nat → Int} {w d : Nat → Nat → List Nat} (h : hs_I nl fo ru g0 U nu w d) {has hasMany used : Nat → Int} (hh : qu_R U w hasMany has) (hu : ∀ k, k < 100 → used k = if U k = true then 1 else 0) {l : Nat} (hl : l < 10) (hln : l < nl) (hr : ru l = 1) :
    ∀ (n i : Nat) (g : Int) (st : Nat → Int), i ≤ 100 → 101 ≤ i + n → hd_V (pw_own nl ru d) st → ∃ (g' : Int) (st' : Nat → Int), fX10_depth_L4 has hasMany used (l : Int) n (i : Int) g st = some (g', st') ∧ hd_S (pw_own nl ru d) (∀ k, i ≤ k → k < 100 → ∀ y ∈ w l k, st k < st y) g st g' st' := by
  intro n
  induction n with
  | zero => intro i g st a b; omega
  | succ n ih =>
    intro i g st hi hn hV
    rw [fX10_depth_L4, tl_gt ⟨⟨by omega, by omega⟩, by decide⟩]
    by_cases q : i < 100
    · rw [if_pos (by omega)]
      have step : ∃ (g' : Int) (st' : Nat → Int), fX10_depth_L5 has hasMany used (l : Int) (i : Int) tl_N 0 g st = some (g', st') ∧ hd_S (pw_own nl ru d) (∀ y ∈ w l i, st i < st y) g st g' st' := by
        by_cases r : U i = true
        · have := qd_L5 h hh hu hl hln hr q r tl_N 0 g st (Nat.zero_le _) (by have := (h.len l i).1; unfold tl_N; omega) hV
          rw [List.drop_zero, show ((0 : Nat) : Int) = (0 : Int) from rfl] at this
          exact this
        · obtain ⟨n9, hn9⟩ : ∃ n9, tl_N = n9 + 1 := ⟨999999, by unfold tl_N; omega⟩
          refine ⟨g, st, ?_, hV, Or.inl ⟨rfl, rfl, fun y hy => absurd (h.row l i y hy).2.2.2.1 r⟩⟩
          rw [hn9, fX10_depth_L5, tl_gt ⟨by omega, by omega⟩, Int.toNat_natCast, tl_gt (hq_uR hu i q), hu i q, if_neg r, if_pos rfl]
      obtain ⟨g1, st1, e1, e2⟩ := step
      obtain ⟨g2, st2, e3, e4⟩ := ih (i + 1) g1 st1 (by omega) (by omega) e2.1
      rw [e1, pr_b, show (i : Int) + 1 = ((i + 1 : Nat) : Int) by omega]
      refine ⟨g2, st2, e3, e2.seq e4 (fun z A B => ?_)⟩
      intro k h1 h2
      rw [z] at B
      by_cases hk : k = i
      · rw [hk]
        exact A
      · exact B k (by omega) h2
    · rw [if_neg (by omega)]
      exact ⟨g, st, rfl, hV, Or.inl ⟨rfl, rfl, fun k h1 h2 => by omega⟩⟩
theorem qd_L3 {nl : Nat} {fo fr ru to fo2 fr2 ru2 to2 : Nat → Int} (hT : ht_R nl fo fr ru to fo2 fr2 ru2 to2) {g0 : Int} {U : Nat → Bool} {nu : Nat → Int} {w d : Nat → Nat → List Nat} (h : hs_I nl fo ru g0 U nu w d) {has hasMany used : Nat → Int} (hh : qu_R U w hasMany has) (hu : ∀ k, k < 100 → used k = if U k = true then 1 else 0) :
    ∀ (n i : Nat) (g : Int) (st : Nat → Int), i ≤ nl → nl + 1 ≤ i + n → hd_V (pw_own nl ru d) st → ∃ (g' : Int) (st' : Nat → Int), fX10_depth_L3 (nl : Int) has hasMany ru2 used n (i : Int) g st = some (g', st') ∧ hd_S (pw_own nl ru d) (∀ l, i ≤ l → l < nl → ru l = 1 → ∀ k, k < 100 → ∀ y ∈ w l k, st k < st y) g st g' st' := by
  have hn10 := hT.1
  intro n
  induction n with
  | zero => intro i g st a b; omega
  | succ n ih =>
    intro i g st hi hn hV
    rw [fX10_depth_L3, tl_gt ⟨⟨by omega, by omega⟩, ⟨by omega, by omega⟩⟩]
    by_cases q : i < nl
    · have hTl := hT.2 i q
      have hru := hTl.2.2.1
      rw [if_pos (by omega), tl_gt ⟨by omega, by omega⟩, Int.toNat_natCast, hru, tl_gt ⟨⟨by omega, by omega⟩, by decide⟩, show (i : Int) + 1 = ((i + 1 : Nat) : Int) by omega]
      by_cases r : ru i = 1
      · obtain ⟨g1, st1, e1, e2⟩ := qd_L4 h hh hu (l := i) (by omega) q r tl_N 0 g st (by omega) (by unfold tl_N; omega) hV
        rw [show ((0 : Nat) : Int) = (0 : Int) from rfl] at e1
        obtain ⟨g2, st2, e3, e4⟩ := ih (i + 1) g1 st1 (by omega) (by omega) e2.1
        rw [if_pos r, e1, pr_b]
        refine ⟨g2, st2, e3, e2.seq e4 (fun z A B => ?_)⟩
        intro l h1 h2 h3 k hk
        rw [z] at B
        by_cases hl : l = i
        · rw [hl]
          exact A k (Nat.zero_le _) hk
        · exact B l (by omega) h2 h3 k hk
      · rw [if_neg r]
        obtain ⟨g2, st2, e3, e4⟩ := ih (i + 1) g st (by omega) (by omega) hV
        refine ⟨g2, st2, e3, e4.1, e4.2.elim (fun z => Or.inl ⟨z.1, z.2.1, ?_⟩) Or.inr⟩
        intro l h1 h2 h3 k hk
        by_cases hl : l = i
        · exact absurd (hl ▸ h3) r
        · exact z.2.2 l (by omega) h2 h3 k hk
    · rw [if_neg (by omega)]
      exact ⟨g, st, rfl, hV, Or.inl ⟨rfl, rfl, fun l h1 h2 => by omega⟩⟩
theorem qd_L2 {nl : Nat} {fo fr ru to fo2 fr2 ru2 to2 : Nat → Int} (hT : ht_R nl fo fr ru to fo2 fr2 ru2 to2) {g0 : Int} {U : Nat → Bool} {nu : Nat → Int} {w d : Nat → Nat → List Nat} (h : hs_I nl fo ru g0 U nu w d) {has hasMany used : Nat → Int} (hh : qu_R U w hasMany has) (hu : ∀ k, k < 100 → used k = if U k = true then 1 else 0) :
    ∀ (n : Nat) (g : Int) (st : Nat → Int), hd_V (pw_own nl ru d) st → ((g = 0 ∧ 1 ≤ n ∧ ∀ l, l < nl → ru l = 1 → ∀ k, k < 100 → ∀ y ∈ w l k, st k < st y) ∨ (g = 1 ∧ 9902 ≤ n + hd_Sm st)) → ∃ st', fX10_depth_L2 (nl : Int) has hasMany ru2 used n g st = some st' ∧ hd_V (pw_own nl ru d) st' ∧ ∀ l, l < nl → ru l = 1 → ∀ k, k < 100 → ∀ y ∈ w l k, st' k < st' y := by
  have hb : ∀ x, ∀ y ∈ pw_own nl ru d x, x < 100 ∧ y < 100 := fun x y hy => ⟨(hs_own_d h hy).1, (hs_own_d h hy).2.1⟩
  have hac := hs_ac_d h
  intro n
  induction n with
  | zero =>
    intro g st hV hg
    have := hd_Sm_le hac hb hV
    rcases hg with ⟨_, z, _⟩ | ⟨_, z⟩
    · omega
    · omega
  | succ n ih =>
    intro g st hV hg
    rw [fX10_depth_L2]
    rcases hg with ⟨z1, z2, z3⟩ | ⟨z1, z2⟩
    · rw [z1, tl_gt (by decide), if_pos rfl]
      exact ⟨st, rfl, hV, z3⟩
    · obtain ⟨g1, st1, e1, e2⟩ := qd_L3 hT h hh hu tl_N 0 0 st (by omega) (by have := hT.1; unfold tl_N; omega) hV
      rw [show ((0 : Nat) : Int) = (0 : Int) from rfl] at e1
      rw [z1, tl_gt (by decide), if_neg (by decide), e1, pr_b]
      refine ih g1 st1 e2.1 ?_
      have hle := hd_Sm_le hac hb hV
      rcases e2.2 with ⟨a1, a2, a3⟩ | ⟨a1, a2⟩
      · exact Or.inl ⟨a1, by omega, fun l h1 h2 k hk => by rw [a2]; exact a3 l (Nat.zero_le _) h1 h2 k hk⟩
      · exact Or.inr ⟨a1, by omega⟩
theorem qd_L1 : ∀ (n i : Nat) (x : Nat → Int), i ≤ 100 → 101 ≤ i + n → ∃ x', fX10_depth_L1 n (i : Int) x = some x' ∧ ∀ k, k < 100 → x' k = if i ≤ k then 0 else x k := by
  intro n
  induction n with
  | zero => intro i x h1 h2; omega
  | succ n ih =>
    intro i x hi hn
    rw [fX10_depth_L1, tl_gt ⟨⟨by omega, by omega⟩, by decide⟩]
    by_cases hq : i < 100
    · rw [if_pos (by omega), tl_gt ⟨by omega, by omega⟩, Int.toNat_natCast, show (i : Int) + 1 = ((i + 1 : Nat) : Int) by omega]
      obtain ⟨x', h1, h2⟩ := ih (i + 1) (va_up x i 0) hq (by omega)
      refine ⟨x', h1, fun k hk => ?_⟩
      rw [h2 k hk]
      by_cases h3 : k = i
      · rw [h3, va_up_self, if_neg (by omega), if_pos (by omega)]
      · rw [va_up_ne _ _ h3]
        by_cases h4 : i + 1 ≤ k
        · rw [if_pos h4, if_pos (by omega)]
        · rw [if_neg h4, if_neg (by omega)]
    · rw [if_neg (by omega)]
      exact ⟨x, rfl, fun k hk => by rw [if_neg (by omega)]⟩
theorem hq_depth {t o m pm km lv ra : Int} {nl : Nat} {fo fr ru to fo2 fr2 ru2 to2 : Nat → Int} (hT : ht_R nl fo fr ru to fo2 fr2 ru2 to2) {g0 : Int} {U : Nat → Bool} {nu : Nat → Int} {w d : Nat → Nat → List Nat} (h : hs_I nl fo ru g0 U nu w d) {has hasMany used steps : Nat → Int} (hh : qu_R U w hasMany has) (hu : ∀ k, k < 100 → used k = if U k = true then 1 else 0) {x : Nat} (hx : x < 100) :
    ∃ (M : Nat) (steps' : Nat → Int), fX10_depth t (nl : Int) o m pm km lv ra has hasMany ru2 steps used (x : Int) = some ((M : Int), steps') ∧ hd_hp (pw_own nl ru d) M x ∧ ¬ hd_hp (pw_own nl ru d) (M + 1) x := by
  obtain ⟨x1, a1, a2⟩ := qd_L1 tl_N 0 steps (by omega) (by unfold tl_N; omega)
  rw [show ((0 : Nat) : Int) = (0 : Int) from rfl] at a1
  have hV : hd_V (pw_own nl ru d) x1 := fun k hk => ⟨0, by rw [a2 k hk, if_pos (Nat.zero_le _)]; rfl, k, rfl⟩
  obtain ⟨st, b1, b2, b3⟩ := qd_L2 hT h hh hu tl_N 1 x1 hV (Or.inr ⟨rfl, by unfold tl_N; omega⟩)
  have top : ∀ n y, y < 100 → hd_hp (pw_own nl ru d) n y → (n : Int) ≤ st y := by
    intro n
    induction n with
    | zero =>
      intro y hy _
      obtain ⟨a, ea, _⟩ := b2 y hy
      omega
    | succ n ih =>
      intro y hy hp
      obtain ⟨z, k, k1, k2⟩ := hp
      have g1 := hs_own_d h k1
      obtain ⟨l, l1, l2, l3⟩ := pw_mem_own.mp g1.2.2.2.2
      have h5 := ih k g1.2.1 ⟨z, k2⟩
      have h6 := b3 l l1 l2 k g1.2.1 y l3
      omega
  obtain ⟨M, eM, pM⟩ := b2 x hx
  refine ⟨M, st, ?_, pM, fun q => ?_⟩
  · unfold fX10_depth
    rw [a1, pr_b, b1, pr_b, tl_gt ⟨by omega, by omega⟩, Int.toNat_natCast, eM]
  · have := top (M + 1) x hx q
    omega
