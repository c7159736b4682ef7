/-! drop: who goes, the reference -/
theorem qg_L2 {xs : List Nat} {gone had hadMany : Nat → Int} {l y : Nat} (hl : l < 10) (hy : y < 100) (hg : ∀ k, k < 100 → tl_R (gone k)) (h1 : hadMany (l * 100 + y) = (xs.length : Int)) (h12 : xs.length ≤ 12) (hx : ∀ z ∈ xs, z < 100) (h3 : ∀ (i : Nat) (h : i < xs.length), had ((l * 100 + y) * 12 + i) = ((xs[i] : Nat) : Int)) :
    ∀ (n i : Nat) (fl : Int), i ≤ xs.length → xs.length + 1 ≤ i + n → (fX10_goesToo_L2 gone had hadMany (y : Int) (l : Int) n (i : Int) fl = some (.inl (if xs.drop i = [] then fl else 1)) ∧ ∀ z ∈ xs.drop i, gone z ≠ 0) ∨ (fX10_goesToo_L2 gone had hadMany (y : Int) (l : Int) n (i : Int) fl = some (.inr (.inr 0)) ∧ ∃ z ∈ xs.drop i, gone z = 0) := by
  have er : (((l : Nat) : Int) * (100 : Int) + (y : Int)) = ((l * 100 + y : Nat) : Int) := by omega
  intro n
  induction n with
  | zero => intro i fl a b; omega
  | succ n ih =>
    intro i fl hi hn
    rw [fX10_goesToo_L2, er, tl_gt ⟨by omega, by omega⟩, Int.toNat_natCast, h1, tl_gt ⟨⟨by omega, by omega⟩, ⟨by omega, by omega⟩⟩]
    by_cases q : i < xs.length
    · have hm := hx _ (List.getElem_mem q)
      rw [if_pos (by omega), tl_gt ⟨by omega, by omega⟩, qr_ix, h3 i q, tl_gt ⟨by omega, by omega⟩, Int.toNat_natCast, tl_gt (hg _ hm), show (i : Int) + 1 = ((i + 1 : Nat) : Int) by omega, List.drop_eq_getElem_cons q]
      by_cases c : gone xs[i] = 0
      · rw [if_pos c]
        exact Or.inr ⟨rfl, _, List.mem_cons_self, c⟩
      · rw [if_neg c, if_neg (by simpa using q)]
        rcases ih (i + 1) 1 q (by omega) with ⟨z1, z2⟩ | ⟨z1, z, z2, z3⟩
        · refine Or.inl ⟨?_, fun z hz => (List.mem_cons.mp hz).elim (fun e => by rw [e]; exact c) (z2 z)⟩
          rw [z1]
          by_cases v : xs.drop (i + 1) = []
          · rw [if_pos v]
          · rw [if_neg v]
        · exact Or.inr ⟨z1, z, List.mem_cons_of_mem _ z2, z3⟩
    · rw [if_neg (by omega), List.drop_eq_nil_of_le (by omega), if_pos rfl]
      exact Or.inl ⟨rfl, fun z hz => by cases hz⟩
theorem qg_L1 {nl : Nat} {fo fr ru to fo2 fr2 ru2 to2 : Nat → Int} (hT : ht_R nl fo fr ru to fo2 fr2 ru2 to2) {U : Nat → Bool} {d : Nat → Nat → List Nat} {gone had hadMany : Nat → Int} (hd : qu_R U d hadMany had) {y : Nat} (hy : y < 100) (hU : U y = true) (hg : ∀ k, k < 100 → tl_R (gone k)) :
    ∀ (n m l : Nat) (fl : Int), l + m = nl → m + 1 ≤ n → (fX10_goesToo_L1 (nl : Int) gone had hadMany ru2 (y : Int) n (l : Int) fl = some (.inl (if pw_from ru d y m l = [] then fl else 1)) ∧ ∀ z ∈ pw_from ru d y m l, gone z ≠ 0) ∨ (fX10_goesToo_L1 (nl : Int) gone had hadMany ru2 (y : Int) n (l : Int) fl = some (.inr 0) ∧ ∃ z ∈ pw_from ru d y m l, gone z = 0) := by
  have hn10 := hT.1
  intro n
  induction n with
  | zero => intro m l fl a b; omega
  | succ n ih =>
    intro m l fl hlm hn
    rw [fX10_goesToo_L1, tl_gt ⟨⟨by omega, by omega⟩, ⟨by omega, by omega⟩⟩]
    cases m with
    | zero =>
      rw [if_neg (by omega), pw_from, if_pos rfl]
      exact Or.inl ⟨rfl, fun z hz => by cases hz⟩
    | succ m =>
      have hTl := hT.2 l (by omega)
      have hru := hTl.2.2.1
      rw [if_pos (by omega), tl_gt ⟨by omega, by omega⟩, Int.toNat_natCast, hru, tl_gt ⟨⟨by omega, by omega⟩, by decide⟩, show (l : Int) + 1 = ((l + 1 : Nat) : Int) by omega, pw_from]
      by_cases r : ru l = 1
      · obtain ⟨h1, h2, h3, h4⟩ := qu_many hd (l := l) (by omega) hy hU
        have e := qg_L2 (gone := gone) (l := l) (by omega) hy hg h1 h2 h4 h3 tl_N 0 fl (Nat.zero_le _) (by unfold tl_N; omega)
        rw [show ((0 : Nat) : Int) = (0 : Int) from rfl, List.drop_zero] at e
        rw [if_pos r, if_pos r]
        rcases e with ⟨e1, e2⟩ | ⟨e1, z, e2, e3⟩
        · rw [e1, pr_b]
          rcases ih m (l + 1) (if d l y = [] then fl else 1) (by omega) (by omega) with ⟨z1, z2⟩ | ⟨z1, z, z2, z3⟩
          · refine Or.inl ⟨?_, fun z hz => (List.mem_append.mp hz).elim (e2 z) (z2 z)⟩
            dsimp only
            rw [z1]
            by_cases v : pw_from ru d y m (l + 1) = []
            · rw [if_pos v, v, List.append_nil]
            · rw [if_neg v, if_neg (fun q => v (List.append_eq_nil_iff.mp q).2)]
          · exact Or.inr ⟨z1, z, List.mem_append_right _ z2, z3⟩
        · rw [e1, pr_b]
          exact Or.inr ⟨rfl, z, List.mem_append_left _ e2, e3⟩
      · rw [if_neg r, if_neg r, List.nil_append]
        exact ih m (l + 1) fl (by omega) (by omega)
theorem qg_goes {t o m pm km lv ra : Int} {nl : Nat} {fo fr ru to fo2 fr2 ru2 to2 : Nat → Int} (hT : ht_R nl fo fr ru to fo2 fr2 ru2 to2) {U : Nat → Bool} {d : Nat → Nat → List Nat} {gone had hadMany : Nat → Int} (hd : qu_R U d hadMany had) {y : Nat} (hy : y < 100) (hU : U y = true) (hg : ∀ k, k < 100 → tl_R (gone k)) : ∃ b : Int, fX10_goesToo t (nl : Int) o m pm km lv ra gone had hadMany ru2 (y : Int) = some b ∧ (b = 0 ∨ b = 1) ∧ (b = 1 ↔ pw_own nl ru d y ≠ [] ∧ ∀ z ∈ pw_own nl ru d y, gone z ≠ 0) := by
  have e := qg_L1 hT hd hy hU hg tl_N nl 0 0 (by omega) (by have := hT.1; unfold tl_N; omega)
  rw [show ((0 : Nat) : Int) = (0 : Int) from rfl] at e
  unfold fX10_goesToo pw_own
  rcases e with ⟨e1, e2⟩ | ⟨e1, z, e2, e3⟩
  · rw [e1, pr_b]
    by_cases v : pw_from ru d y nl 0 = []
    · rw [if_pos v]
      dsimp only
      rw [tl_gt (Or.inl rfl)]
      exact ⟨0, rfl, Or.inl rfl, fun q => by omega, fun q => absurd v q.1⟩
    · rw [if_neg v]
      dsimp only
      rw [tl_gt (Or.inr rfl)]
      exact ⟨1, rfl, Or.inr rfl, fun _ => ⟨v, e2⟩, fun _ => rfl⟩
  · rw [e1, pr_b]
    exact ⟨0, rfl, Or.inl rfl, fun q => by omega, fun q => absurd e3 (q.2 z e2)⟩
def qg_V (own : Nat → List Nat) (p : Nat) (gone : Nat → Int) : Prop := gone p ≠ 0 ∧ ∀ k, k < 100 → (gone k = 0 ∨ gone k = 1) ∧ (gone k ≠ 0 → hg_G own p k)
def qg_c (gone : Nat → Int) : Nat := hs_sum (fun k => (gone k).toNat) 100
theorem qg_c_le {own : Nat → List Nat} {p : Nat} {gone : Nat → Int} (h : qg_V own p gone) : qg_c gone ≤ 100 := by
  have : ∀ n, n ≤ 100 → hs_sum (fun k => (gone k).toNat) n ≤ n := by
    intro n
    induction n with
    | zero => intro _; exact Nat.le_refl _
    | succ n ih =>
      intro hn
      have h1 := ih (by omega)
      have h2 := (h.2 n (by omega)).1
      rw [hs_sum]
      omega
  exact this 100 (Nat.le_refl _)
theorem qg_L3 {t o m pm km lv ra : Int} {z4 : Int × Int} {nl : Nat} {fo fr ru to fo2 fr2 ru2 to2 : Nat → Int} (hT : ht_R nl fo fr ru to fo2 fr2 ru2 to2) {U : Nat → Bool} {d : Nat → Nat → List Nat} {had hadMany used : Nat → Int} (hd : qu_R U d hadMany had) (hu : ∀ k, k < 100 → used k = if U k = true then 1 else 0) {p : Nat} :
    ∀ (n i : Nat) (mo : Int) (gone : Nat → Int), i ≤ 100 → 101 ≤ i + n → qg_V (pw_own nl ru d) p gone → ∃ (mo' : Int) (gone' : Nat → Int), fX10_drop_L3 (nl : Int) o m pm km lv ra had hadMany ru2 used z4 n (i : Int) mo gone = some (mo', gone') ∧ qg_V (pw_own nl ru d) p gone' ∧ ((mo' = mo ∧ gone' = gone ∧ ∀ k, i ≤ k → k < 100 → U k = true → gone k = 0 → ¬ (pw_own nl ru d k ≠ [] ∧ ∀ z ∈ pw_own nl ru d k, gone z ≠ 0)) ∨ (mo' = 1 ∧ qg_c gone < qg_c gone')) := by
  intro n
  induction n with
  | zero => intro i mo gone a b; omega
  | succ n ih =>
    intro i mo gone hi hn hV
    have hgR : ∀ k, k < 100 → tl_R (gone k) := fun k hk => by
      rcases (hV.2 k hk).1 with z | z
      · rw [z]; decide
      · rw [z]; decide
    rw [fX10_drop_L3, tl_gt ⟨⟨by omega, by omega⟩, by decide⟩]
    by_cases q : i < 100
    · have iI : tl_in (i : Int) 100 := ⟨by omega, by omega⟩
      have next : (U i = true → gone i = 0 → ¬ (pw_own nl ru d i ≠ [] ∧ ∀ z ∈ pw_own nl ru d i, gone z ≠ 0)) → ∃ (mo' : Int) (gone' : Nat → Int), fX10_drop_L3 (nl : Int) o m pm km lv ra had hadMany ru2 used z4 n ((i + 1 : Nat) : Int) mo gone = some (mo', gone') ∧ qg_V (pw_own nl ru d) p gone' ∧ ((mo' = mo ∧ gone' = gone ∧ ∀ k, i ≤ k → k < 100 → U k = true → gone k = 0 → ¬ (pw_own nl ru d k ≠ [] ∧ ∀ z ∈ pw_own nl ru d k, gone z ≠ 0)) ∨ (mo' = 1 ∧ qg_c gone < qg_c gone')) := by
        intro hh
        obtain ⟨mo', gone', a1, a2, a3⟩ := ih (i + 1) mo gone q (by omega) hV
        refine ⟨mo', gone', a1, a2, a3.elim (fun z => Or.inl ⟨z.1, z.2.1, fun k h1 h2 => ?_⟩) Or.inr⟩
        by_cases e : k = i
        · rw [e]
          exact hh
        · exact z.2.2 k (by omega) h2
      rw [if_pos (by omega), tl_gt iI, Int.toNat_natCast, tl_gt (hq_uR hu i q), show (i : Int) + 1 = ((i + 1 : Nat) : Int) by omega]
      by_cases r : U i = true
      · rw [hu i q, if_pos r, if_neg (by decide), tl_gt iI, tl_gt (hgR i q)]
        by_cases c : gone i = 0
        · obtain ⟨b, b1, b2, b3⟩ := qg_goes (t := z4.2) (o := o) (m := m) (pm := pm) (km := km) (lv := lv) (ra := ra) hT hd q r hgR
          rw [if_pos c, b1, pr_b, tl_gt (show tl_R b from ⟨by omega, by omega⟩)]
          by_cases e : b = 0
          · rw [if_pos e]
            exact next (fun _ _ z => by have := b3.mpr z; omega)
          · rw [if_neg e, tl_gt ⟨iI, Or.inr rfl⟩]
            have hb1 : b = 1 := b2.elim (fun z => absurd z e) id
            obtain ⟨g1, g2⟩ := b3.mp hb1
            have hlt : ∀ z ∈ pw_own nl ru d i, z < 100 := fun z hz => by
              obtain ⟨k, k1, _, k3⟩ := pw_mem_own.mp hz
              have := hT.1
              exact (qu_many hd (l := k) (by omega) q r).2.2.2 z k3
            have hV2 : qg_V (pw_own nl ru d) p (va_up gone i 1) := by
              refine ⟨?_, fun k hk => ?_⟩
              · by_cases z : p = i
                · rw [z, va_up_self]
                  decide
                · rw [va_up_ne _ _ z]
                  exact hV.1
              · by_cases z : k = i
                · rw [z, va_up_self]
                  exact ⟨Or.inr rfl, fun _ => hg_add g1 (fun v hv => (hV.2 v (hlt v hv)).2 (g2 v hv))⟩
                · rw [va_up_ne _ _ z]
                  exact hV.2 k hk
            obtain ⟨mo', gone', a1, a2, a3⟩ := ih (i + 1) 1 _ q (by omega) hV2
            have up := hd_Sm_up (st := gone) (v := 1) q (by omega) (by omega)
            have up2 : qg_c gone < qg_c (va_up gone i 1) := up
            refine ⟨mo', gone', a1, a2, Or.inr ?_⟩
            rcases a3 with ⟨z1, z2, _⟩ | ⟨z1, z2⟩
            · exact ⟨z1, by rw [z2]; exact up2⟩
            · exact ⟨z1, by omega⟩
        · rw [if_neg c]
          exact next (fun _ z => absurd z c)
      · rw [hu i q, if_neg r, if_pos rfl]
        exact next (fun z => absurd z r)
    · rw [if_neg (by omega)]
      exact ⟨mo, gone, rfl, hV, Or.inl ⟨rfl, rfl, fun k h1 h2 => by omega⟩⟩
theorem qg_L2b {o m pm km lv ra : Int} {z4 : Int × Int} {nl : Nat} {fo fr ru to fo2 fr2 ru2 to2 : Nat → Int} (hT : ht_R nl fo fr ru to fo2 fr2 ru2 to2) {U : Nat → Bool} {d : Nat → Nat → List Nat} {had hadMany used : Nat → Int} (hd : qu_R U d hadMany had) (hu : ∀ k, k < 100 → used k = if U k = true then 1 else 0) {p : Nat} :
    ∀ (n : Nat) (mo : Int) (gone : Nat → Int), qg_V (pw_own nl ru d) p gone → ((mo = 0 ∧ 1 ≤ n ∧ ∀ k, k < 100 → U k = true → gone k = 0 → ¬ (pw_own nl ru d k ≠ [] ∧ ∀ z ∈ pw_own nl ru d k, gone z ≠ 0)) ∨ (mo = 1 ∧ 102 ≤ n + qg_c gone)) → ∃ gone', fX10_drop_L2 (nl : Int) o m pm km lv ra had hadMany ru2 used z4 n mo gone = some gone' ∧ qg_V (pw_own nl ru d) p gone' ∧ ∀ k, k < 100 → U k = true → gone' k = 0 → ¬ (pw_own nl ru d k ≠ [] ∧ ∀ z ∈ pw_own nl ru d k, gone' z ≠ 0) := by
  intro n
  induction n with
  | zero =>
    intro mo gone hV hg
    have := qg_c_le hV
    rcases hg with ⟨_, z, _⟩ | ⟨_, z⟩
    · omega
    · omega
  | succ n ih =>
    intro mo gone hV hg
    rw [fX10_drop_L2]
    rcases hg with ⟨z1, z2, z3⟩ | ⟨z1, z2⟩
    · rw [z1, tl_gt (by decide), if_pos rfl]
      exact ⟨gone, rfl, hV, z3⟩
    · obtain ⟨mo1, gone1, a1, a2, a3⟩ := qg_L3 (t := 0) (o := o) (m := m) (pm := pm) (km := km) (lv := lv) (ra := ra) (z4 := z4) hT hd hu (p := p) tl_N 0 0 gone (by omega) (by unfold tl_N; omega) hV
      rw [show ((0 : Nat) : Int) = (0 : Int) from rfl] at a1
      rw [z1, tl_gt (by decide), if_neg (by decide), a1, pr_b]
      refine ih mo1 gone1 a2 ?_
      have hle := qg_c_le hV
      rcases a3 with ⟨b1, b2, b3⟩ | ⟨b1, b2⟩
      · exact Or.inl ⟨b1, by omega, fun k hk => by rw [b2]; exact b3 k (Nat.zero_le _) hk⟩
      · exact Or.inr ⟨b1, by omega⟩
theorem qg_L0 : ∀ (n i : Nat) (x : Nat → Int), i ≤ 100 → 101 ≤ i + n → ∃ x', fX10_drop_L1 n (i : Int) x = some x' ∧ ∀ k, k < 100 → x' k = if i ≤ k then 0 else x k := by
  intro n
  induction n with
  | zero => intro i x h1 h2; omega
  | succ n ih =>
    intro i x hi hn
    rw [fX10_drop_L1, tl_gt ⟨⟨by omega, by omega⟩, by decide⟩]
    by_cases hq : i < 100
    · rw [if_pos (by omega), tl_gt ⟨⟨by omega, by omega⟩, Or.inl rfl⟩, Int.toNat_natCast, show (i : Int) + 1 = ((i + 1 : Nat) : Int) by omega]
      obtain ⟨x', h1, h2⟩ := ih (i + 1) (va_up x i 0) hq (by omega)
      refine ⟨x', h1, fun k hk => ?_⟩
      rw [h2 k hk]
      by_cases h3 : k = i
      · rw [h3, va_up_self, if_neg (by omega), if_pos (by omega)]
      · rw [va_up_ne _ _ h3]
        by_cases h4 : i + 1 ≤ k
        · rw [if_pos h4, if_pos (by omega)]
        · rw [if_neg h4, if_neg (by omega)]
    · rw [if_neg (by omega)]
      exact ⟨x, rfl, fun k hk => by rw [if_neg (by omega)]⟩
theorem hq_gone {o m pm km lv ra : Int} {z4 : Int × Int} {nl : Nat} {fo fr ru to fo2 fr2 ru2 to2 : Nat → Int} (hT : ht_R nl fo fr ru to fo2 fr2 ru2 to2) {g : Int} {U : Nat → Bool} {nu : Nat → Int} {w d : Nat → Nat → List Nat} (h : hs_I nl fo ru g U nu w d) {had hadMany used gone : Nat → Int} (hd : qu_R U d hadMany had) (hu : ∀ k, k < 100 → used k = if U k = true then 1 else 0) {p : Nat} (hp : p < 100) :
    ∃ (x7 gone' : Nat → Int), fX10_drop_L1 tl_N 0 gone = some x7 ∧ fX10_drop_L2 (nl : Int) o m pm km lv ra had hadMany ru2 used z4 tl_N 1 (va_up x7 p 1) = some gone' ∧ (∀ k, k < 100 → (gone' k = 0 ∨ gone' k = 1) ∧ (gone' k ≠ 0 ↔ hg_G (pw_own nl ru d) p k)) := by
  obtain ⟨x7, a1, a2⟩ := qg_L0 tl_N 0 gone (by omega) (by unfold tl_N; omega)
  rw [show ((0 : Nat) : Int) = (0 : Int) from rfl] at a1
  have hV : qg_V (pw_own nl ru d) p (va_up x7 p 1) := by
    refine ⟨by rw [va_up_self]; decide, fun k hk => ?_⟩
    by_cases z : k = p
    · rw [z, va_up_self]
      exact ⟨Or.inr rfl, fun _ => hg_p⟩
    · rw [va_up_ne _ _ z, a2 k hk, if_pos (Nat.zero_le _)]
      exact ⟨Or.inl rfl, fun v => absurd rfl v⟩
  obtain ⟨gone', b1, b2, b3⟩ := qg_L2b (o := o) (m := m) (pm := pm) (km := km) (lv := lv) (ra := ra) (z4 := z4) hT hd hu tl_N 1 _ hV (Or.inr ⟨rfl, by unfold tl_N; omega⟩)
  refine ⟨x7, gone', a1, b1, fun k hk => ⟨(b2.2 k hk).1, (b2.2 k hk).2, fun hk2 => ?_⟩⟩
  have := hk2 (fun y => y < 100 ∧ gone' y ≠ 0) ⟨⟨hp, b2.1⟩, fun y h1 h2 => ?_⟩
  · exact this.2
  · obtain ⟨z, hz⟩ := List.exists_mem_of_ne_nil _ h1
    have g1 := hs_own_d h hz
    refine ⟨g1.1, fun e => b3 y g1.1 g1.2.2.1 e ⟨h1, fun v hv => (h2 v hv).2⟩⟩
