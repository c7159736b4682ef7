/-! alike: the reference's search -/
def ia_once (nl : Nat) (ru ki : Nat → Int) (w : Nat → Nat → List Nat) (a b : Nat) : Prop := ki a = ki b ∧ ∀ l, l < nl → ru l = 1 → (w l a).length = (w l b).length
theorem ia_once_L {nl : Nat} {fo fr ru to fo2 fr2 ru2 to2 : Nat → Int} (hTo : ht_R nl fo fr ru to fo2 fr2 ru2 to2) {U : Nat → Bool} {w : Nat → Nat → List Nat} {has hasMany : Nat → Int} (hh : qu_R U w hasMany has) {a b : Nat} (ha : a < 100) (hb : b < 100) (hUa : U a = true) (hUb : U b = true) :
    ∀ (n l : Nat), l ≤ nl → nl + 1 ≤ l + n → (fX10_isAlikeAtOnce_L1 (nl : Int) hasMany ru2 (a : Int) (b : Int) n (l : Int) = some (.inl ()) ∧ ∀ l2, l ≤ l2 → l2 < nl → ru l2 = 1 → (w l2 a).length = (w l2 b).length) ∨ (fX10_isAlikeAtOnce_L1 (nl : Int) hasMany ru2 (a : Int) (b : Int) n (l : Int) = some (.inr 0) ∧ ∃ l2, l2 < nl ∧ ru l2 = 1 ∧ (w l2 a).length ≠ (w l2 b).length) := by
  have hn := hTo.1
  intro n
  induction n with
  | zero => intro l x y; omega
  | succ n ih =>
    intro l hl hn2
    rw [fX10_isAlikeAtOnce_L1, tl_gt ⟨⟨by omega, by omega⟩, ⟨by omega, by omega⟩⟩]
    by_cases q : l < nl
    · have hTl := hTo.2 l q
      have next : (ru l = 1 → (w l a).length = (w l b).length) → (fX10_isAlikeAtOnce_L1 (nl : Int) hasMany ru2 (a : Int) (b : Int) n ((l + 1 : Nat) : Int) = some (.inl ()) ∧ ∀ l2, l ≤ l2 → l2 < nl → ru l2 = 1 → (w l2 a).length = (w l2 b).length) ∨ (fX10_isAlikeAtOnce_L1 (nl : Int) hasMany ru2 (a : Int) (b : Int) n ((l + 1 : Nat) : Int) = some (.inr 0) ∧ ∃ l2, l2 < nl ∧ ru l2 = 1 ∧ (w l2 a).length ≠ (w l2 b).length) := by
        intro e
        refine (ih (l + 1) q (by omega)).elim (fun z => Or.inl ⟨z.1, fun l2 h1 h2 h3 => ?_⟩) Or.inr
        by_cases v : l2 = l
        · subst v
          exact e h3
        · exact z.2 l2 (by omega) h2 h3
      rw [if_pos (by omega), tl_gt ⟨by omega, by omega⟩, Int.toNat_natCast, hTl.2.2.1, tl_gt ⟨⟨by omega, by omega⟩, by decide⟩, show (l : Int) + 1 = ((l + 1 : Nat) : Int) by omega]
      by_cases r : ru l = 1
      · have ma := qu_many hh (l := l) (by omega) ha hUa
        have mb := qu_many hh (l := l) (by omega) hb hUb
        have ma2 := ma.2.1
        have mb2 := mb.2.1
        rw [if_pos r, tl_gt ⟨by omega, by omega⟩, tl_gt ⟨by omega, by omega⟩, show ((l : Int) * 100 + (a : Int)).toNat = l * 100 + a by omega, show ((l : Int) * 100 + (b : Int)).toNat = l * 100 + b by omega, ma.1, mb.1, tl_gt ⟨⟨by omega, by omega⟩, ⟨by omega, by omega⟩⟩]
        by_cases e : (w l a).length = (w l b).length
        · rw [if_pos (by omega)]
          exact next (fun _ => e)
        · rw [if_neg (by omega)]
          exact Or.inr ⟨rfl, l, q, r, e⟩
      · rw [if_neg r]
        exact next (fun z => absurd z r)
    · rw [if_neg (by omega)]
      exact Or.inl ⟨rfl, fun l2 h1 h2 => by omega⟩
theorem ia_once_is {t o m pm km lv ra : Int} {nl : Nat} {fo fr ru to fo2 fr2 ru2 to2 : Nat → Int} (hTo : ht_R nl fo fr ru to fo2 fr2 ru2 to2) {U : Nat → Bool} {ki : Nat → Int} {w : Nat → Nat → List Nat} {has hasMany kind : Nat → Int} (hh : qu_R U w hasMany has) (hk : ∀ k, k < 100 → tl_R (kind k) ∧ (U k = true → kind k = ki k)) {a b : Nat} (ha : a < 100) (hb : b < 100) (hUa : U a = true) (hUb : U b = true) : ∃ r : Int, fX10_isAlikeAtOnce t (nl : Int) o m pm km lv ra hasMany kind ru2 (a : Int) (b : Int) = some r ∧ (r = 0 ∨ r = 1) ∧ (r = 1 ↔ ia_once nl ru ki w a b) := by
  have ka := hk a ha
  have kb := hk b hb
  have kaR := ka.1
  have kbR := kb.1
  rw [ka.2 hUa] at kaR
  rw [kb.2 hUb] at kbR
  unfold fX10_isAlikeAtOnce
  rw [tl_gt ⟨by omega, by omega⟩, tl_gt ⟨by omega, by omega⟩, Int.toNat_natCast, Int.toNat_natCast, ka.2 hUa, kb.2 hUb, tl_gt ⟨kaR, kbR⟩]
  by_cases e : ki a = ki b
  · have c := ia_once_L hTo hh ha hb hUa hUb tl_N 0 (by omega) (by have := hTo.1; unfold tl_N; omega)
    rw [show ((0 : Nat) : Int) = (0 : Int) from rfl] at c
    rw [if_pos e]
    rcases c with ⟨c1, c2⟩ | ⟨c1, l2, c2, c3, c4⟩
    · rw [c1, pr_b]
      exact ⟨1, rfl, Or.inr rfl, fun _ => ⟨e, fun l h1 h2 => c2 l (Nat.zero_le _) h1 h2⟩, fun _ => rfl⟩
    · rw [c1, pr_b]
      exact ⟨0, rfl, Or.inl rfl, fun z => by omega, fun z => absurd (z.2 l2 c2 c3) c4⟩
  · rw [if_neg e]
    exact ⟨0, rfl, Or.inl rfl, fun z => by omega, fun z => absurd z.1 e⟩
theorem ia_open_L2 {known has hasMany : Nat → Int} {U : Nat → Bool} {w : Nat → Nat → List Nat} (hh : qu_R U w hasMany has) (hkn : ∀ c, c < 10000 → tl_R (known c)) {l a b : Nat} (hl : l < 10) (ha : a < 100) (hb : b < 100) (hUa : U a = true) (hUb : U b = true) (elen : (w l a).length = (w l b).length) :
    ∀ (n i : Nat), i ≤ (w l a).length → (w l a).length + 1 ≤ i + n → (fX10_openPart_L2 has hasMany known (a : Int) (b : Int) (l : Int) n (i : Int) = some (.inl ()) ∧ ∀ (j : Nat) (h : j < (w l a).length) (h2 : j < (w l b).length), i ≤ j → known ((w l a)[j] * 100 + (w l b)[j]) = 1) ∨ ∃ (j : Nat) (h : j < (w l a).length) (h2 : j < (w l b).length), fX10_openPart_L2 has hasMany known (a : Int) (b : Int) (l : Int) n (i : Int) = some (.inr (.inr (((w l a)[j] * 100 + (w l b)[j] : Nat) : Int))) ∧ known ((w l a)[j] * 100 + (w l b)[j]) ≠ 1 := by
  obtain ⟨a1, a2, a3, a4⟩ := qu_many hh hl ha hUa
  obtain ⟨b1, b2, b3, b4⟩ := qu_many hh hl hb hUb
  intro n
  induction n with
  | zero => intro i x y; omega
  | succ n ih =>
    intro i hi hn
    rw [fX10_openPart_L2, tl_gt ⟨by omega, by omega⟩, show ((l : Int) * 100 + (a : Int)).toNat = l * 100 + a by omega, a1, tl_gt ⟨⟨by omega, by omega⟩, ⟨by omega, by omega⟩⟩]
    by_cases q : i < (w l a).length
    · have q2 : i < (w l b).length := by omega
      have m1 := a4 _ (List.getElem_mem q)
      have m2 := b4 _ (List.getElem_mem q2)
      rw [if_pos (by omega), tl_gt ⟨by omega, by omega⟩, tl_gt ⟨by omega, by omega⟩, show (((l : Int) * 100 + (a : Int)) * 12 + (i : Int)).toNat = (l * 100 + a) * 12 + i by omega, show (((l : Int) * 100 + (b : Int)) * 12 + (i : Int)).toNat = (l * 100 + b) * 12 + i by omega, a3 i q, b3 i q2, tl_gt ⟨by omega, by omega⟩, show ((((w l a)[i] : Nat) : Int) * 100 + (((w l b)[i] : Nat) : Int)).toNat = (w l a)[i] * 100 + (w l b)[i] by omega, tl_gt ⟨hkn _ (by omega), by decide⟩, show (i : Int) + 1 = ((i + 1 : Nat) : Int) by omega]
      by_cases c : known ((w l a)[i] * 100 + (w l b)[i]) = 1
      · rw [if_pos c]
        refine (ih (i + 1) q (by omega)).elim (fun z => Or.inl ⟨z.1, fun j h1 h2 h3 => ?_⟩) Or.inr
        by_cases v : j = i
        · subst v
          exact c
        · exact z.2 j h1 h2 (by omega)
      · rw [if_neg c]
        refine Or.inr ⟨i, q, q2, ?_, c⟩
        rw [show (((w l a)[i] : Nat) : Int) * 100 + (((w l b)[i] : Nat) : Int) = (((w l a)[i] * 100 + (w l b)[i] : Nat) : Int) by omega]
    · rw [if_neg (by omega)]
      exact Or.inl ⟨rfl, fun j h1 h2 h3 => by omega⟩
theorem ia_open_L1 {nl : Nat} {fo fr ru to fo2 fr2 ru2 to2 : Nat → Int} (hTo : ht_R nl fo fr ru to fo2 fr2 ru2 to2) {known has hasMany : Nat → Int} {U : Nat → Bool} {w : Nat → Nat → List Nat} (hh : qu_R U w hasMany has) (hkn : ∀ c, c < 10000 → tl_R (known c)) {a b : Nat} (ha : a < 100) (hb : b < 100) (hUa : U a = true) (hUb : U b = true) (elen : ∀ l, l < nl → ru l = 1 → (w l a).length = (w l b).length) :
    ∀ (n l : Nat), l ≤ nl → nl + 1 ≤ l + n → (fX10_openPart_L1 (nl : Int) has hasMany known ru2 (a : Int) (b : Int) n (l : Int) = some (.inl ()) ∧ ∀ l2, l ≤ l2 → l2 < nl → ru l2 = 1 → ∀ (j : Nat) (h : j < (w l2 a).length) (h2 : j < (w l2 b).length), known ((w l2 a)[j] * 100 + (w l2 b)[j]) = 1) ∨ ∃ (l2 j : Nat) (h : j < (w l2 a).length) (h2 : j < (w l2 b).length), l2 < nl ∧ ru l2 = 1 ∧ fX10_openPart_L1 (nl : Int) has hasMany known ru2 (a : Int) (b : Int) n (l : Int) = some (.inr (((w l2 a)[j] * 100 + (w l2 b)[j] : Nat) : Int)) ∧ known ((w l2 a)[j] * 100 + (w l2 b)[j]) ≠ 1 := by
  have hn := hTo.1
  intro n
  induction n with
  | zero => intro l x y; omega
  | succ n ih =>
    intro l hl hn2
    rw [fX10_openPart_L1, tl_gt ⟨⟨by omega, by omega⟩, ⟨by omega, by omega⟩⟩]
    by_cases q : l < nl
    · have hTl := hTo.2 l q
      rw [if_pos (by omega), tl_gt ⟨by omega, by omega⟩, Int.toNat_natCast, hTl.2.2.1, tl_gt ⟨⟨by omega, by omega⟩, by decide⟩, show (l : Int) + 1 = ((l + 1 : Nat) : Int) by omega]
      by_cases r : ru l = 1
      · have c := ia_open_L2 hh hkn (l := l) (by omega) ha hb hUa hUb (elen l q r) tl_N 0 (Nat.zero_le _) (by have := (qu_many hh (l := l) (by omega) ha hUa).2.1; unfold tl_N; omega)
        rw [show ((0 : Nat) : Int) = (0 : Int) from rfl] at c
        rw [if_pos r]
        rcases c with ⟨c1, c2⟩ | ⟨j, j1, j2, c1, c2⟩
        · rw [c1, pr_b]
          refine (ih (l + 1) q (by omega)).elim (fun z => Or.inl ⟨z.1, fun l2 h1 h2 h3 => ?_⟩) Or.inr
          by_cases v : l2 = l
          · subst v
            exact fun j h4 h5 => c2 j h4 h5 (Nat.zero_le _)
          · exact z.2 l2 (by omega) h2 h3
        · rw [c1, pr_b]
          exact Or.inr ⟨l, j, j1, j2, q, r, rfl, c2⟩
      · rw [if_neg r]
        refine (ih (l + 1) q (by omega)).elim (fun z => Or.inl ⟨z.1, fun l2 h1 h2 h3 => ?_⟩) Or.inr
        by_cases v : l2 = l
        · exact absurd (v ▸ h3) r
        · exact z.2 l2 (by omega) h2 h3
    · rw [if_neg (by omega)]
      exact Or.inl ⟨rfl, fun l2 h1 h2 => by omega⟩
theorem ia_open {t o m pm km lv ra : Int} {nl : Nat} {fo fr ru to fo2 fr2 ru2 to2 : Nat → Int} (hTo : ht_R nl fo fr ru to fo2 fr2 ru2 to2) {known has hasMany : Nat → Int} {U : Nat → Bool} {w : Nat → Nat → List Nat} (hh : qu_R U w hasMany has) (hkn : ∀ c, c < 10000 → tl_R (known c)) {a b : Nat} (ha : a < 100) (hb : b < 100) (hUa : U a = true) (hUb : U b = true) (elen : ∀ l, l < nl → ru l = 1 → (w l a).length = (w l b).length) : (fX10_openPart t (nl : Int) o m pm km lv ra has hasMany known ru2 (a : Int) (b : Int) = some (-1) ∧ ∀ l2, l2 < nl → ru l2 = 1 → ∀ (j : Nat) (h : j < (w l2 a).length) (h2 : j < (w l2 b).length), known ((w l2 a)[j] * 100 + (w l2 b)[j]) = 1) ∨ ∃ (l2 j : Nat) (h : j < (w l2 a).length) (h2 : j < (w l2 b).length), l2 < nl ∧ ru l2 = 1 ∧ fX10_openPart t (nl : Int) o m pm km lv ra has hasMany known ru2 (a : Int) (b : Int) = some (((w l2 a)[j] * 100 + (w l2 b)[j] : Nat) : Int) ∧ known ((w l2 a)[j] * 100 + (w l2 b)[j]) ≠ 1 := by
  have c := ia_open_L1 hTo hh hkn ha hb hUa hUb elen tl_N 0 (by omega) (by have := hTo.1; unfold tl_N; omega)
  rw [show ((0 : Nat) : Int) = (0 : Int) from rfl] at c
  unfold fX10_openPart
  rcases c with ⟨c1, c2⟩ | ⟨l2, j, j1, j2, c1, c2, c3, c4⟩
  · rw [c1, pr_b]
    exact Or.inl ⟨rfl, fun l2 h1 h2 => c2 l2 (Nat.zero_le _) h1 h2⟩
  · rw [c3, pr_b]
    exact Or.inr ⟨l2, j, j1, j2, c1, c2, rfl, c4⟩
theorem ia_L1 : ∀ (n i : Nat) (x : Nat → Int), i ≤ 10000 → 10001 ≤ i + n → ∃ x', fX10_alike_L1 n (i : Int) x = some x' ∧ ∀ k, k < 10000 → x' k = if i ≤ k then 0 else x k := by
  intro n
  induction n with
  | zero => intro i x h1 h2; omega
  | succ n ih =>
    intro i x hi hn
    rw [fX10_alike_L1, tl_gt ⟨⟨by omega, by omega⟩, by decide⟩]
    by_cases hq : i < 10000
    · rw [if_pos (by omega), tl_gt ⟨⟨by omega, by omega⟩, by decide⟩, Int.toNat_natCast, show (i : Int) + 1 = ((i + 1 : Nat) : Int) by omega]
      obtain ⟨x', h1, h2⟩ := ih (i + 1) (va_up x i 0) hq (by omega)
      refine ⟨x', h1, fun k hk => ?_⟩
      rw [h2 k hk]
      by_cases h3 : k = i
      · rw [h3, va_up_self, if_neg (by omega), if_pos (by omega)]
      · rw [va_up_ne _ _ h3]
        by_cases h4 : i + 1 ≤ k
        · rw [if_pos h4, if_pos (by omega)]
        · rw [if_neg h4, if_neg (by omega)]
    · rw [if_neg (by omega)]
      exact ⟨x, rfl, fun k hk => by rw [if_neg (by omega)]⟩
