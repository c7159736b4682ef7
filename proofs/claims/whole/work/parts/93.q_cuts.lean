/-! drop: the reference erases; all that go -/
theorem qz_L2 {t lk o m pm km lv ra : Int} {nl : Nat} {fo ru : Nat → Int} {g : Int} {U : Nat → Bool} {nu : Nat → Int} {l s : Nat} (hl10 : l < 10) (hs : s < 100) (hU : U s = true) :
    ∀ (j n : Nat) (w d : Nat → Nat → List Nat) (had hadMany has hasMany : Nat → Int), (w l s).length = j → j + 1 ≤ n → hs_I nl fo ru g U nu w d → qu_R U d hadMany had → qu_R U w hasMany has →
      ∃ (w2 d2 : Nat → Nat → List Nat) (had' hadMany' has' hasMany' : Nat → Int), fX10_erase_L2 t lk o m pm km lv ra (s : Int) (l : Int) n had hadMany has hasMany = some (had', hadMany', has', hasMany') ∧ qu_R U d2 hadMany' had' ∧ qu_R U w2 hasMany' has' ∧ hz_J nl fo ru g U nu s w d w2 d2 ∧ w2 l s = [] := by
  have iX : tl_in ((l : Int) * 100 + (s : Int)) 1000 := ⟨by omega, by omega⟩
  have eX : ((l : Int) * 100 + (s : Int)).toNat = l * 100 + s := by omega
  have eX2 : (((l : Int) * 100 + (s : Int)) * 12).toNat = (l * 100 + s) * 12 := by omega
  intro j
  induction j with
  | zero =>
    intro n w d had hadMany has hasMany hj hn hI hd hh
    obtain ⟨n, rfl⟩ : ∃ k, n = k + 1 := ⟨n - 1, by omega⟩
    have hm := (qu_many hh hl10 hs hU).1
    rw [hj] at hm
    refine ⟨w, d, had, hadMany, has, hasMany, ?_, hd, hh, hz_J.refl hI, List.eq_nil_of_length_eq_zero hj⟩
    rw [fX10_erase_L2, tl_gt iX, eX, tl_gt (by rw [hm]; decide), if_neg (by rw [hm]; decide)]
  | succ j ih =>
    intro n w d had hadMany has hasMany hj hn hI hd hh
    obtain ⟨n, rfl⟩ : ∃ k, n = k + 1 := ⟨n - 1, by omega⟩
    obtain ⟨m1, m2, m3, m4⟩ := qu_many hh hl10 hs hU
    have q : 0 < (w l s).length := by omega
    have hmem := List.getElem_mem q
    obtain ⟨_, _, hy, _, hUy⟩ := hI.row l s _ hmem
    have m30 := m3 0 q
    rw [Nat.add_zero] at m30
    obtain ⟨had1, hadMany1, has1, hasMany1, f1, f2, f3⟩ := hq_part (t := t) (lk := lk) (o := o) (m := m) (pm := pm) (km := km) (lv := lv) (ra := ra) hd hh hl10 hs hy hU hUy (hI.nd l s).1 (hI.nd l _).2 hmem ((hI.tw l s _).mp hmem)
    have hlen : (hs_cut w l s (w l s)[0] l s).length = j := by
      rw [hs_cut_at]
      have := pr_wo_len (hI.nd l s).1 hmem
      omega
    have J := hz_J.cut (s := s) (l := l) (x := s) (y := (w l s)[0]) hI (Or.inl rfl)
    obtain ⟨w2, d2, had', hadMany', has', hasMany', g1, g2, g3, g4, g5⟩ := ih n _ _ had1 hadMany1 has1 hasMany1 hlen (by omega) J.1 f2 f3
    refine ⟨w2, d2, had', hadMany', has', hasMany', ?_, g2, g3, J.trans g4, g5⟩
    rw [fX10_erase_L2, tl_gt iX, eX, eX2, tl_gt (show tl_R (hasMany (l * 100 + s)) by rw [m1]; exact ⟨by omega, by omega⟩), if_pos (by omega), tl_gt ⟨by omega, by omega⟩, m30, f1, pr_b]
    exact g1
theorem qz_L3 {t lk o m pm km lv ra : Int} {nl : Nat} {fo ru : Nat → Int} {g : Int} {U : Nat → Bool} {nu : Nat → Int} {l s : Nat} (hl10 : l < 10) (hs : s < 100) (hU : U s = true) :
    ∀ (j n : Nat) (w d : Nat → Nat → List Nat) (had hadMany has hasMany : Nat → Int), (d l s).length = j → j + 1 ≤ n → hs_I nl fo ru g U nu w d → qu_R U d hadMany had → qu_R U w hasMany has →
      ∃ (w2 d2 : Nat → Nat → List Nat) (had' hadMany' has' hasMany' : Nat → Int), fX10_erase_L3 t lk o m pm km lv ra (s : Int) (l : Int) n had hadMany has hasMany = some (had', hadMany', has', hasMany') ∧ qu_R U d2 hadMany' had' ∧ qu_R U w2 hasMany' has' ∧ hz_J nl fo ru g U nu s w d w2 d2 ∧ d2 l s = [] := by
  have iX : tl_in ((l : Int) * 100 + (s : Int)) 1000 := ⟨by omega, by omega⟩
  have eX : ((l : Int) * 100 + (s : Int)).toNat = l * 100 + s := by omega
  have eX2 : (((l : Int) * 100 + (s : Int)) * 12).toNat = (l * 100 + s) * 12 := by omega
  intro j
  induction j with
  | zero =>
    intro n w d had hadMany has hasMany hj hn hI hd hh
    obtain ⟨n, rfl⟩ : ∃ k, n = k + 1 := ⟨n - 1, by omega⟩
    have hm := (qu_many hd hl10 hs hU).1
    rw [hj] at hm
    refine ⟨w, d, had, hadMany, has, hasMany, ?_, hd, hh, hz_J.refl hI, List.eq_nil_of_length_eq_zero hj⟩
    rw [fX10_erase_L3, tl_gt iX, eX, tl_gt (by rw [hm]; decide), if_neg (by rw [hm]; decide)]
  | succ j ih =>
    intro n w d had hadMany has hasMany hj hn hI hd hh
    obtain ⟨n, rfl⟩ : ∃ k, n = k + 1 := ⟨n - 1, by omega⟩
    obtain ⟨m1, m2, m3, m4⟩ := qu_many hd hl10 hs hU
    have q : 0 < (d l s).length := by omega
    have hmem := List.getElem_mem q
    have hmw := (hI.tw l _ s).mpr hmem
    obtain ⟨_, hx, _, hUx, _⟩ := hI.row l _ s hmw
    have m30 := m3 0 q
    rw [Nat.add_zero] at m30
    obtain ⟨had1, hadMany1, has1, hasMany1, f1, f2, f3⟩ := hq_part (t := t) (lk := lk) (o := o) (m := m) (pm := pm) (km := km) (lv := lv) (ra := ra) hd hh hl10 hx hs hUx hU (hI.nd l _).1 (hI.nd l s).2 hmw hmem
    have hlen : (hs_cut d l s (d l s)[0] l s).length = j := by
      rw [hs_cut_at]
      have := pr_wo_len (hI.nd l s).2 hmem
      omega
    have J := hz_J.cut (s := s) (l := l) (x := (d l s)[0]) (y := s) hI (Or.inr rfl)
    obtain ⟨w2, d2, had', hadMany', has', hasMany', g1, g2, g3, g4, g5⟩ := ih n _ _ had1 hadMany1 has1 hasMany1 hlen (by omega) J.1 f2 f3
    refine ⟨w2, d2, had', hadMany', has', hasMany', ?_, g2, g3, J.trans g4, g5⟩
    rw [fX10_erase_L3, tl_gt iX, eX, eX2, tl_gt (show tl_R (hadMany (l * 100 + s)) by rw [m1]; exact ⟨by omega, by omega⟩), if_pos (by omega), tl_gt ⟨by omega, by omega⟩, m30, f1, pr_b]
    exact g1
theorem qz_L1 {t o m pm km lv ra : Int} {nl : Nat} (hn10 : nl ≤ 10) {fo ru : Nat → Int} {g : Int} {U : Nat → Bool} {nu : Nat → Int} {s : Nat} (hs : s < 100) (hU : U s = true) :
    ∀ (n l : Nat) (w d : Nat → Nat → List Nat) (had hadMany has hasMany : Nat → Int), l ≤ nl → nl + 1 ≤ l + n → hs_I nl fo ru g U nu w d → qu_R U d hadMany had → qu_R U w hasMany has → (∀ l2, l2 < l → w l2 s = [] ∧ d l2 s = []) →
      ∃ (w2 d2 : Nat → Nat → List Nat) (had' hadMany' has' hasMany' : Nat → Int), fX10_erase_L1 t (nl : Int) o m pm km lv ra (s : Int) n (l : Int) had hadMany has hasMany = some (had', hadMany', has', hasMany') ∧ qu_R U d2 hadMany' had' ∧ qu_R U w2 hasMany' has' ∧ hz_J nl fo ru g U nu s w d w2 d2 ∧ ∀ l2, l2 < nl → w2 l2 s = [] ∧ d2 l2 s = [] := by
  intro n
  induction n with
  | zero => intro l w d had hadMany has hasMany a b; omega
  | succ n ih =>
    intro l w d had hadMany has hasMany hl hn hI hd hh hE
    rw [fX10_erase_L1, tl_gt ⟨⟨by omega, by omega⟩, ⟨by omega, by omega⟩⟩]
    by_cases q : l < nl
    · obtain ⟨w1, d1, had1, hadMany1, has1, hasMany1, a1, a2, a3, a4, a5⟩ := qz_L2 (t := t) (lk := (nl : Int)) (o := o) (m := m) (pm := pm) (km := km) (lv := lv) (ra := ra) (l := l) (by omega) hs hU (w l s).length tl_N w d had hadMany has hasMany rfl (by have := (hI.len l s).1; unfold tl_N; omega) hI hd hh
      obtain ⟨w2, d2, had2, hadMany2, has2, hasMany2, b1, b2, b3, b4, b5⟩ := qz_L3 (t := t) (lk := (nl : Int)) (o := o) (m := m) (pm := pm) (km := km) (lv := lv) (ra := ra) (l := l) (by omega) hs hU (d1 l s).length tl_N w1 d1 had1 hadMany1 has1 hasMany1 rfl (by have := (a4.1.len l s).2; unfold tl_N; omega) a4.1 a2 a3
      obtain ⟨w3, d3, had3, hadMany3, has3, hasMany3, c1, c2, c3, c4, c5⟩ := ih (l + 1) w2 d2 had2 hadMany2 has2 hasMany2 q (by omega) b4.1 b2 b3 (fun l2 h2 => by
        by_cases e : l2 = l
        · rw [e]
          exact ⟨hz_nil (b4.2.1 l s) a5, b5⟩
        · have := hE l2 (by omega)
          exact ⟨hz_nil ((b4.2.1 l2 s).trans (a4.2.1 l2 s)) this.1, hz_nil ((b4.2.2.1 l2 s).trans (a4.2.2.1 l2 s)) this.2⟩)
      refine ⟨w3, d3, had3, hadMany3, has3, hasMany3, ?_, c2, c3, (a4.trans b4).trans c4, c5⟩
      rw [if_pos (by omega), a1, pr_b]
      dsimp only
      rw [b1, pr_b]
      dsimp only
      rw [show (l : Int) + 1 = ((l + 1 : Nat) : Int) by omega]
      exact c1
    · rw [if_neg (by omega)]
      exact ⟨w, d, had, hadMany, has, hasMany, rfl, hd, hh, hz_J.refl hI, fun l2 h2 => hE l2 (by omega)⟩
theorem qu_off {U : Nat → Bool} {w : Nat → Nat → List Nat} {many row : Nat → Int} (h : qu_R U w many row) (s : Nat) : qu_R (va_up U s false) w many row := by
  obtain ⟨Rw, h1, h2⟩ := h
  refine ⟨Rw, h1, fun l x hl hx hU => h2 l x hl hx ?_⟩
  by_cases e : x = s
  · rw [e, va_up_self] at hU
    cases hU
  · rw [va_up_ne _ _ e] at hU
    exact hU
theorem qz_erase {t m pm km lv ra : Int} {nl : Nat} (hn10 : nl ≤ 10) {fo ru : Nat → Int} {g ob : Int} {U : Nat → Bool} {nu ki : Nat → Int} {s : Nat} (hs : s < 100) (hU : U s = true) {w d : Nat → Nat → List Nat} {had hadMany has hasMany kind number used : Nat → Int} (hI : hs_I nl fo ru g U nu w d) (hQ : hq_R U nu ki w d ob had hadMany has hasMany kind number used) :
    ∃ (w2 d2 : Nat → Nat → List Nat) (had' hadMany' has' hasMany' : Nat → Int), fX10_erase t (nl : Int) ob m pm km lv ra had hadMany has hasMany used (s : Int) = some (had', hadMany', has', hasMany', va_up used s 0, ob - 1) ∧ hq_R (va_up U s false) nu ki w2 d2 (ob - 1) had' hadMany' has' hasMany' kind number (va_up used s 0) ∧ hz_J nl fo ru g U nu s w d w2 d2 ∧ hs_I nl fo ru g (va_up U s false) nu w2 d2 ∧ ∀ l, w2 l s = [] ∧ d2 l s = [] := by
  obtain ⟨q1, q2, q3, q4, q5, q6⟩ := hQ
  obtain ⟨w2, d2, had', hadMany', has', hasMany', a1, a2, a3, a4, a5⟩ := qz_L1 (t := t) (o := ob) (m := m) (pm := pm) (km := km) (lv := lv) (ra := ra) hn10 hs hU tl_N 0 w d had hadMany has hasMany (by omega) (by unfold tl_N; omega) hI q2 q3 (fun l2 h2 => by omega)
  rw [show ((0 : Nat) : Int) = (0 : Int) from rfl] at a1
  have hE : ∀ l, w2 l s = [] ∧ d2 l s = [] := by
    intro l
    by_cases q : l < nl
    · exact a5 l q
    · constructor
      · exact List.eq_nil_iff_forall_not_mem.mpr (fun v hv => by have := (a4.1.row l s v hv).1; omega)
      · exact List.eq_nil_iff_forall_not_mem.mpr (fun v hv => by have := (a4.1.row l v s ((a4.1.tw l v s).mpr hv)).1; omega)
  have hd := hs_n_down hs hU
  have hof : ∀ k, va_up U s false k = true → U k = true := by
    intro k hk
    by_cases q : k = s
    · rw [q, va_up_self] at hk
      cases hk
    · rw [va_up_ne _ _ q] at hk
      exact hk
  refine ⟨w2, d2, had', hadMany', has', hasMany', ?_, ⟨by omega, qu_off a2 s, qu_off a3 s, fun k hk => ⟨(q4 k hk).1, fun z => (q4 k hk).2 (hof k z)⟩, fun k hk => ⟨(q5 k hk).1, fun z => (q5 k hk).2 (hof k z)⟩, fun k hk => ?_⟩, a4, a4.1.off hE, hE⟩
  · unfold fX10_erase
    rw [a1, pr_b]
    dsimp only
    rw [tl_gt ⟨⟨by omega, by omega⟩, Or.inl rfl⟩, Int.toNat_natCast]
  · by_cases e : k = s
    · rw [e, va_up_self, va_up_self]
      rfl
    · rw [va_up_ne _ _ e, va_up_ne _ _ e]
      exact q6 k hk
/-- all of G gone -/
def hz_W (G : List Nat) (w : Nat → Nat → List Nat) (l x : Nat) : List Nat := (w l x).filter (fun y => decide (x ∉ G ∧ y ∉ G))
def hz_U (G : List Nat) (U : Nat → Bool) (k : Nat) : Bool := if k ∈ G then false else U k
/-- what holds on the way: only pairs of G are lost -/
def hz_T (G : List Nat) (w d w2 d2 : Nat → Nat → List Nat) : Prop := (∀ l x, (w2 l x).Sublist (w l x)) ∧ (∀ l x, (d2 l x).Sublist (d l x)) ∧ ∀ l x y, y ∈ w l x → x ∉ G → y ∉ G → y ∈ w2 l x
theorem hz_T.go {G : List Nat} {w d w2 d2 w3 d3 : Nat → Nat → List Nat} {nl : Nat} {fo ru : Nat → Int} {g : Int} {U : Nat → Bool} {nu : Nat → Int} {s : Nat} (h : hz_T G w d w2 d2) (hs : s ∈ G) (J : hz_J nl fo ru g U nu s w2 d2 w3 d3) : hz_T G w d w3 d3 := ⟨fun l x => (J.2.1 l x).trans (h.1 l x), fun l x => (J.2.2.1 l x).trans (h.2.1 l x), fun l x y a b c => J.2.2.2 l x y (h.2.2 l x y a b c) (fun e => b (e ▸ hs)) (fun e => c (e ▸ hs))⟩
theorem hz_end {G : List Nat} {nl : Nat} {fo ru fo2 ru2 : Nat → Int} {g : Int} {U U2 : Nat → Bool} {nu : Nat → Int} {w d w2 d2 : Nat → Nat → List Nat} (h : hs_I nl fo ru g U nu w d) (h2 : hs_I nl fo2 ru2 g U2 nu w2 d2) (T : hz_T G w d w2 d2) (hE : ∀ s ∈ G, ∀ l, w2 l s = [] ∧ d2 l s = []) : w2 = hz_W G w ∧ d2 = hz_W G d := by
  have mem : ∀ l x y, y ∈ w2 l x ↔ y ∈ w l x ∧ x ∉ G ∧ y ∉ G := by
    intro l x y
    constructor
    · intro z
      refine ⟨(T.1 l x).subset z, fun q => ?_, fun q => ?_⟩
      · rw [(hE x q l).1] at z
        cases z
      · have := (h2.tw l x y).mp z
        rw [(hE y q l).2] at this
        cases this
    · rintro ⟨a, b, c⟩
      exact T.2.2 l x y a b c
  constructor
  · funext l x
    exact hz_sub _ _ _ (h.nd l x).1 (T.1 l x) (fun y => by rw [mem l x y]; simp)
  · funext l x
    refine hz_sub _ _ _ (h.nd l x).2 (T.2.1 l x) (fun y => ?_)
    rw [← h2.tw l y x, mem l y x, h.tw l y x]
    simp only [decide_eq_true_eq]
    exact ⟨fun z => ⟨z.1, z.2.2, z.2.1⟩, fun z => ⟨z.1, z.2.2, z.2.1⟩⟩
