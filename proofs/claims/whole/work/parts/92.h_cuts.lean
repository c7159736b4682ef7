/-! drop: all rows of one that goes are cut -/
theorem hz_sub : ∀ (L xs : List Nat) (q : Nat → Bool), L.Nodup → xs.Sublist L → (∀ y, y ∈ xs ↔ y ∈ L ∧ q y = true) → xs = L.filter q
  | [], xs, q, _, hs, _ => by
    rw [List.sublist_nil.mp hs]
    rfl
  | a :: L, xs, q, hn, hs, h => by
    have hn2 := List.nodup_cons.mp hn
    cases hs with
    | cons _ hs2 =>
      have ha : a ∉ xs := fun z => hn2.1 (hs2.subset z)
      have hq : ¬ q a = true := fun z => ha ((h a).mpr ⟨List.mem_cons_self, z⟩)
      rw [List.filter_cons_of_neg hq]
      refine hz_sub L xs q hn2.2 hs2 (fun y => ⟨fun z => ⟨hs2.subset z, ((h y).mp z).2⟩, fun z => (h y).mpr ⟨List.mem_cons_of_mem _ z.1, z.2⟩⟩)
    | cons_cons _ hs2 =>
      rename_i ys
      have hq : q a = true := ((h a).mp List.mem_cons_self).2
      rw [List.filter_cons_of_pos hq]
      rw [hz_sub L ys q hn2.2 hs2 (fun y => ⟨fun z => ⟨hs2.subset z, ((h y).mp (List.mem_cons_of_mem _ z)).2⟩, fun z => by
        rcases List.mem_cons.mp ((h y).mpr ⟨List.mem_cons_of_mem _ z.1, z.2⟩) with v | v
        · exact absurd (v ▸ z.1) hn2.1
        · exact v⟩)]
theorem hs_cut_sub (w : Nat → Nat → List Nat) (l x y l2 s : Nat) : (hs_cut w l x y l2 s).Sublist (w l2 s) := by
  unfold hs_cut
  by_cases q : l2 = l ∧ s = x
  · obtain ⟨rfl, rfl⟩ := q
    rw [pr_set_at]
    exact List.filter_sublist
  · rw [pr_set_ne _ _ q]
    exact List.Sublist.refl _
/-- rows that have lost pairs of s alone -/
def hz_J (nl : Nat) (fo ru : Nat → Int) (g : Int) (U : Nat → Bool) (nu : Nat → Int) (s : Nat) (w d w2 d2 : Nat → Nat → List Nat) : Prop := hs_I nl fo ru g U nu w2 d2 ∧ (∀ l x, (w2 l x).Sublist (w l x)) ∧ (∀ l x, (d2 l x).Sublist (d l x)) ∧ ∀ l x y, y ∈ w l x → x ≠ s → y ≠ s → y ∈ w2 l x
theorem hz_J.refl {nl : Nat} {fo ru : Nat → Int} {g : Int} {U : Nat → Bool} {nu : Nat → Int} {s : Nat} {w d : Nat → Nat → List Nat} (h : hs_I nl fo ru g U nu w d) : hz_J nl fo ru g U nu s w d w d := ⟨h, fun _ _ => List.Sublist.refl _, fun _ _ => List.Sublist.refl _, fun _ _ _ z _ _ => z⟩
theorem hz_J.trans {nl : Nat} {fo ru : Nat → Int} {g : Int} {U : Nat → Bool} {nu : Nat → Int} {s : Nat} {w d w2 d2 w3 d3 : Nat → Nat → List Nat} (h1 : hz_J nl fo ru g U nu s w d w2 d2) (h2 : hz_J nl fo ru g U nu s w2 d2 w3 d3) : hz_J nl fo ru g U nu s w d w3 d3 := ⟨h2.1, fun l x => (h2.2.1 l x).trans (h1.2.1 l x), fun l x => (h2.2.2.1 l x).trans (h1.2.2.1 l x), fun l x y a b c => h2.2.2.2 l x y (h1.2.2.2 l x y a b c) b c⟩
theorem hz_J.cut {nl : Nat} {fo ru : Nat → Int} {g : Int} {U : Nat → Bool} {nu : Nat → Int} {s : Nat} {w d : Nat → Nat → List Nat} (h : hs_I nl fo ru g U nu w d) {l x y : Nat} (hs : x = s ∨ y = s) : hz_J nl fo ru g U nu s w d (hs_cut w l x y) (hs_cut d l y x) := by
  refine ⟨h.cut l x y, fun l2 z => hs_cut_sub _ _ _ _ _ _, fun l2 z => hs_cut_sub _ _ _ _ _ _, fun l2 a b h1 h2 h3 => hs_mem_cut.mpr ⟨h1, fun z => ?_⟩⟩
  rcases hs with e | e
  · exact h2 (by rw [z.2.1, e])
  · exact h3 (by rw [z.2.2, e])
theorem cz_L1 {nl : Nat} {fo ru : Nat → Int} {g ob : Int} {U : Nat → Bool} {nu : Nat → Int} {l s : Nat} (hl10 : l < 10) (hs : s < 100) :
    ∀ (m n : Nat) (w d : Nat → Nat → List Nat) (pa : Int) (dl : Nat → Int) (dw : Nat → Int64) (hl : Nat → Int) (hw : Nat → Int64), (w l s).length = m → m + 1 ≤ n → m ≤ 12 → hs_I nl fo ru g U nu w d → pr_R d dl dw → pr_R w hl hw → pa = (hs_p w : Int) →
      ∃ (w2 d2 : Nat → Nat → List Nat) (pa' : Int) (dl' : Nat → Int) (dw' : Nat → Int64) (hl' : Nat → Int) (hw' : Nat → Int64), fX1_separateAll_L1 ob (l : Int) (s : Int) n ((m : Int) - 1) pa dl dw hl hw = some (pa', dl', dw', hl', hw') ∧ pr_R d2 dl' dw' ∧ pr_R w2 hl' hw' ∧ pa' = (hs_p w2 : Int) ∧ hz_J nl fo ru g U nu s w d w2 d2 ∧ w2 l s = [] := by
  intro m
  induction m with
  | zero =>
    intro n w d pa dl dw hl hw hm hn _ hI hd hh hp
    obtain ⟨n, rfl⟩ : ∃ k, n = k + 1 := ⟨n - 1, by omega⟩
    refine ⟨w, d, pa, dl, dw, hl, hw, ?_, hd, hh, hp, hz_J.refl hI, List.eq_nil_of_length_eq_zero hm⟩
    rw [fX1_separateAll_L1, tl_gt (by decide), if_pos (by decide)]
  | succ m ih =>
    intro n w d pa dl dw hl hw hm hn h12 hI hd hh hp
    obtain ⟨n, rfl⟩ : ∃ k, n = k + 1 := ⟨n - 1, by omega⟩
    have q : m < (w l s).length := by omega
    have hmem := List.getElem_mem q
    have hy := (hI.row l s _ hmem).2.2.1
    obtain ⟨dl1, dw1, hl1, hw1, pa1, e1, e2, e3, e4⟩ := hc_sep (ob := ob) (x := s) (y := (w l s)[m]) hd hh hl10 hs hy (hI.nd l s).1 (hI.tw l s _) hp
    have hlen : (hs_cut w l s (w l s)[m] l s).length = m := by
      rw [hs_cut_at]
      have := pr_wo_len (hI.nd l s).1 hmem
      omega
    have J := hz_J.cut (s := s) (l := l) (x := s) (y := (w l s)[m]) hI (Or.inl rfl)
    obtain ⟨w2, d2, pa', dl', dw', hl', hw', f1, f2, f3, f4, f5, f6⟩ := ih n _ _ pa1 dl1 dw1 hl1 hw1 hlen (by omega) (by omega) J.1 e2 e3 e4
    refine ⟨w2, d2, pa', dl', dw', hl', hw', ?_, f2, f3, f4, J.trans f5, f6⟩
    rw [fX1_separateAll_L1, tl_gt ⟨by omega, by omega⟩, if_neg (by omega), show ((m + 1 : Nat) : Int) - 1 = (m : Int) by omega, pr_get hh hl10 hs q, pr_b, e1, pr_b]
    dsimp only
    rw [show (m : Int) + (-1) = (m : Int) - 1 by omega]
    exact f1
theorem cz_L2 {nl : Nat} {fo ru : Nat → Int} {g ob : Int} {U : Nat → Bool} {nu : Nat → Int} {l s : Nat} (hl10 : l < 10) (hs : s < 100) :
    ∀ (m n : Nat) (w d : Nat → Nat → List Nat) (pa : Int) (dl : Nat → Int) (dw : Nat → Int64) (hl : Nat → Int) (hw : Nat → Int64), (d l s).length = m → m + 1 ≤ n → m ≤ 12 → hs_I nl fo ru g U nu w d → pr_R d dl dw → pr_R w hl hw → pa = (hs_p w : Int) →
      ∃ (w2 d2 : Nat → Nat → List Nat) (pa' : Int) (dl' : Nat → Int) (dw' : Nat → Int64) (hl' : Nat → Int) (hw' : Nat → Int64), fX1_separateAll_L2 ob (l : Int) (s : Int) n ((m : Int) - 1) pa dl dw hl hw = some (pa', dl', dw', hl', hw') ∧ pr_R d2 dl' dw' ∧ pr_R w2 hl' hw' ∧ pa' = (hs_p w2 : Int) ∧ hz_J nl fo ru g U nu s w d w2 d2 ∧ d2 l s = [] := by
  intro m
  induction m with
  | zero =>
    intro n w d pa dl dw hl hw hm hn _ hI hd hh hp
    obtain ⟨n, rfl⟩ : ∃ k, n = k + 1 := ⟨n - 1, by omega⟩
    refine ⟨w, d, pa, dl, dw, hl, hw, ?_, hd, hh, hp, hz_J.refl hI, List.eq_nil_of_length_eq_zero hm⟩
    rw [fX1_separateAll_L2, tl_gt (by decide), if_pos (by decide)]
  | succ m ih =>
    intro n w d pa dl dw hl hw hm hn h12 hI hd hh hp
    obtain ⟨n, rfl⟩ : ∃ k, n = k + 1 := ⟨n - 1, by omega⟩
    have q : m < (d l s).length := by omega
    have hmem := List.getElem_mem q
    have hmw := (hI.tw l _ s).mpr hmem
    have hx := (hI.row l _ s hmw).2.1
    obtain ⟨dl1, dw1, hl1, hw1, pa1, e1, e2, e3, e4⟩ := hc_sep (ob := ob) (x := (d l s)[m]) (y := s) hd hh hl10 hx hs (hI.nd l _).1 (hI.tw l _ s) hp
    have hlen : (hs_cut d l s (d l s)[m] l s).length = m := by
      rw [hs_cut_at]
      have := pr_wo_len (hI.nd l s).2 hmem
      omega
    have J := hz_J.cut (s := s) (l := l) (x := (d l s)[m]) (y := s) hI (Or.inr rfl)
    obtain ⟨w2, d2, pa', dl', dw', hl', hw', f1, f2, f3, f4, f5, f6⟩ := ih n _ _ pa1 dl1 dw1 hl1 hw1 hlen (by omega) (by omega) J.1 e2 e3 e4
    refine ⟨w2, d2, pa', dl', dw', hl', hw', ?_, f2, f3, f4, J.trans f5, f6⟩
    rw [fX1_separateAll_L2, tl_gt ⟨by omega, by omega⟩, if_neg (by omega), show ((m + 1 : Nat) : Int) - 1 = (m : Int) by omega, pr_get hd hl10 hs q, pr_b, e1, pr_b]
    dsimp only
    rw [show (m : Int) + (-1) = (m : Int) - 1 by omega]
    exact f1
theorem hz_nil {xs ys : List Nat} (h : xs.Sublist ys) (e : ys = []) : xs = [] := by
  rw [e] at h
  exact List.sublist_nil.mp h
theorem cz_all {nl : Nat} {fo ru : Nat → Int} {g ob pa : Int} {U : Nat → Bool} {nu : Nat → Int} {l s : Nat} (hl10 : l < 10) (hs : s < 100) {w d : Nat → Nat → List Nat} {dl : Nat → Int} {dw : Nat → Int64} {hl : Nat → Int} {hw : Nat → Int64} (hI : hs_I nl fo ru g U nu w d) (hd : pr_R d dl dw) (hh : pr_R w hl hw) (hp : pa = (hs_p w : Int)) :
    ∃ (w2 d2 : Nat → Nat → List Nat) (pa' : Int) (dl' : Nat → Int) (dw' : Nat → Int64) (hl' : Nat → Int) (hw' : Nat → Int64), fX1_separateAll ob pa dl dw hl hw (l : Int) (s : Int) = some (dl', dw', hl', hw', pa') ∧ pr_R d2 dl' dw' ∧ pr_R w2 hl' hw' ∧ pa' = (hs_p w2 : Int) ∧ hz_J nl fo ru g U nu s w d w2 d2 ∧ w2 l s = [] ∧ d2 l s = [] := by
  obtain ⟨w1, d1, pa1, dl1, dw1, hl1, hw1, a1, a2, a3, a4, a5, a6⟩ := cz_L1 (ob := ob) hl10 hs (w l s).length tl_N w d pa dl dw hl hw rfl (by have := (hI.len l s).1; unfold tl_N; omega) (hI.len l s).1 hI hd hh hp
  obtain ⟨w2, d2, pa2, dl2, dw2, hl2, hw2, b1, b2, b3, b4, b5, b6⟩ := cz_L2 (ob := ob) hl10 hs (d1 l s).length tl_N w1 d1 pa1 dl1 dw1 hl1 hw1 rfl (by have := (a5.1.len l s).2; unfold tl_N; omega) (a5.1.len l s).2 a5.1 a2 a3 a4
  unfold fX1_separateAll
  rw [pr_lengthOf hh hl10 hs, pr_b, a1, pr_b]
  dsimp only
  rw [pr_lengthOf a2 hl10 hs, pr_b, b1, pr_b]
  exact ⟨w2, d2, pa2, dl2, dw2, hl2, hw2, rfl, b2, b3, b4, a5.trans b5, hz_nil (b5.2.1 l s) a6, b6⟩
theorem cz_rem_L {nl : Nat} {fo ru : Nat → Int} {g ob : Int} {U : Nat → Bool} {nu : Nat → Int} {s : Nat} (hs : s < 100) :
    ∀ (n l : Nat) (w d : Nat → Nat → List Nat) (pa : Int) (dl : Nat → Int) (dw : Nat → Int64) (hl : Nat → Int) (hw : Nat → Int64), l ≤ 10 → 11 ≤ l + n → hs_I nl fo ru g U nu w d → pr_R d dl dw → pr_R w hl hw → pa = (hs_p w : Int) → (∀ l2, l2 < l → w l2 s = [] ∧ d l2 s = []) →
      ∃ (w2 d2 : Nat → Nat → List Nat) (pa' : Int) (dl' : Nat → Int) (dw' : Nat → Int64) (hl' : Nat → Int) (hw' : Nat → Int64), fX1_remove_L1 ob (s : Int) n (l : Int) pa dl dw hl hw = some (pa', dl', dw', hl', hw') ∧ pr_R d2 dl' dw' ∧ pr_R w2 hl' hw' ∧ pa' = (hs_p w2 : Int) ∧ hz_J nl fo ru g U nu s w d w2 d2 ∧ ∀ l2, l2 < 10 → w2 l2 s = [] ∧ d2 l2 s = [] := by
  intro n
  induction n with
  | zero => intro l w d pa dl dw hl hw a b; omega
  | succ n ih =>
    intro l w d pa dl dw hl hw hl10 hn hI hd hh hp hE
    rw [fX1_remove_L1, tl_gt ⟨⟨by omega, by omega⟩, by decide⟩]
    by_cases q : l < 10
    · obtain ⟨w1, d1, pa1, dl1, dw1, hl1, hw1, a1, a2, a3, a4, a5, a6, a7⟩ := cz_all (ob := ob) q hs hI hd hh hp
      obtain ⟨w2, d2, pa2, dl2, dw2, hl2, hw2, b1, b2, b3, b4, b5, b6⟩ := ih (l + 1) w1 d1 pa1 dl1 dw1 hl1 hw1 q (by omega) a5.1 a2 a3 a4 (fun l2 h2 => by
        by_cases e : l2 = l
        · rw [e]
          exact ⟨a6, a7⟩
        · have := hE l2 (by omega)
          exact ⟨hz_nil (a5.2.1 l2 s) this.1, hz_nil (a5.2.2.1 l2 s) this.2⟩)
      refine ⟨w2, d2, pa2, dl2, dw2, hl2, hw2, ?_, b2, b3, b4, a5.trans b5, b6⟩
      rw [if_pos (by omega), a1, pr_b, show (l : Int) + 1 = ((l + 1 : Nat) : Int) by omega]
      exact b1
    · rw [if_neg (by omega)]
      exact ⟨w, d, pa, dl, dw, hl, hw, rfl, hd, hh, hp, hz_J.refl hI, fun l2 h2 => hE l2 (by omega)⟩
theorem hs_n_down {U : Nat → Bool} {p : Nat} (hp : p < 100) (h : U p = true) : hs_n (va_up U p false) + 1 = hs_n U := by
  have h1 := hs_sum_one (f := fun k => if va_up U p false k = true then 1 else 0) (g := fun k => if U k = true then 1 else 0) (i := p) 100 hp (fun k _ hk => by
    show (if va_up U p false k = true then 1 else 0) = _
    rw [va_up_ne _ _ hk])
  simp only [va_up_self, h, if_true] at h1
  unfold hs_n
  simpa using h1
theorem hs_I.off {nl : Nat} {fo ru : Nat → Int} {g : Int} {U : Nat → Bool} {nu : Nat → Int} {w d : Nat → Nat → List Nat} (h : hs_I nl fo ru g U nu w d) {s : Nat} (hE : ∀ l, w l s = [] ∧ d l s = []) : hs_I nl fo ru g (va_up U s false) nu w d := by
  have hU : ∀ k, va_up U s false k = true → U k = true := by
    intro k hk
    by_cases q : k = s
    · rw [q, va_up_self] at hk
      cases hk
    · rw [va_up_ne _ _ q] at hk
      exact hk
  refine ⟨fun k h1 h2 => h.num k h1 (hU k h2), fun j k h1 h2 h3 h4 => h.inj j k h1 h2 (hU j h3) (hU k h4), fun l a x hx => ?_, h.tw, h.nd, h.len, h.one, h.ac⟩
  obtain ⟨r1, r2, r3, r4, r5⟩ := h.row l a x hx
  have ha : a ≠ s := fun e => by
    rw [e, (hE l).1] at hx
    cases hx
  have hx2 : x ≠ s := fun e => by
    have := (h.tw l a x).mp hx
    rw [e, (hE l).2] at this
    cases this
  exact ⟨r1, r2, r3, by rw [va_up_ne _ _ ha]; exact r4, by rw [va_up_ne _ _ hx2]; exact r5⟩
theorem cz_remove {nl : Nat} {fo ru : Nat → Int} {g ob pa : Int} {U : Nat → Bool} {nu ki : Nat → Int} {s : Nat} (hs : s < 100) (hU : U s = true) {w d : Nat → Nat → List Nat} {dl : Nat → Int} {dw : Nat → Int64} {hl : Nat → Int} {hw : Nat → Int64} {kk nn : Nat → Int} (hn10 : nl ≤ 10) (hg : g ≤ 1000000) (hI : hs_I nl fo ru g U nu w d) (hR : hc_R U nu ki w d ob pa dl dw hl hw kk nn) :
    ∃ (w2 d2 : Nat → Nat → List Nat) (pa' : Int) (dl' : Nat → Int) (dw' : Nat → Int64) (hl' : Nat → Int) (hw' : Nat → Int64), fX1_remove ob pa dl dw hl hw nn (s : Int) = some (dl', dw', hl', hw', va_up nn s (-1), ob - 1, pa') ∧ hc_R (va_up U s false) nu ki w2 d2 (ob - 1) pa' dl' dw' hl' hw' kk (va_up nn s (-1)) ∧ hz_J nl fo ru g U nu s w d w2 d2 ∧ hs_I nl fo ru g (va_up U s false) nu w2 d2 ∧ ∀ l, w2 l s = [] ∧ d2 l s = [] := by
  obtain ⟨r1, r2, r3, r4, r5, r6⟩ := hR
  obtain ⟨w2, d2, pa', dl', dw', hl', hw', a1, a2, a3, a4, a5, a6⟩ := cz_rem_L (ob := ob) hs tl_N 0 w d pa dl dw hl hw (by omega) (by unfold tl_N; omega) hI r3 r4 r2 (fun l2 h2 => by omega)
  rw [show ((0 : Nat) : Int) = (0 : Int) from rfl] at a1
  have hE : ∀ l, w2 l s = [] ∧ d2 l s = [] := by
    intro l
    by_cases q : l < 10
    · exact a6 l q
    · constructor
      · exact List.eq_nil_iff_forall_not_mem.mpr (fun v hv => by have := (a5.1.row l s v hv).1; omega)
      · exact List.eq_nil_iff_forall_not_mem.mpr (fun v hv => by have := (a5.1.row l v s ((a5.1.tw l v s).mpr hv)).1; omega)
  have hnum := hI.num s hs hU
  have hd := hs_n_down hs hU
  refine ⟨w2, d2, pa', dl', dw', hl', hw', ?_, ⟨by omega, a4, a2, a3, fun k hk => ?_, fun k hk => ?_⟩, a5, a5.1.off hE, hE⟩
  · unfold fX1_remove
    rw [ph_numberOf hs, pr_b, r6 s hs, if_pos hU, tl_gt ⟨⟨by omega, by omega⟩, by decide⟩, if_neg (by omega), a1, pr_b]
    dsimp only
    rw [tl_gt ⟨by omega, by omega⟩, Int.toNat_natCast]
  · refine ⟨(r5 k hk).1, fun z => (r5 k hk).2 ?_⟩
    by_cases e : k = s
    · rw [e]
      exact hU
    · rw [va_up_ne _ _ e] at z
      exact z
  · by_cases e : k = s
    · rw [e, va_up_self, va_up_self]
      rfl
    · rw [va_up_ne _ _ e, va_up_ne _ _ e]
      exact r6 k hk
