/-! the reference's rows, of those that are there -/
theorem qu_set {U : Nat → Bool} {w Rw : Nat → Nat → List Nat} {l s : Nat} {xs : List Nat} (e : ∀ l s, l < 10 → s < 100 → U s = true → Rw l s = w l s) : ∀ l2 s2, l2 < 10 → s2 < 100 → U s2 = true → pr_set Rw l s xs l2 s2 = pr_set w l s xs l2 s2 := by
  intro l2 s2 h1 h2 h3
  by_cases q : l2 = l ∧ s2 = s
  · obtain ⟨rfl, rfl⟩ := q
    rw [pr_set_at, pr_set_at]
  · rw [pr_set_ne _ _ q, pr_set_ne _ _ q]
    exact e l2 s2 h1 h2 h3
theorem qu_many {U : Nat → Bool} {w : Nat → Nat → List Nat} {many row : Nat → Int} (h : qu_R U w many row) {l s : Nat} (hl : l < 10) (hs : s < 100) (hU : U s = true) : many (l * 100 + s) = ((w l s).length : Int) ∧ (w l s).length ≤ 12 ∧ (∀ (i : Nat) (h : i < (w l s).length), row ((l * 100 + s) * 12 + i) = (((w l s)[i] : Nat) : Int)) ∧ ∀ x ∈ w l s, x < 100 := by
  obtain ⟨Rw, h1, h2⟩ := h
  have h3 := h1 l s hl hs
  rw [h2 l s hl hs hU] at h3
  exact h3
theorem qu_indexIn {U : Nat → Bool} {w : Nat → Nat → List Nat} {many row : Nat → Int} (h : qu_R U w many row) {l s p : Nat} (hl : l < 10) (hs : s < 100) (hp : p < 100) (hU : U s = true) : fX10_indexIn 12000 1000 row many ((l : Int) * 100 + (s : Int)) (p : Int) = some (qr_idx (w l s) p) := by
  obtain ⟨Rw, h1, h2⟩ := h
  rw [← h2 l s hl hs hU, ← qr_indexIn h1 hl hs hp, show ((l : Int) * 100 + (s : Int)) = ((l * 100 + s : Nat) : Int) by omega]
theorem qu_remove {U : Nat → Bool} {w : Nat → Nat → List Nat} {many row : Nat → Int} (h : qu_R U w many row) {l s i : Nat} (hl : l < 10) (hs : s < 100) (hi : i < (w l s).length) (hU : U s = true) : ∃ (row' many' : Nat → Int), fX10_remove 12000 1000 row many ((l : Int) * 100 + (s : Int)) (i : Int) = some (row', many') ∧ qu_R U (pr_set w l s ((w l s).eraseIdx i)) many' row' := by
  obtain ⟨Rw, h1, h2⟩ := h
  have e := h2 l s hl hs hU
  obtain ⟨row', h3, h4⟩ := qr_remove (i := i) h1 hl hs (by rw [e]; exact hi)
  rw [show ((l : Int) * 100 + (s : Int)) = ((l * 100 + s : Nat) : Int) by omega, h3]
  exact ⟨_, _, rfl, pr_set Rw l s ((Rw l s).eraseIdx i), h4, by rw [e]; exact qu_set h2⟩
theorem qu_insert {U : Nat → Bool} {w : Nat → Nat → List Nat} {many row : Nat → Int} (h : qu_R U w many row) {l s i o : Nat} (hl : l < 10) (hs : s < 100) (ho : o < 100) (hi : i ≤ (w l s).length) (h12 : (w l s).length < 12) (hU : U s = true) : ∃ (row' many' : Nat → Int), fX10_insert 12000 1000 row many ((l : Int) * 100 + (s : Int)) (i : Int) (o : Int) = some (row', many') ∧ qu_R U (hs_put w l s i o) many' row' := by
  obtain ⟨Rw, h1, h2⟩ := h
  have e := h2 l s hl hs hU
  obtain ⟨row', h3, h4⟩ := qr_insert (i := i) (o := o) h1 hl hs ho (by rw [e]; exact hi) (by rw [e]; exact h12)
  rw [show ((l : Int) * 100 + (s : Int)) = ((l * 100 + s : Nat) : Int) by omega, h3]
  exact ⟨_, _, rfl, pr_set Rw l s ((Rw l s).take i ++ o :: (Rw l s).drop i), h4, by unfold hs_put; rw [e]; exact qu_set h2⟩
theorem qu_cut {U : Nat → Bool} {w : Nat → Nat → List Nat} {many row : Nat → Int} (h : qu_R U w many row) {l s y : Nat} (hl : l < 10) (hs : s < 100) (hy : y < 100) (hU : U s = true) (hn : (w l s).Nodup) (hm : y ∈ w l s) : ∃ (k : Nat) (row' many' : Nat → Int), fX10_indexIn 12000 1000 row many ((l : Int) * 100 + (s : Int)) (y : Int) = some (k : Int) ∧ fX10_remove 12000 1000 row many ((l : Int) * 100 + (s : Int)) (k : Int) = some (row', many') ∧ qu_R U (hs_cut w l s y) many' row' := by
  have hlt := List.idxOf_lt_length_of_mem hm
  obtain ⟨row', many', h1, h2⟩ := qu_remove h hl hs hlt hU
  rw [qr_same hn] at h2
  refine ⟨_, row', many', ?_, h1, h2⟩
  rw [qu_indexIn h hl hs hy hU]
  unfold qr_idx
  rw [if_pos hm]
theorem hq_part {t lk o m pm km lv ra : Int} {U : Nat → Bool} {w d : Nat → Nat → List Nat} {had hadMany has hasMany : Nat → Int} (hd : qu_R U d hadMany had) (hh : qu_R U w hasMany has) {l x y : Nat} (hl : l < 10) (hx : x < 100) (hy : y < 100) (hUx : U x = true) (hUy : U y = true) (hnw : (w l x).Nodup) (hnd : (d l y).Nodup) (hm : y ∈ w l x) (hm2 : x ∈ d l y) :
    ∃ (had' hadMany' has' hasMany' : Nat → Int), fX10_part t lk o m pm km lv ra had hadMany has hasMany (l : Int) (x : Int) (y : Int) = some (had', hadMany', has', hasMany') ∧ qu_R U (hs_cut d l y x) hadMany' had' ∧ qu_R U (hs_cut w l x y) hasMany' has' := by
  obtain ⟨k, row1, many1, h1, h2, h3⟩ := qu_cut hh hl hx hy hUx hnw hm
  obtain ⟨k2, row2, many2, h4, h5, h6⟩ := qu_cut hd hl hy hx hUy hnd hm2
  unfold fX10_part
  rw [h1, pr_b, h2, pr_b, h4, pr_b, h5, pr_b]
  exact ⟨row2, many2, row1, many1, rfl, h6, h3⟩
theorem hq_isHad {t lk o m pm km lv ra : Int} {U : Nat → Bool} {w : Nat → Nat → List Nat} {has hasMany : Nat → Int} (hh : qu_R U w hasMany has) {l x y : Nat} (hl : l < 10) (hx : x < 100) (hy : y < 100) (hUx : U x = true) : fX10_isHad t lk o m pm km lv ra has hasMany (l : Int) (x : Int) (y : Int) = some (if y ∈ w l x then 1 else 0) := by
  have h12 := (qu_many hh hl hx hUx).2.1
  unfold fX10_isHad
  rw [qu_indexIn hh hl hx hy hUx, pr_b]
  unfold qr_idx
  by_cases q : y ∈ w l x
  · have hlt := List.idxOf_lt_length_of_mem q
    rw [if_pos q, if_pos q, tl_gt ⟨by omega, by omega⟩, if_neg (by omega)]
  · rw [if_neg q, if_neg q, tl_gt (by decide), if_pos (by decide)]
/-! ways over what is owned, by their lengths -/
def hs_pa (own : Nat → List Nat) : Nat → Nat → Nat → Prop
  | 0, x, y => x = y
  | n + 1, x, y => ∃ z ∈ own x, hs_pa own n z y
theorem hs_pa_mono {own own2 : Nat → List Nat} (h : ∀ x, ∀ y ∈ own x, y ∈ own2 x) : ∀ (n x y : Nat), hs_pa own n x y → hs_pa own2 n x y
  | 0, _, _, e => e
  | n + 1, x, y, ⟨z, h1, h2⟩ => ⟨z, h x z h1, hs_pa_mono h n z y h2⟩
theorem hs_pa_app {own : Nat → List Nat} : ∀ (n m x y z : Nat), hs_pa own n x y → hs_pa own m y z → hs_pa own (n + m) x z
  | 0, m, x, y, z, e, h => by
    cases e
    rw [Nat.zero_add]
    exact h
  | n + 1, m, x, y, z, ⟨v, h1, h2⟩, h => by
    rw [show n + 1 + m = (n + m) + 1 by omega]
    exact ⟨v, h1, hs_pa_app n m v y z h2 h⟩
def hs_I (nl : Nat) (fo ru : Nat → Int) (g : Int) (U : Nat → Bool) (nu : Nat → Int) (w d : Nat → Nat → List Nat) : Prop := (∀ k, k < 100 → U k = true → 0 ≤ nu k ∧ nu k < g) ∧ (∀ j k, j < 100 → k < 100 → U j = true → U k = true → nu j = nu k → j = k) ∧ (∀ l s x, x ∈ w l s → l < nl ∧ s < 100 ∧ x < 100 ∧ U s = true ∧ U x = true) ∧ (∀ l s x, x ∈ w l s ↔ s ∈ d l x) ∧ (∀ l s, (w l s).Nodup ∧ (d l s).Nodup) ∧ (∀ l s, (w l s).length ≤ 12 ∧ (d l s).length ≤ 12) ∧ (∀ l, l < nl → fo l = 0 → ∀ s, (w l s).length ≤ 1) ∧ ∀ n x, ¬ hs_pa (pw_own nl ru w) (n + 1) x x
theorem hs_I.num {nl : Nat} {fo ru : Nat → Int} {g : Int} {U : Nat → Bool} {nu : Nat → Int} {w d : Nat → Nat → List Nat} (h : hs_I nl fo ru g U nu w d) : ∀ k, k < 100 → U k = true → 0 ≤ nu k ∧ nu k < g := h.1
theorem hs_I.inj {nl : Nat} {fo ru : Nat → Int} {g : Int} {U : Nat → Bool} {nu : Nat → Int} {w d : Nat → Nat → List Nat} (h : hs_I nl fo ru g U nu w d) : ∀ j k, j < 100 → k < 100 → U j = true → U k = true → nu j = nu k → j = k := h.2.1
theorem hs_I.row {nl : Nat} {fo ru : Nat → Int} {g : Int} {U : Nat → Bool} {nu : Nat → Int} {w d : Nat → Nat → List Nat} (h : hs_I nl fo ru g U nu w d) : ∀ l s x, x ∈ w l s → l < nl ∧ s < 100 ∧ x < 100 ∧ U s = true ∧ U x = true := h.2.2.1
theorem hs_I.tw {nl : Nat} {fo ru : Nat → Int} {g : Int} {U : Nat → Bool} {nu : Nat → Int} {w d : Nat → Nat → List Nat} (h : hs_I nl fo ru g U nu w d) : ∀ l s x, x ∈ w l s ↔ s ∈ d l x := h.2.2.2.1
theorem hs_I.nd {nl : Nat} {fo ru : Nat → Int} {g : Int} {U : Nat → Bool} {nu : Nat → Int} {w d : Nat → Nat → List Nat} (h : hs_I nl fo ru g U nu w d) : ∀ l s, (w l s).Nodup ∧ (d l s).Nodup := h.2.2.2.2.1
theorem hs_I.len {nl : Nat} {fo ru : Nat → Int} {g : Int} {U : Nat → Bool} {nu : Nat → Int} {w d : Nat → Nat → List Nat} (h : hs_I nl fo ru g U nu w d) : ∀ l s, (w l s).length ≤ 12 ∧ (d l s).length ≤ 12 := h.2.2.2.2.2.1
theorem hs_I.one {nl : Nat} {fo ru : Nat → Int} {g : Int} {U : Nat → Bool} {nu : Nat → Int} {w d : Nat → Nat → List Nat} (h : hs_I nl fo ru g U nu w d) : ∀ l, l < nl → fo l = 0 → ∀ s, (w l s).length ≤ 1 := h.2.2.2.2.2.2.1
theorem hs_I.ac {nl : Nat} {fo ru : Nat → Int} {g : Int} {U : Nat → Bool} {nu : Nat → Int} {w d : Nat → Nat → List Nat} (h : hs_I nl fo ru g U nu w d) : ∀ n x, ¬ hs_pa (pw_own nl ru w) (n + 1) x x := h.2.2.2.2.2.2.2
theorem hs_mem_cut {w : Nat → Nat → List Nat} {l x y l2 s2 z : Nat} : z ∈ hs_cut w l x y l2 s2 ↔ z ∈ w l2 s2 ∧ ¬ (l2 = l ∧ s2 = x ∧ z = y) := by
  unfold hs_cut
  by_cases q : l2 = l ∧ s2 = x
  · obtain ⟨rfl, rfl⟩ := q
    rw [pr_set_at, pr_mem_wo]
    simp
  · rw [pr_set_ne _ _ q]
    exact ⟨fun h => ⟨h, fun z => q ⟨z.1, z.2.1⟩⟩, fun h => h.1⟩
theorem hs_cut_nd {w : Nat → Nat → List Nat} {l x y l2 s2 : Nat} (h : (w l2 s2).Nodup) : (hs_cut w l x y l2 s2).Nodup := by
  unfold hs_cut
  by_cases q : l2 = l ∧ s2 = x
  · obtain ⟨rfl, rfl⟩ := q
    rw [pr_set_at]
    exact h.sublist List.filter_sublist
  · rw [pr_set_ne _ _ q]
    exact h
theorem hs_cut_le (w : Nat → Nat → List Nat) (l x y l2 s2 : Nat) : (hs_cut w l x y l2 s2).length ≤ (w l2 s2).length := by
  unfold hs_cut
  by_cases q : l2 = l ∧ s2 = x
  · obtain ⟨rfl, rfl⟩ := q
    rw [pr_set_at]
    exact pr_wo_le _ _
  · rw [pr_set_ne _ _ q]
    exact Nat.le_refl _
theorem hs_own_sub {nl : Nat} {ru : Nat → Int} {w w2 : Nat → Nat → List Nat} (h : ∀ l s x, x ∈ w l s → x ∈ w2 l s) : ∀ x, ∀ y ∈ pw_own nl ru w x, y ∈ pw_own nl ru w2 x := by
  intro x y hy
  obtain ⟨k, h1, h2, h3⟩ := pw_mem_own.mp hy
  exact pw_mem_own.mpr ⟨k, h1, h2, h k x y h3⟩
theorem hs_I.cut {nl : Nat} {fo ru : Nat → Int} {g : Int} {U : Nat → Bool} {nu : Nat → Int} {w d : Nat → Nat → List Nat} (h : hs_I nl fo ru g U nu w d) (l x y : Nat) : hs_I nl fo ru g U nu (hs_cut w l x y) (hs_cut d l y x) := by
  refine ⟨h.num, h.inj, fun l2 s z hz => h.row l2 s z (hs_mem_cut.mp hz).1, fun l2 s z => ?_, fun l2 s => ⟨hs_cut_nd (h.nd l2 s).1, hs_cut_nd (h.nd l2 s).2⟩, fun l2 s => ⟨Nat.le_trans (hs_cut_le _ _ _ _ _ _) (h.len l2 s).1, Nat.le_trans (hs_cut_le _ _ _ _ _ _) (h.len l2 s).2⟩, fun l2 h1 h2 s => Nat.le_trans (hs_cut_le _ _ _ _ _ _) (h.one l2 h1 h2 s), fun n z q => h.ac n z (hs_pa_mono (hs_own_sub (fun l2 s v hv => (hs_mem_cut.mp hv).1)) _ _ _ q)⟩
  rw [hs_mem_cut, hs_mem_cut, h.tw l2 s z]
  exact ⟨fun q => ⟨q.1, fun r => q.2 ⟨r.1, r.2.2, r.2.1⟩⟩, fun q => ⟨q.1, fun r => q.2 ⟨r.1, r.2.2, r.2.1⟩⟩⟩
