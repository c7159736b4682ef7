/-! end of the reference: what was kept is read back -/
def qz : (Nat → Int) → Nat → List Int → Nat → Int
  | f, _, [] => f
  | f, b, v :: vs => qz (va_up f b v) (b + 1) vs
theorem qz_out : ∀ (vs : List Int) (f : Nat → Int) (b k : Nat), (k < b ∨ b + vs.length ≤ k) → qz f b vs k = f k := by
  intro vs
  induction vs with
  | nil => intro f b k _; rfl
  | cons v vs ih =>
    intro f b k h
    rw [List.length_cons] at h
    rw [qz, ih _ _ _ (by omega), va_up_ne _ _ (by omega)]
theorem qz_in : ∀ (vs : List Int) (f : Nat → Int) (b i : Nat) (h : i < vs.length), qz f b vs (b + i) = vs[i] := by
  intro vs
  induction vs with
  | nil => intro f b i h; exact absurd h (by simp)
  | cons v vs ih =>
    intro f b i h
    cases i with
    | zero =>
      show qz (va_up f b v) (b + 1) vs b = v
      rw [qz_out _ _ _ _ (by omega), va_up_self]
    | succ i =>
      rw [qz, show b + (i + 1) = b + 1 + i by omega, ih _ _ i (by simpa using h)]
      rfl
theorem rb_next {L : Nat} {f : Nat → Int} {a : Nat} (h : a < L) (hL : L ≤ 2147483647) (th li ob nm pm km lv : Int) : fX10_next L th li ob nm pm km lv (a : Int) f = some (f a, ((a + 1 : Nat) : Int)) := by
  unfold fX10_next
  rw [tl_gt ⟨by omega, by omega⟩, show ((a : Int) + 1 - 1).toNat = a by omega]
  rfl
theorem rb_L1 {L : Nat} {f : Nat → Int} (hL : L ≤ 2147483647) (th li ob nm pm km lv : Int) (hm : Nat → Int) {r : Nat} (hr : r < 1000) (z1 : Int × Int) :
    ∀ (vs : List Int) (n x a : Nat) (g : Nat → Int), z1.1 = ((x + vs.length : Nat) : Int) → vs.length + 1 ≤ n → x + vs.length ≤ 12 → ke_at f a vs → a + vs.length ≤ L → fX10_readRows_L1 L th li ob nm pm km lv hm f (r : Int) z1 n (x : Int) (a : Int) g = some (((a + vs.length : Nat) : Int), qz g (r * 12 + x) vs) := by
  have hv : va_up hm (r : Int).toNat z1.1 (r : Int).toNat = z1.1 := va_up_self _ _ _
  intro vs
  induction vs with
  | nil =>
    intro n x a g e hn h12 hk ha
    obtain ⟨n, rfl⟩ : ∃ m, n = m + 1 := ⟨n - 1, by simp at hn; omega⟩
    rw [List.length_nil] at e
    rw [fX10_readRows_L1, tl_gt ⟨by omega, by omega⟩, tl_gt ⟨⟨by omega, by omega⟩, by rw [hv, e]; exact ⟨by omega, by omega⟩⟩, if_neg (by rw [hv, e]; omega)]
    rfl
  | cons v vs ih =>
    intro n x a g e hn h12 hk ha
    rw [List.length_cons] at e hn h12 ha
    obtain ⟨n, rfl⟩ : ∃ m, n = m + 1 := ⟨n - 1, by omega⟩
    obtain ⟨k1, k2⟩ := hk.cons
    rw [fX10_readRows_L1, tl_gt ⟨by omega, by omega⟩, tl_gt ⟨⟨by omega, by omega⟩, by rw [hv, e]; exact ⟨by omega, by omega⟩⟩, if_pos (by rw [hv, e]; omega), rb_next (by omega) hL, pr_b]
    dsimp only
    rw [tl_gt ⟨by omega, by omega⟩, k1, show ((r : Int) * (12 : Int) + (x : Int)).toNat = r * 12 + x by omega, show (x : Int) + 1 = ((x + 1 : Nat) : Int) by omega, ih n (x + 1) (a + 1) _ (by rw [e]; congr 1; omega) (by omega) (by omega) k2 (by omega), qz, List.length_cons, show a + 1 + vs.length = a + (vs.length + 1) by omega, show r * 12 + (x + 1) = r * 12 + x + 1 by omega]
theorem rb_L2 {L : Nat} {f : Nat → Int} (hL : L ≤ 2147483647) (th li ob nm pm km lv : Int) (hm : Nat → Int) {r : Nat} (hr : r < 1000) (z1 : Int × Int) :
    ∀ (vs : List Int) (n x a : Nat) (g : Nat → Int), z1.1 = ((x + vs.length : Nat) : Int) → vs.length + 1 ≤ n → x + vs.length ≤ 12 → ke_at f a vs → a + vs.length ≤ L → fX10_readRows_L2 L th li ob nm pm km lv hm f (r : Int) z1 n (x : Int) (a : Int) g = some (((a + vs.length : Nat) : Int), qz g (r * 12 + x) vs) := by
  have hv : va_up hm (r : Int).toNat z1.1 (r : Int).toNat = z1.1 := va_up_self _ _ _
  intro vs
  induction vs with
  | nil =>
    intro n x a g e hn h12 hk ha
    obtain ⟨n, rfl⟩ : ∃ m, n = m + 1 := ⟨n - 1, by simp at hn; omega⟩
    rw [List.length_nil] at e
    rw [fX10_readRows_L2, tl_gt ⟨by omega, by omega⟩, tl_gt ⟨⟨by omega, by omega⟩, by rw [hv, e]; exact ⟨by omega, by omega⟩⟩, if_neg (by rw [hv, e]; omega)]
    rfl
  | cons v vs ih =>
    intro n x a g e hn h12 hk ha
    rw [List.length_cons] at e hn h12 ha
    obtain ⟨n, rfl⟩ : ∃ m, n = m + 1 := ⟨n - 1, by omega⟩
    obtain ⟨k1, k2⟩ := hk.cons
    rw [fX10_readRows_L2, tl_gt ⟨by omega, by omega⟩, tl_gt ⟨⟨by omega, by omega⟩, by rw [hv, e]; exact ⟨by omega, by omega⟩⟩, if_pos (by rw [hv, e]; omega), rb_next (by omega) hL, pr_b]
    dsimp only
    rw [tl_gt ⟨by omega, by omega⟩, k1, show ((r : Int) * (12 : Int) + (x : Int)).toNat = r * 12 + x by omega, show (x : Int) + 1 = ((x + 1 : Nat) : Int) by omega, ih n (x + 1) (a + 1) _ (by rw [e]; congr 1; omega) (by omega) (by omega) k2 (by omega), qz, List.length_cons, show a + 1 + vs.length = a + (vs.length + 1) by omega, show r * 12 + (x + 1) = r * 12 + x + 1 by omega]
theorem ke_v_len (xs : List Nat) : (ke_v xs).length = xs.length := List.length_map _
theorem rb_set {R : Nat → Nat → List Nat} {many row : Nat → Int} (h : qr_R R many row) {l s : Nat} (hl : l < 10) (hs : s < 100) {ws : List Nat} (h12 : ws.length ≤ 12) (h100 : ∀ x ∈ ws, x < 100) : qr_R (pr_set R l s ws) (va_up many (l * 100 + s) (ws.length : Int)) (qz row ((l * 100 + s) * 12) (ke_v ws)) := by
  intro l2 s2 hl2 hs2
  unfold pr_set
  by_cases e : l2 = l ∧ s2 = s
  · obtain ⟨rfl, rfl⟩ := e
    rw [if_pos ⟨rfl, rfl⟩]
    refine ⟨va_up_self _ _ _, h12, fun i hi => ?_, h100⟩
    rw [qz_in _ _ _ i (by rw [ke_v_len]; exact hi)]
    unfold ke_v
    rw [List.getElem_map]
  · rw [if_neg e]
    obtain ⟨a1, a2, a3, a4⟩ := h l2 s2 hl2 hs2
    have hne : l2 * 100 + s2 ≠ l * 100 + s := by omega
    refine ⟨by rw [va_up_ne _ _ hne]; exact a1, a2, fun i hi => ?_, a4⟩
    rw [qz_out _ _ _ _ (by rw [ke_v_len]; omega)]
    exact a3 i hi
theorem rb_rows {L : Nat} {f : Nat → Int} (hL : L ≤ 2147483647) (th li ob nm pm km lv : Int) {Rh Rd : Nat → Nat → List Nat} {had hadMany has hasMany : Nat → Int} (hh : qr_R Rh hasMany has) (hd : qr_R Rd hadMany had) {l s a : Nat} (hl : l < 10) (hs : s < 100) {w d : Nat → Nat → List Nat} (h12 : (w l s).length ≤ 12 ∧ (d l s).length ≤ 12) (h1 : ∀ x ∈ w l s, x < 100) (h2 : ∀ x ∈ d l s, x < 100) (hk : ke_at f a (ke_q w d l s)) (ha : a + (ke_q w d l s).length ≤ L) :
    ∃ (had' hadMany' has' hasMany' : Nat → Int), fX10_readRows L th li ob nm pm km lv (a : Int) had hadMany has hasMany f (((l : Int) * (100 : Int)) + (s : Int)) = some (had', hadMany', has', hasMany', ((a + (ke_q w d l s).length : Nat) : Int)) ∧ qr_R (pr_set Rh l s (w l s)) hasMany' has' ∧ qr_R (pr_set Rd l s (d l s)) hadMany' had' := by
  unfold ke_q at hk ha ⊢
  obtain ⟨k1, k2⟩ := hk.cons
  obtain ⟨k3, k4⟩ := k2.app
  obtain ⟨k5, k6⟩ := k4.cons
  simp only [List.length_cons, List.length_append, ke_v_len] at k4 k5 k6 ha ⊢
  have e1 := rb_L1 hL th li ob nm pm km lv hasMany (r := l * 100 + s) (by omega) (f a, ((a + 1 : Nat) : Int)) (ke_v (w l s)) tl_N 0 (a + 1) has (by rw [ke_v_len, Nat.zero_add]; exact k1) (by rw [ke_v_len]; unfold tl_N; omega) (by rw [ke_v_len]; omega) k3 (by rw [ke_v_len]; omega)
  have e2 := rb_L2 hL th li ob nm pm km lv hadMany (r := l * 100 + s) (by omega) (f (a + 1 + (w l s).length), ((a + 1 + (w l s).length + 1 : Nat) : Int)) (ke_v (d l s)) tl_N 0 (a + 1 + (w l s).length + 1) had (by rw [ke_v_len, Nat.zero_add]; exact k5) (by rw [ke_v_len]; unfold tl_N; omega) (by rw [ke_v_len]; omega) k6 (by rw [ke_v_len]; omega)
  rw [ke_v_len, Nat.add_zero, show ((0 : Nat) : Int) = (0 : Int) from rfl] at e1 e2
  refine ⟨qz had ((l * 100 + s) * 12) (ke_v (d l s)), va_up hadMany (l * 100 + s) ((d l s).length : Int), qz has ((l * 100 + s) * 12) (ke_v (w l s)), va_up hasMany (l * 100 + s) ((w l s).length : Int), ?_, rb_set hh hl hs h12.1 h1, rb_set hd hl hs h12.2 h2⟩
  unfold fX10_readRows
  rw [show ((l : Int) * (100 : Int)) + (s : Int) = ((l * 100 + s : Nat) : Int) by omega, rb_next (by omega) hL, pr_b, tl_gt ⟨by omega, by omega⟩]
  dsimp only
  rw [e1, pr_b]
  dsimp only
  rw [rb_next (by omega) hL, pr_b, tl_gt ⟨by omega, by omega⟩]
  dsimp only
  rw [e2, pr_b]
  dsimp only
  rw [Int.toNat_natCast, k1, k5, show a + 1 + (w l s).length + 1 + (d l s).length = a + ((w l s).length + ((d l s).length + 1) + 1) by omega]
  rfl
