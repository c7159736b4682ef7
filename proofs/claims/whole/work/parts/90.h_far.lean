/-! drop: how far, among those that go -/
theorem pw_F_le {own : Nat → List Nat} {p : Nat} {S : List Nat} {d : Nat → Int} (F : pw_F own p S d) : ∀ (n x y : Nat), x ∈ S → hs_pa own n x y → y ∈ S ∧ d y ≤ d x + (n : Int)
  | 0, x, y, hx, e => by
    have e2 : x = y := e
    rw [← e2]
    exact ⟨hx, by omega⟩
  | n + 1, x, y, hx, ⟨z, h1, h2⟩ => by
    have h3 := F.cl x hx z h1
    have h4 := pw_F_le F n z y h3.1 h2
    exact ⟨h4.1, by omega⟩
theorem pw_F_ex {own : Nat → List Nat} {p : Nat} {S : List Nat} {d : Nat → Int} (F : pw_F own p S d) : ∀ (n x : Nat), x ∈ S → d x = (n : Int) → hs_pa own n p x := by
  intro n
  induction n with
  | zero =>
    intro x hx e
    rcases F.fr x hx with q | ⟨y, h1, _, h3⟩
    · rw [q]
      exact rfl
    · have := F.ge y h1
      omega
  | succ n ih =>
    intro x hx e
    rcases F.fr x hx with q | ⟨y, h1, h2, h3⟩
    · rw [q, F.d0] at e
      omega
    · exact hs_pa_app n 1 p y x (ih y h1 (by omega)) ⟨x, h2, rfl⟩
def hm_own (nl : Nat) (ru : Nat → Int) (d : Nat → Nat → List Nat) (G : List Nat) (s : Nat) : List Nat := (pw_own nl ru d s).filter (fun x => decide (x ∈ G))
def hm_D (nl : Nat) (ru : Nat → Int) (d : Nat → Nat → List Nat) (G : List Nat) (k : Nat) : Nat → Int := pw_D (pw_spread (hm_own nl ru d G) k).1 (pw_spread (hm_own nl ru d G) k).2
theorem hm_mem {nl : Nat} {ru : Nat → Int} {d : Nat → Nat → List Nat} {G : List Nat} {s x : Nat} : x ∈ hm_own nl ru d G s ↔ x ∈ pw_own nl ru d s ∧ x ∈ G := by
  unfold hm_own
  rw [List.mem_filter]
  simp
theorem hm_F {nl : Nat} {fo ru : Nat → Int} {g : Int} {U : Nat → Bool} {nu : Nat → Int} {w d : Nat → Nat → List Nat} (h : hs_I nl fo ru g U nu w d) (G : List Nat) {k : Nat} (hk : k < 100) : pw_F (hm_own nl ru d G) k (pw_spread (hm_own nl ru d G) k).1 (pw_spread (hm_own nl ru d G) k).2 := pw_spread_F (fun x _ y hy => (hs_own_d h (hm_mem.mp hy).1).2.1) hk
theorem pw_D_in {S : List Nat} {d : Nat → Int} {k : Nat} (h : k ∈ S) : pw_D S d k = d k := by
  unfold pw_D
  rw [if_pos h]
theorem pw_D_ge {own : Nat → List Nat} {p : Nat} {S : List Nat} {d : Nat → Int} (F : pw_F own p S d) (k : Nat) : k ∈ S ↔ 0 ≤ pw_D S d k := by
  unfold pw_D
  by_cases q : k ∈ S
  · rw [if_pos q]
    exact ⟨fun _ => F.ge k q, fun _ => q⟩
  · rw [if_neg q]
    exact ⟨fun z => absurd z q, fun z => by omega⟩
/-- the set of those that go, as a list, and its start -/
def hm_S (nl : Nat) (ru : Nat → Int) (d : Nat → Nat → List Nat) (p : Nat) (G : List Nat) : Prop := G.Nodup ∧ (∀ k ∈ G, k < 100) ∧ ∀ k, k ∈ G ↔ hg_G (pw_own nl ru d) p k
theorem hm_up {nl : Nat} {fo ru : Nat → Int} {g : Int} {U : Nat → Bool} {nu : Nat → Int} {w d : Nat → Nat → List Nat} (h : hs_I nl fo ru g U nu w d) {p : Nat} {G : List Nat} (hG : hm_S nl ru d p G) {k : Nat} (hk : k ∈ G) : ∀ (n i x y : Nat), x ∈ G → hs_pa (pw_own nl ru d) i k x → ((i + n : Nat) : Int) ≤ hs_D nl ru d k p → hs_pa (pw_own nl ru d) n x y → hs_pa (hm_own nl ru d G) n x y := by
  have hk100 := hG.2.1 k hk
  have F := hs_D_F h hk100
  intro n
  induction n with
  | zero => intro i x y _ _ _ e; exact e
  | succ n ih =>
    intro i x y hx hi hle hp
    obtain ⟨z, h1, h2⟩ := hp
    have hxp : x ≠ p := fun e => by
      rw [e] at hi
      have h3 := pw_F_le F i k p F.h0 hi
      have h4 : hs_D nl ru d k p = (pw_spread (pw_own nl ru d) k).2 p := pw_D_in h3.1
      have h5 := h3.2
      rw [F.d0] at h5
      omega
    have hz : z ∈ G := by
      rcases hg_own ((hG.2.2 x).mp hx) with q | ⟨_, q⟩
      · exact absurd q hxp
      · exact (hG.2.2 z).mpr (q z h1)
    refine ⟨z, hm_mem.mpr ⟨h1, hz⟩, ih (i + 1) z y hz (hs_pa_app i 1 k x z hi ⟨z, h1, rfl⟩) ?_ h2⟩
    omega
theorem hm_reach {nl : Nat} {fo ru : Nat → Int} {g : Int} {U : Nat → Bool} {nu : Nat → Int} {w d : Nat → Nat → List Nat} (h : hs_I nl fo ru g U nu w d) {p : Nat} (hp : p < 100) {k : Nat} (hk : hg_G (pw_own nl ru d) p k) : k ∈ (pw_spread (pw_own nl ru w) p).1 := by
  have F : pw_F (pw_own nl ru w) p (pw_spread (pw_own nl ru w) p).1 (pw_spread (pw_own nl ru w) p).2 := pw_spread_F (fun y _ z hz => (hs_own_w h hz).2.1) hp
  refine hk (fun k => k ∈ (pw_spread (pw_own nl ru w) p).1) ⟨F.h0, fun y h1 h2 => ?_⟩
  obtain ⟨z, hz⟩ := List.exists_mem_of_ne_nil _ h1
  exact (F.cl z (h2 z hz) y (hs_own_d h hz).2.2.2.2).1
/-- downward from p to k it is as far as upward from k to p -/
theorem hm_far {nl : Nat} {fo ru : Nat → Int} {g : Int} {U : Nat → Bool} {nu : Nat → Int} {w d : Nat → Nat → List Nat} (h : hs_I nl fo ru g U nu w d) {p : Nat} (hp : p < 100) {G : List Nat} (hG : hm_S nl ru d p G) {k : Nat} (hk : k ∈ G) : 0 ≤ hs_D nl ru d k p ∧ hs_D nl ru d k p = (pw_spread (pw_own nl ru w) p).2 k := by
  have hk100 := hG.2.1 k hk
  have F : pw_F (pw_own nl ru w) p (pw_spread (pw_own nl ru w) p).1 (pw_spread (pw_own nl ru w) p).2 := pw_spread_F (fun y _ z hz => (hs_own_w h hz).2.1) hp
  have E := hs_D_F h hk100
  have hr := hm_reach h hp ((hG.2.2 k).mp hk)
  have h0 := F.ge k hr
  have h1 := pw_F_ex F ((pw_spread (pw_own nl ru w) p).2 k).toNat k hr (by omega)
  have h2 := hs_pa_rev (fun x y hy => (hs_own_w h hy).2.2.2.2) _ _ _ h1
  have h3 := pw_F_le E _ k p E.h0 h2
  have e3 : hs_D nl ru d k p = (pw_spread (pw_own nl ru d) k).2 p := pw_D_in h3.1
  have h4 := E.ge p h3.1
  have h5 := pw_F_ex E ((pw_spread (pw_own nl ru d) k).2 p).toNat p h3.1 (by omega)
  have h6 := hs_pa_rev (fun x y hy => (hs_own_d h hy).2.2.2.2) _ _ _ h5
  have h7 := pw_F_le F _ p k F.h0 h6
  have h8 := h3.2
  have h9 := h7.2
  rw [E.d0] at h8
  rw [F.d0] at h9
  exact ⟨by omega, by omega⟩
theorem hm_same {nl : Nat} {fo ru : Nat → Int} {g : Int} {U : Nat → Bool} {nu : Nat → Int} {w d : Nat → Nat → List Nat} (h : hs_I nl fo ru g U nu w d) {p : Nat} (hp : p < 100) {G : List Nat} (hG : hm_S nl ru d p G) {k : Nat} (hk : k ∈ G) : hm_D nl ru d G k p = hs_D nl ru d k p ∧ ∀ y (j : Int), 0 ≤ j → j < hs_D nl ru d k p → (hs_D nl ru d k y = j ↔ hm_D nl ru d G k y = j) := by
  have hk100 := hG.2.1 k hk
  have E := hs_D_F h hk100
  have M := hm_F h G hk100
  have far := hm_far h hp hG hk
  have low : ∀ y, 0 ≤ hs_D nl ru d k y → hs_D nl ru d k y ≤ hs_D nl ru d k p → hm_D nl ru d G k y ≤ hs_D nl ru d k y ∧ 0 ≤ hm_D nl ru d G k y := by
    intro y h0 h1
    have hy : y ∈ (pw_spread (pw_own nl ru d) k).1 := (pw_D_ge E y).mpr h0
    have ey : hs_D nl ru d k y = (pw_spread (pw_own nl ru d) k).2 y := pw_D_in hy
    have h2 := pw_F_ex E (hs_D nl ru d k y).toNat y hy (by omega)
    have h3 := hm_up h hG hk (hs_D nl ru d k y).toNat 0 k y hk rfl (by omega) h2
    have h4 := pw_F_le M _ k y M.h0 h3
    have e4 : hm_D nl ru d G k y = (pw_spread (hm_own nl ru d G) k).2 y := pw_D_in h4.1
    have h5 := h4.2
    rw [M.d0] at h5
    have h6 := M.ge y h4.1
    exact ⟨by omega, by omega⟩
  have high : ∀ y, 0 ≤ hm_D nl ru d G k y → hs_D nl ru d k y ≤ hm_D nl ru d G k y ∧ 0 ≤ hs_D nl ru d k y := by
    intro y h0
    have hy : y ∈ (pw_spread (hm_own nl ru d G) k).1 := (pw_D_ge M y).mpr h0
    have ey : hm_D nl ru d G k y = (pw_spread (hm_own nl ru d G) k).2 y := pw_D_in hy
    have h2 := pw_F_ex M (hm_D nl ru d G k y).toNat y hy (by omega)
    have h3 := hs_pa_mono (own2 := pw_own nl ru d) (fun a b hb => (hm_mem.mp hb).1) _ _ _ h2
    have h4 := pw_F_le E _ k y E.h0 h3
    have e4 : hs_D nl ru d k y = (pw_spread (pw_own nl ru d) k).2 y := pw_D_in h4.1
    have h5 := h4.2
    rw [E.d0] at h5
    have h6 := E.ge y h4.1
    exact ⟨by omega, by omega⟩
  have hpp := low p far.1 (Int.le_refl _)
  have hpp2 := high p hpp.2
  refine ⟨by omega, fun y j h0 h1 => ⟨fun e => ?_, fun e => ?_⟩⟩
  · have h2 := low y (by omega) (by omega)
    have h3 := high y h2.2
    omega
  · have h2 := high y (by omega)
    have h3 := low y h2.2 (by omega)
    omega
theorem pl_fold_iff {P Q : Nat → Prop} [DecidablePred P] [DecidablePred Q] {num : Nat → Int} : ∀ (xs : List Nat) (b : Int), (∀ x ∈ xs, P x ↔ Q x) → pl_fold P num b xs = pl_fold Q num b xs
  | [], _, _ => rfl
  | x :: xs, b, h => by
    have e : pl_step P num b x = pl_step Q num b x := by
      unfold pl_step
      by_cases q : P x ∧ (b < 0 ∨ num x < num b.toNat)
      · rw [if_pos q, if_pos ⟨(h x List.mem_cons_self).mp q.1, q.2⟩]
      · rw [if_neg q, if_neg (fun z => q ⟨(h x List.mem_cons_self).mpr z.1, z.2⟩)]
    rw [pl_fold, pl_fold, e]
    exact pl_fold_iff xs _ (fun y hy => h y (List.mem_cons_of_mem _ hy))
theorem hm_way {own : Nat → List Nat} {nu D D2 : Nat → Int} {top : Int} (hex : ∀ x, 0 < D x → D x ≤ top → ∃ y ∈ own x, D y = D x - 1) (e : ∀ y (j : Int), 0 ≤ j → j < top → (D y = j ↔ D2 y = j)) : ∀ (n x : Nat), D x = (n : Int) → D2 x = (n : Int) → (n : Int) ≤ top → pw_way own nu D n x = pw_way own nu D2 n x
  | 0, _, _, _, _ => rfl
  | n + 1, x, h1, h2, h3 => by
    have hn : pw_next own nu D2 x = pw_next own nu D x := by
      unfold pw_next
      rw [pl_fold_iff (P := fun y => D2 y = D2 x - 1) (Q := fun y => D y = D x - 1) (own x) (-1) (fun y _ => by
        rw [h1, h2]
        exact (e y _ (by omega) (by omega)).symm)]
    have h4 := pw_next_is (num := nu) (hex x (by omega) (by omega))
    have h5 : D (pw_next own nu D x) = (n : Int) := by omega
    have h6 : D2 (pw_next own nu D x) = (n : Int) := (e _ _ (by omega) (by omega)).mp h5
    rw [pw_way, pw_way, hn, hm_way hex e n _ h5 h6 (by omega)]
theorem hm_short {nl : Nat} {fo ru : Nat → Int} {g : Int} {U : Nat → Bool} {nu : Nat → Int} {w d : Nat → Nat → List Nat} (h : hs_I nl fo ru g U nu w d) {p : Nat} {G : List Nat} (hG : hm_S nl ru d p G) {k b : Nat} (hk : k ∈ G) (hb : b ∉ G) (hb100 : b < 100) (y : Nat) : hm_D nl ru d G k y < 99 := by
  have hk100 := hG.2.1 k hk
  have M := hm_F h G hk100
  have hsub : ∀ x ∈ (pw_spread (hm_own nl ru d G) k).1, x ∈ G := pw_spread_all (P := fun x => x ∈ G) (fun x _ y hy => (hm_mem.mp hy).2) hk
  have h1 := hk_len _ _ M.nd hsub
  have h2 := ps_len 100 (b :: G) (List.nodup_cons.mpr ⟨hb, hG.1⟩) (fun x hx => (List.mem_cons.mp hx).elim (fun e => by omega) (hG.2.1 x))
  rw [List.length_cons] at h2
  unfold hm_D pw_D
  by_cases q : y ∈ (pw_spread (hm_own nl ru d G) k).1
  · rw [if_pos q]
    have := M.le y q
    omega
  · rw [if_neg q]
    omega
