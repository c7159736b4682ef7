/-! begin and end keep the relation -/
theorem fm_eq {F F' : Nat → va_W} : ∀ {xs : List Nat}, (∀ x ∈ xs, F' x = F x) → xs.flatMap F' = xs.flatMap F := by
  intro xs
  induction xs with
  | nil => intro _; rfl
  | cons x xs ih =>
    intro h
    rw [List.flatMap_cons, List.flatMap_cons, h x List.mem_cons_self, ih (fun y hy => h y (List.mem_cons_of_mem _ hy))]
theorem fm_cut (F : Nat → va_W) {mx i : Nat} (hi : i < mx) : ((List.range mx).flatMap F).Perm (F i ++ ((List.range mx).erase i).flatMap F) := by
  have h : (List.range mx).Perm (i :: (List.range mx).erase i) := List.perm_cons_erase (List.mem_range.mpr hi)
  have h2 := h.flatMap_right F
  rw [List.flatMap_cons] at h2
  exact h2
theorem fm_same {F F' : Nat → va_W} (mx : Nat) {i : Nat} (h : ∀ j, j ≠ i → F' j = F j) : ((List.range mx).erase i).flatMap F' = ((List.range mx).erase i).flatMap F := by
  have hn : i ∉ (List.range mx).erase i := List.Nodup.not_mem_erase List.nodup_range
  exact fm_eq (fun x hx => h x (fun e => hn (e ▸ hx)))
theorem pm_sv {base : va_W} (F : Nat → va_W) {mx i : Nat} (hi : i < mx) : (base ++ (List.range mx).flatMap F).Perm ((base ++ F i) ++ ((List.range mx).erase i).flatMap F) := by
  rw [List.append_assoc]
  exact List.Perm.append_left _ (fm_cut F hi)
theorem pm_put {base SVx : va_W} {F F' : Nat → va_W} {mx i : Nat} (hi : i < mx) (e1 : F' i = SVx) (e2 : ∀ j, j ≠ i → F' j = F j) : (base ++ (List.range mx).flatMap F').Perm ((base ++ SVx) ++ ((List.range mx).erase i).flatMap F) := by
  have h := pm_sv (base := base) F' hi
  rw [e1, fm_same mx e2] at h
  exact h
theorem pm_new {base SVx : va_W} {F F' : Nat → va_W} {mx : Nat} (e1 : F' mx = SVx) (e2 : ∀ j, j < mx → F' j = F j) : (base ++ (List.range (mx + 1)).flatMap F').Perm ((base ++ SVx) ++ (List.range mx).flatMap F) := by
  rw [List.range_succ, List.flatMap_append, fm_eq (F := F) (fun x hx => e2 x (List.mem_range.mp hx)), List.flatMap_cons, List.flatMap_nil, List.append_nil, e1, List.append_assoc]
  exact List.Perm.append_left _ List.perm_append_comm
def sv_a (a0 a1 a2 a3 a4 a5 a6 a7 a8 : Nat) : Nat → Nat
  | 0 => a0
  | 1 => a1
  | 2 => a2
  | 3 => a3
  | 4 => a4
  | 5 => a5
  | 6 => a6
  | 7 => a7
  | _ => a8
theorem lw_kept {U : Nat → Bool} {nu ki : Nat → Int} {w d : Nat → Nat → List Nat} {ob : Int} {had hadMany has hasMany kind number used : Nat → Int} (hq : hq_R U nu ki w d ob had hadMany has hasMany kind number used) :
    (∀ q : Int, 0 ≤ q → q < 100 → used q.toNat = 0 ∨ used q.toNat = 1) ∧ (∀ q x : Int, 0 ≤ q → q < 100 → ¬ used q.toNat = 0 → 0 ≤ x → x < 10 → (0 ≤ hasMany ((x * (100 : Int)) + q).toNat ∧ hasMany ((x * (100 : Int)) + q).toNat ≤ 12) ∧ (0 ≤ hadMany ((x * (100 : Int)) + q).toNat ∧ hadMany ((x * (100 : Int)) + q).toNat ≤ 12)) ∧ kp_h hasMany has hadMany had number kind used 0 100 = lv_e (U, nu, ki, w, d) := by
  refine ⟨fun q h0 h1 => ?_, fun q x h0 h1 hu h2 h3 => ?_, ke_h_eq hq 100 0 rfl⟩
  · rw [hq.2.2.2.2.2 q.toNat (by omega)]
    split
    · exact Or.inr rfl
    · exact Or.inl rfl
  · have e : ((x * (100 : Int)) + q).toNat = x.toNat * 100 + q.toNat := by omega
    rw [e]
    obtain ⟨R1, r1, -⟩ := hq.2.1
    obtain ⟨R2, r2, -⟩ := hq.2.2.1
    have a1 := r1 x.toNat q.toNat (by omega) (by omega)
    have a2 := r2 x.toNat q.toNat (by omega) (by omega)
    rw [a1.1, a2.1]
    exact ⟨⟨by omega, by have := a2.2.1; omega⟩, ⟨by omega, by have := a1.2.1; omega⟩⟩
theorem lw_LV.push {nl : Nat} {fo ru : Nat → Int} {g : Int} {lv mx kx many : Nat} {f at_ : Nat → Int} {fsv : Nat → Option Nat} {sA : Nat → Nat → Nat} {hh : Nat → hH} {so sp : Nat → Int} {sdl : Nat → Nat → Int} {sdw : Nat → Nat → Int64} {shl : Nat → Nat → Int} {shw : Nat → Nat → Int64} {skk snn : Nat → Nat → Int} (h : lw_LV nl fo ru g lv mx kx many f at_ fsv sA hh so sp sdl sdw shl shw skk snn) (hl12 : lv < 12) {mx2 kz nz : Nat} {fz : Nat → Int} {fsv2 : Nat → Option Nat} {sA2 : Nat → Nat → Nat} {U : Nat → Bool} {nu ki : Nat → Int} {w d : Nat → Nat → List Nat} (hI : lv_I nl fo ru g (U, nu, ki, w, d)) (hz : kp_all (kx, f, many) (lv_e (U, nu, ki, w, d)) = (kz, fz, nz)) {o2 p2 : Int} {dl : Nat → Int} {dw : Nat → Int64} {hl : Nat → Int} {hw : Nat → Int64} {kk nn : Nat → Int} (hc : hc_R U nu ki w d o2 p2 dl dw hl hw kk nn) (hm : lv < mx2) (hm2 : mx2 ≤ 12) (h7 : ∀ i, i < mx2 → fsv2 i = some (sA2 i 0)) (h8 : ∀ i, mx2 ≤ i → i < 12 → fsv2 i = none) :
    lw_LV nl fo ru g (lv + 1) mx2 kz nz fz (va_up at_ lv (many : Int)) fsv2 sA2 (va_up hh lv (U, nu, ki, w, d)) (va_up so lv o2) (va_up sp lv p2) (va_up sdl lv dl) (va_up sdw lv dw) (va_up shl lv hl) (va_up shw lv hw) (va_up skk lv kk) (va_up snn lv nn) ∧ kx ≤ kz ∧ kz ≤ 9 := by
  obtain ⟨v1, v2, v3, v4, v5, v6, v7, v8⟩ := h
  have hmany := v5.many (fun i hi => (v6 i hi).1)
  have hle := lv_e_len hI
  have z9 := kp_all_9 (lv_e (U, nu, ki, w, d)) (s := (kx, f, many)) v3 (by show many + _ ≤ 314400; omega)
  have zf := kp_all_f (lv_e (U, nu, ki, w, d)) (s := (kx, f, many)) v4
  have zn := kp_all_n (lv_e (U, nu, ki, w, d)) (kx, f, many)
  have zo := kp_all_ok (lv_e (U, nu, ki, w, d)) (s := (kx, f, many)) v4
  have zk := kp_all_le (lv_e (U, nu, ki, w, d)) (kx, f, many)
  rw [hz] at z9 zf zn zo zk
  have zn : nz = many + (lv_e (U, nu, ki, w, d)).length := zn
  subst zn
  refine ⟨⟨by omega, hm2, z9, zo, v5.push (U, nu, ki, w, d) zf.1 zf.2, fun i hi => ?_, h7, h8⟩, zk, z9⟩
  by_cases q : i = lv
  · subst q
    simp only [va_up_self]
    exact ⟨hI, hc⟩
  · simp only [va_up_ne _ _ q]
    exact v6 i (by omega)
