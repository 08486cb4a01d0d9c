/-! Y: the kinds are found -/
def ck_SI (gen : Nat → Nat) (m c t : Nat) (nam0 : Nat → Int32) (S : Nat → Prop) (wt : Nat → Nat) (left : Nat) (nam wai : Nat → Int32) : Prop :=
  (∀ y, y < c ^ 6 → S y → nam y = nI t) ∧ (∀ y, y < c ^ 6 → ¬ S y → nam y = nam0 y) ∧ (∀ y, S y → ck_R gen m c t y) ∧ S t ∧ (∀ j, j < left → wai j = nI (wt j) ∧ S (wt j)) ∧ left ≤ ck_ct S (c ^ 6)
theorem ck_SI_push {gen : Nat → Nat} {m c t : Nat} {nam0 : Nat → Int32} {S : Nat → Prop} {wt : Nat → Nat} {left x : Nat} {nam wai : Nat → Int32} (h : ck_SI gen m c t nam0 S wt left nam wai) (hx : x < c ^ 6) (hS : ¬ S x) (hR : ck_R gen m c t x) : ck_SI gen m c t nam0 (fun y => S y ∨ y = x) (ck_app wt left x) (left + 1) (upd nam x (nI t)) (upd wai left (nI x)) := by
  obtain ⟨h1, h2, h3, h4, h5, h6⟩ := h
  refine ⟨?_, ?_, ?_, Or.inl h4, ?_, ?_⟩
  · intro y hy hs
    by_cases z : y = x
    · rw [z]; exact pk_us
    · rw [pk_un z]
      exact h1 y hy (hs.resolve_right z)
  · intro y hy hs
    have z : y ≠ x := fun z => hs (Or.inr z)
    rw [pk_un z]
    exact h2 y hy fun w => hs (Or.inl w)
  · intro y hs
    rcases hs with hs | rfl
    · exact h3 y hs
    · exact hR
  · intro j hj
    by_cases z : j = left
    · rw [z, ck_app_s]
      exact ⟨pk_us, Or.inr rfl⟩
    · rw [pk_un z, ck_app_n (by omega)]
      exact ⟨(h5 j (by omega)).1, Or.inl (h5 j (by omega)).2⟩
  · rw [ck_ct_ins hS hx]
    omega
section
variable {mm cl sz : Int32} {car cod nam wai grp lis : Nat → Int32} {gen : Nat → Nat} {m c : Nat}
theorem cy_dn18 {post : Int32 → Prop} {J5 : Int32 → Int32 → Prop} {x n i acc : Nat} (ec : cl = nI c) (hc : 0 < c) (hc3 : c ≤ 3) (hx : x < 2 ^ 31) (hn : n < m) (hm : m ≤ 3) (hi : i < 6) (hcar : ck_car gen m car) (hJ : J5 (nI (acc + ck_dg c x i * c ^ ck_dg 6 (gen n) i)) (nI (i + 1))) : ∀ d k : Nat, k + d = ck_dg 6 (gen n) i → wY_done_18 post J5 (nI x) (nI n) (nI acc) (nI i) mm cl sz car cod nam wai grp lis (d + 1) (nI (c ^ k)) (nI k) := by
  have h6 := ck_d6 (gen n) i
  have ei : (6 * nI n + nI i : Int32) = nI (6 * n + i) := cb_ix n i rfl rfl
  have ea : car (6 * nI n + nI i : Int32).toNatClampNeg = nI (ck_dg 6 (gen n) i) := by
    rw [ei, nI_clamp (by omega), hcar n hn i hi]
  intro d
  induction d with
  | zero =>
    intro k hk
    refine ⟨by rw [ei]; exact vp_in_nI (by omega) (by omega), br_t (by rw [ea]; exact nI_le (by omega) (by omega)) ?_⟩
    refine cy_digit x c i rfl ec rfl hc (by omega) (by omega) hx (nm_r (e' := nI (acc + ck_dg c x i * c ^ ck_dg 6 (gen n) i)) ?_ (nm_r (nI_1 i) hJ))
    rw [pk_mul, nI_add, show k = ck_dg 6 (gen n) i from by omega]
  | succ d ih =>
    intro k hk
    refine ⟨by rw [ei]; exact vp_in_nI (by omega) (by omega), br_f (by rw [ea]; exact nI_ge (by omega) (by omega)) ?_⟩
    refine nm_r (e' := nI (c ^ (k + 1))) ?_ (nm_r (nI_1 k) (ih (k + 1) (by omega)))
    rw [ec, pk_mul, Nat.pow_succ]
theorem cy_done {post : Int32 → Prop} (x n : Nat) {p0 p1 : Int32} (e0 : p0 = nI x) (e1 : p1 = nI n) (ec : cl = nI c) (hc : 0 < c) (hc3 : c ≤ 3) (hx : x < 2 ^ 31) (hn : n < m) (hm : m ≤ 3) (hcar : ck_car gen m car) (h : post (nI (ck_act c (gen n) x))) : wpY_done post (mm, cl, sz, car, cod, nam, wai, grp, lis) p0 p1 := by
  subst e0 e1
  have key : ∀ d i : Nat, i + d = 6 → wY_done_5 post (nI x) (nI n) mm cl sz car cod nam wai grp lis (d + 1) (nI (ck_sum (fun i => ck_dg c x i * c ^ ck_dg 6 (gen n) i) i)) (nI i) := by
    intro d
    induction d with
    | zero =>
      intro i hi
      have e : i = 6 := by omega
      subst e
      exact br_t (nI_le (a := 6) (b := 6) (by omega) (by omega)) h
    | succ d ih =>
      intro i hi
      refine br_f (nI_ge (b := 6) (by omega) (by omega)) ⟨ck_dg 6 (gen n) i + 1, ?_⟩
      exact cy_dn18 ec hc hc3 hx hn hm (by omega) hcar (ih (i + 1) (by omega)) _ 0 (by omega)
  exact ⟨7, key 6 0 (by omega)⟩
theorem cy_sp33 {post : SY → Prop} {J16 : Int32 → (Nat → Int32) → (Nat → Int32) → (Nat → Int32) → (Nat → Int32) → (Nat → Int32) → (Nat → Int32) → Prop} {t y0 f : Nat} {nam0 : Nat → Int32} (em : mm = nI m) (hg : ck_gok gen m) (hm : m ≤ 3) (hcar : ck_car gen m car) (ec : cl = nI c) (hc : 0 < c) (hc3 : c ≤ 3) (ht : t < c ^ 6) (hy0 : ck_R gen m c t y0) (h0 : ∀ y, ck_R gen m c t y → nam0 y = -1)
    (H : ∀ (S : Nat → Prop) (wt : Nat → Nat) (left : Nat) (nam wai : Nat → Int32), ck_SI gen m c t nam0 S wt left nam wai → (∀ y, S y → (∃ j, j < left ∧ wt j = y) ∨ ∀ i, i < m → S (ck_act c (gen i) y)) → 2 * (c ^ 6 - ck_ct S (c ^ 6)) + left < f → J16 (nI left) car cod nam wai grp lis) :
    ∀ d n : Nat, n + d = m → ∀ (S : Nat → Prop) (wt : Nat → Nat) (left : Nat) (nam wai : Nat → Int32), ck_SI gen m c t nam0 S wt left nam wai → (∀ y, S y → (∃ j, j < left ∧ wt j = y) ∨ (∀ i, i < m → S (ck_act c (gen i) y)) ∨ y = y0) → (∀ i, i < n → S (ck_act c (gen i) y0)) → 2 * (c ^ 6 - ck_ct S (c ^ 6)) + left < f → wY_spread_33 post J16 (nI t) (nI y0) mm cl sz (d + 1) (nI left) (nI n) car cod nam wai grp lis := by
  have hN := cb_c6 hc3
  have hyN := ck_R_lt hg hc hy0
  intro d
  induction d with
  | zero =>
    intro n hn S wt left nam wai hI hcl hdo hf
    refine br_t (by rw [em]; exact nI_le (by omega) (by omega)) (H S wt left nam wai hI ?_ hf)
    intro y hy
    rcases hcl y hy with w | w | w
    · exact Or.inl w
    · exact Or.inr w
    · rw [w]
      exact Or.inr fun i hi => hdo i (by omega)
  | succ d ih =>
    intro n hn S wt left nam wai hI hcl hdo hf
    have hlt := ck_act_lt y0 hc (hg n (by omega))
    have hRx : ck_R gen m c t (ck_act c (gen n) y0) := ck_R_tr hg hc hy0 ⟨gen n, by have := ck_G_step (ck_G_id gen m) (show n < m by omega); rw [ck_id_cmp (hg n (by omega)).1] at this; exact this, rfl⟩
    refine br_f (by rw [em]; exact nI_ge (by omega) (by omega)) (cy_done y0 n rfl rfl ec hc hc3 (by omega) (by omega) hm hcar ⟨vp_in_nI (by omega) (by omega), ?_⟩)
    rw [nI_clamp (n := ck_act c (gen n) y0) (by omega)]
    by_cases z : S (ck_act c (gen n) y0)
    · refine br_t (by rw [hI.1 _ hlt z]; exact nI_pos' (by omega)) (nm_r (nI_1 n) (ih (n + 1) (by omega) S wt left nam wai hI hcl ?_ hf))
      intro i hi
      by_cases w : i = n
      · rw [w]; exact z
      · exact hdo i (by omega)
    · have hle := hI.2.2.2.2.2
      have hins := ck_ct_ins (p := S) z hlt
      have hle2 := ck_ct_le (fun y => S y ∨ y = ck_act c (gen n) y0) (c ^ 6)
      refine br_f (by rw [hI.2.1 _ hlt z, h0 _ hRx]; decide) ⟨vp_in_nI (by omega) (by omega), nm_e ⟨vp_in_nI (by omega) (by omega), ?_⟩⟩
      rw [nI_clamp (n := left) (by omega)]
      refine nm_e (nm_r (nI_1 left) (nm_r (nI_1 n) (ih (n + 1) (by omega) _ _ (left + 1) _ _ (ck_SI_push hI hlt z hRx) ?_ ?_ ?_)))
      · intro y hy
        rcases hy with hy | rfl
        · rcases hcl y hy with ⟨j, hj, e⟩ | w | w
          · exact Or.inl ⟨j, by omega, by rw [ck_app_n hj]; exact e⟩
          · exact Or.inr (Or.inl fun i hi => Or.inl (w i hi))
          · exact Or.inr (Or.inr w)
        · exact Or.inl ⟨left, by omega, ck_app_s⟩
      · intro i hi
        by_cases w : i = n
        · rw [w]; exact Or.inr rfl
        · exact Or.inl (hdo i (by omega))
      · rw [hins]
        omega
theorem cy_sp16 {post : SY → Prop} {t : Nat} {nam0 : Nat → Int32} (em : mm = nI m) (hg : ck_gok gen m) (hm : m ≤ 3) (hcar : ck_car gen m car) (ec : cl = nI c) (hc : 0 < c) (hc3 : c ≤ 3) (ht : t < c ^ 6) (h0 : ∀ y, ck_R gen m c t y → nam0 y = -1)
    (H : ∀ nam' wai' : Nat → Int32, (∀ y, y < c ^ 6 → ck_R gen m c t y → nam' y = nI t) → (∀ y, y < c ^ 6 → ¬ ck_R gen m c t y → nam' y = nam0 y) → post (mm, cl, sz, car, cod, nam', wai', grp, lis)) :
    ∀ (f : Nat) (S : Nat → Prop) (wt : Nat → Nat) (left : Nat) (nam wai : Nat → Int32), ck_SI gen m c t nam0 S wt left nam wai → (∀ y, S y → (∃ j, j < left ∧ wt j = y) ∨ ∀ i, i < m → S (ck_act c (gen i) y)) → 2 * (c ^ 6 - ck_ct S (c ^ 6)) + left < f → wY_spread_16 post (nI t) mm cl sz f (nI left) car cod nam wai grp lis := by
  have hN := cb_c6 hc3
  intro f
  induction f with
  | zero => intro S wt left nam wai _ _ hf; omega
  | succ f ih =>
    intro S wt left nam wai hI hcl hf
    have hle := hI.2.2.2.2.2
    have hle2 := ck_ct_le S (c ^ 6)
    cases left with
    | zero =>
      have hS : ∀ y, S y ↔ ck_R gen m c t y := by
        intro y
        refine ⟨hI.2.2.1 y, ?_⟩
        rintro ⟨g, hG, rfl⟩
        refine ck_G_ind (P := fun g => S (ck_act c g t)) ?_ ?_ hG
        · show S (ck_act c 44790 t)
          rw [ck_act_id hc ht]
          exact hI.2.2.2.1
        · intro g hG hs i hi
          show S (ck_act c (ck_cmp g (gen i)) t)
          rw [ck_act_cmp t hc (ck_G_pm hg hG) (hg i hi)]
          rcases hcl _ hs with ⟨j, hj, _⟩ | w
          · omega
          · exact w i hi
      refine br_t (nI_le (a := 0) (b := 0) (by omega) (by omega)) (H nam wai ?_ ?_)
      · intro y hy w
        exact hI.1 y hy ((hS y).mpr w)
      · intro y hy w
        exact hI.2.1 y hy fun v => w ((hS y).mp v)
    | succ l =>
      have h5 := hI.2.2.2.2.1 l (by omega)
      refine br_f (nI_nle (by omega) (by omega)) (nm_r (pk_m1 l) ⟨vp_in_nI (by omega) (by omega), ?_⟩)
      rw [nI_clamp (n := l) (by omega)]
      refine nm_r h5.1 ⟨m + 1, ?_⟩
      obtain ⟨i1, i2, i3, i4, i5, i6⟩ := hI
      refine cy_sp33 (y0 := wt l) (f := f) em hg hm hcar ec hc hc3 ht (i3 _ h5.2) h0 (fun S wt left nam wai hI hcl hf => ih S wt left nam wai hI hcl hf) m 0 (by omega) S wt l nam wai ⟨i1, i2, i3, i4, fun j hj => i5 j (by omega), by omega⟩ ?_ (fun i hi => by omega) (by omega)
      intro y hy
      rcases hcl y hy with ⟨j, hj, e⟩ | w
      · by_cases v : j = l
        · rw [v] at e
          exact Or.inr (Or.inr e.symm)
        · exact Or.inl ⟨j, by omega, e⟩
      · exact Or.inr (Or.inl w)
theorem cy_spread {post : SY → Prop} (t : Nat) {p0 : Int32} (e0 : p0 = nI t) (em : mm = nI m) (hg : ck_gok gen m) (hm : m ≤ 3) (hcar : ck_car gen m car) (ec : cl = nI c) (hc : 0 < c) (hc3 : c ≤ 3) (ht : t < c ^ 6) (h0 : ∀ y, ck_R gen m c t y → nam y = -1)
    (H : ∀ nam' wai' : Nat → Int32, (∀ y, y < c ^ 6 → ck_R gen m c t y → nam' y = nI t) → (∀ y, y < c ^ 6 → ¬ ck_R gen m c t y → nam' y = nam y) → post (mm, cl, sz, car, cod, nam', wai', grp, lis)) :
    wpY_spread post (mm, cl, sz, car, cod, nam, wai, grp, lis) p0 := by
  subst e0
  have hN := cb_c6 hc3
  refine ⟨vp_in_nI (by omega) (by omega), ?_⟩
  rw [nI_clamp (n := t) (by omega)]
  refine nm_e (nm_e ⟨_, cy_sp16 (nam0 := nam) em hg hm hcar ec hc hc3 ht h0 H (2 * (c ^ 6 - ck_ct (fun y => y = t) (c ^ 6)) + 1 + 1) (fun y => y = t) (fun _ => t) 1 _ _ ⟨?_, ?_, ?_, rfl, ?_, ?_⟩ ?_ (by omega)⟩)
  · intro y _ e
    rw [e]; exact pk_us
  · intro y _ e
    exact pk_un e
  · intro y e
    rw [e]
    exact ck_R_rf hc ht
  · intro j hj
    have z : j = 0 := by omega
    subst z
    exact ⟨pk_us, rfl⟩
  · have k := ck_ct_ins (p := fun _ => False) (a := t) (fun h => h) ht
    have k2 : ck_ct (fun y => y = t) (c ^ 6) = ck_ct (fun y => False ∨ y = t) (c ^ 6) := ck_ct_congr fun i _ => ⟨Or.inr, fun w => w.resolve_left id⟩
    rw [k2, k]
    omega
  · intro y e
    exact Or.inl ⟨0, by omega, e.symm⟩
theorem cy_fk27 {post : SY → Prop} (em : mm = nI m) (hg : ck_gok gen m) (hm : m ≤ 3) (hcar : ck_car gen m car) (ec : cl = nI c) (hc : 0 < c) (hc3 : c ≤ 3)
    (H : ∀ nam' wai' : Nat → Int32, (∀ y, y < c ^ 6 → nam' y = nI (ck_nm gen m c y)) → post (mm, cl, sz, car, cod, nam', wai', grp, lis)) :
    ∀ d t : Nat, t + d = c ^ 6 → ∀ nam wai : Nat → Int32, (∀ y, y < c ^ 6 → ck_nm gen m c y < t → nam y = nI (ck_nm gen m c y)) → (∀ y, y < c ^ 6 → t ≤ ck_nm gen m c y → nam y = -1) → wY_findKinds_27 post (nI (c ^ 6)) (d + 1) (nI t) mm cl sz car cod nam wai grp lis := by
  have hN := cb_c6 hc3
  intro d
  induction d with
  | zero =>
    intro t ht nam wai h1 h2
    refine br_t (nI_le (by omega) (by omega)) (H nam wai ?_)
    intro y hy
    have := ck_nm_lt (gen := gen) (m := m) hc hy
    exact h1 y hy (by omega)
  | succ d ih =>
    intro t ht nam wai h1 h2
    have htN : t < c ^ 6 := by omega
    refine br_f (nI_ge (by omega) (by omega)) ⟨vp_in_nI (by omega) (by omega), ?_⟩
    rw [nI_clamp (n := t) (by omega)]
    have hle := ck_nm_le (gen := gen) (m := m) hc htN
    by_cases z : ck_nm gen m c t < t
    · have hne : ∀ y, y < c ^ 6 → ck_nm gen m c y ≠ t := by
        intro y hy w
        have := ck_nm_nm hg hc hy
        rw [w] at this
        omega
      refine br_t (by rw [h1 t htN z]; exact nI_pos' (by omega)) (nm_r (nI_1 t) (ih (t + 1) (by omega) nam wai ?_ ?_))
      · intro y hy w
        have := hne y hy
        exact h1 y hy (by omega)
      · intro y hy w
        exact h2 y hy (by omega)
    · have hnt : ck_nm gen m c t = t := by omega
      have iffR : ∀ y, y < c ^ 6 → (ck_R gen m c t y ↔ ck_nm gen m c y = t) := by
        intro y hy
        rw [← ck_nm_iff hg hc htN hy, hnt]
        exact ⟨Eq.symm, Eq.symm⟩
      refine br_f (by rw [h2 t htN (by omega)]; decide) ?_
      refine cy_spread t rfl em hg hm hcar ec hc hc3 htN (fun y w => ?_) ?_
      · have hy := ck_R_lt hg hc w
        have := (iffR y hy).mp w
        exact h2 y hy (by omega)
      intro nam' wai' k1 k2
      refine nm_r (nI_1 t) (ih (t + 1) (by omega) nam' wai' ?_ ?_)
      · intro y hy w
        by_cases v : ck_nm gen m c y = t
        · rw [k1 y hy ((iffR y hy).mpr v), v]
        · rw [k2 y hy fun w' => v ((iffR y hy).mp w')]
          exact h1 y hy (by omega)
      · intro y hy w
        rw [k2 y hy fun w' => by have := (iffR y hy).mp w'; omega]
        exact h2 y hy (by omega)
theorem cy_fk7 {post : SY → Prop} (hc3 : c ≤ 3)
    (H : ∀ nam' : Nat → Int32, (∀ y, y < c ^ 6 → nam' y = -1) → ∃ n27 : Nat, wY_findKinds_27 post (nI (c ^ 6)) n27 0 mm cl sz car cod nam' wai grp lis) :
    ∀ d t : Nat, t + d = c ^ 6 → ∀ nam : Nat → Int32, (∀ y, y < t → nam y = -1) → wY_findKinds_7 post (nI (c ^ 6)) mm cl sz (d + 1) (nI t) car cod nam wai grp lis := by
  have hN := cb_c6 hc3
  intro d
  induction d with
  | zero =>
    intro t ht nam h1
    exact br_t (nI_le (by omega) (by omega)) (H nam fun y hy => h1 y (by omega))
  | succ d ih =>
    intro t ht nam h1
    refine br_f (nI_ge (by omega) (by omega)) ⟨vp_in_nI (by omega) (by omega), ?_⟩
    rw [nI_clamp (n := t) (by omega)]
    refine nm_e (nm_r (nI_1 t) (ih (t + 1) (by omega) _ ?_))
    intro y hy
    by_cases v : y = t
    · rw [v]; exact pk_us
    · rw [pk_un v]
      exact h1 y (by omega)
theorem cy_findKinds {post : SY → Prop} (em : mm = nI m) (hg : ck_gok gen m) (hm : m ≤ 3) (hcar : ck_car gen m car) (ec : cl = nI c) (hc : 0 < c) (hc3 : c ≤ 3)
    (H : ∀ nam' wai' : Nat → Int32, (∀ y, y < c ^ 6 → nam' y = nI (ck_nm gen m c y)) → post (mm, cl, sz, car, cod, nam', wai', grp, lis)) :
    wpY_findKinds post (mm, cl, sz, car, cod, nam, wai, grp, lis) := by
  unfold wpY_findKinds
  refine cy_colourings c ec ⟨c ^ 6 + 1, cy_fk7 hc3 ?_ (c ^ 6) 0 (by omega) nam (fun y hy => by omega)⟩
  intro nam' h
  exact ⟨c ^ 6 + 1, cy_fk27 em hg hm hcar ec hc hc3 H (c ^ 6) 0 (by omega) nam' wai (fun y _ w => by omega) (fun y hy _ => h y hy)⟩
end
