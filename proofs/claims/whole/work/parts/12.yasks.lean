/-! Y: the questions on kinds -/
section
variable {mm cl sz : Int32} {car cod nam wai grp lis : Nat → Int32} {gen : Nat → Nat} {m c : Nat}
theorem cy_isCol {post : Int32 → Prop} {p0 : Int32} (ec : cl = nI c) (hc3 : c ≤ 3) (h1 : ∀ y, y < c ^ 6 → p0 = nI y → post 1) (h0 : ¬ (∃ y, y < c ^ 6 ∧ p0 = nI y) → post 0) : wpY_isColouring post (mm, cl, sz, car, cod, nam, wai, grp, lis) p0 := by
  have hN := cb_c6 hc3
  rcases pk_ix p0 (n := c ^ 6) (by omega) with h | h | ⟨y, hy, e⟩
  · refine br_t h (h0 ?_)
    rintro ⟨y, hy, rfl⟩
    exact nI_pos (by omega) h
  · have hp : ¬ p0 < 0 := Int32.not_lt.mpr (Int32.le_trans (nI_pos' (by omega)) h)
    refine br_f hp (cy_colourings c ec (br_t h (h0 ?_)))
    rintro ⟨y, hy, rfl⟩
    exact nI_ge hy (by omega) h
  · subst e
    exact br_f (nI_pos (by omega)) (cy_colourings c ec (br_f (nI_ge hy (by omega)) (h1 y hy rfl)))
theorem cy_places {post : Int32 → Prop} (x : Nat) {p0 p1 : Int32} (e0 : p0 = nI x) (ec : cl = nI c) (hc : 0 < c) (hc3 : c ≤ 3) (hx : x < 2 ^ 31) (h : post (nI (ck_pl c x p1))) : wpY_placesOf post (mm, cl, sz, car, cod, nam, wai, grp, lis) p0 p1 := by
  subst e0
  refine ⟨6 + 1, cl_cnt (fun f r i => wY_placesOf_5 post (nI x) p1 mm cl sz car cod nam wai grp lis f r i) (fun i => nI (ck_dg c x i) = p1) 6 ?_ ?_⟩
  · exact br_t (nI_le (a := 6) (b := 6) (by omega) (by omega)) h
  · intro f i r hi ht hf
    refine br_f (nI_ge (b := 6) (by omega) (by omega)) (cy_digit x c i rfl ec rfl hc (by omega) (by omega) hx ?_)
    exact br_c (fun z => nm_r (nI_1 r) (nm_r (nI_1 i) (ht z))) (fun z => nm_r (nI_1 i) (hf z))
theorem cy_sizeOf {post : Int32 → Prop} (t : Nat) {p0 : Int32} (e0 : p0 = nI t) (hg : ck_gok gen m) (ec : cl = nI c) (hc : 0 < c) (hc3 : c ≤ 3) (ht : t < c ^ 6) (hnt : ck_nm gen m c t = t) (ek : ∀ y, y < c ^ 6 → nam y = nI (ck_nm gen m c y)) (h : post (nI (ck_ct (ck_R gen m c t) (c ^ 6)))) : wpY_sizeOf post (mm, cl, sz, car, cod, nam, wai, grp, lis) p0 := by
  subst e0
  have hN := cb_c6 hc3
  unfold wpY_sizeOf
  refine cy_colourings c ec ⟨c ^ 6 + 1, cl_cnt (fun f r i => wY_sizeOf_10 post (nI t) (nI (c ^ 6)) mm cl sz car cod nam wai grp lis f r i) (ck_R gen m c t) (c ^ 6) ?_ ?_⟩
  · exact br_t (nI_le (by omega) (by omega)) h
  · intro f i r hi hT hf
    have hl := ck_nm_lt (gen := gen) (m := m) hc hi
    have iffR : ck_R gen m c t i ↔ ck_nm gen m c i = t := by
      rw [← ck_nm_iff hg hc ht hi, hnt]
      exact ⟨Eq.symm, Eq.symm⟩
    refine br_f (nI_ge (by omega) (by omega)) ⟨vp_in_nI (by omega) (by omega), pk_eq (ck_nm gen m c i) t (fun z => nm_r (nI_1 r) (nm_r (nI_1 i) (hT (iffR.mpr z)))) (fun z => nm_r (nI_1 i) (hf fun w => z (iffR.mp w))) (by rw [nI_clamp (by omega), ek i hi])⟩
theorem cy_exch {post : Int32 → Prop} (x : Nat) {p0 : Int32} (e0 : p0 = nI x) (ec : cl = nI c) (hc : 0 < c) (hc3 : c ≤ 3) (hx : x < 2 ^ 31) (h : post (nI (ck_xc c x))) : wpY_exchanged post (mm, cl, sz, car, cod, nam, wai, grp, lis) p0 := by
  subst e0
  have key : ∀ j : Nat, j ≤ 6 → wY_exchanged_4 post (nI x) mm cl sz car cod nam wai grp lis (j + 1) (nI (ck_hr c (fun i => ck_sw c (ck_dg c x i)) (6 - j) j)) (nI j + (-1)) := by
    intro j
    induction j with
    | zero =>
      intro _
      refine br_t (by decide) ?_
      rw [ck_hr_6]
      exact h
    | succ j ih =>
      intro hj
      rw [pk_m1]
      have hd := ck_dg_lt hc x j
      have step : ∀ z : Int32, z = nI (ck_sw c (ck_dg c x j)) → nI (ck_hr c (fun i => ck_sw c (ck_dg c x i)) (6 - (j + 1)) (j + 1)) * cl + z = nI (ck_hr c (fun i => ck_sw c (ck_dg c x i)) (6 - j) j) := by
        intro z ez
        subst ez
        rw [ec, pk_mul, nI_add, Nat.mul_comm, show (6 : Nat) - j = (6 - (j + 1)) + 1 from by omega]
        rfl
      refine br_f (nI_pos (by omega)) (cy_digit x c j rfl ec rfl hc (by omega) (by omega) hx ?_)
      refine pk_le 2 (ck_dg c x j) (fun z => ?_) (fun z => pk_le c 1 (fun w => ?_) (fun w => ?_) ec)
      · refine nm_r (step _ ?_) (nm_e (ih (by omega)))
        unfold ck_sw
        rw [if_neg (by omega), if_neg (by omega), if_neg (by omega)]
      · refine nm_r (step _ ?_) (nm_e (ih (by omega)))
        unfold ck_sw
        rw [if_pos (by omega)]
      · refine nm_r (step _ ?_) (nm_e (ih (by omega)))
        rw [show (1 : Int32) - nI (ck_dg c x j) = nI (1 - ck_dg c x j) from pk_sub (a := 1) (by omega)]
        unfold ck_sw
        rw [if_neg (by omega)]
        by_cases v : ck_dg c x j = 0
        · rw [if_pos v, v]
        · rw [if_neg v, if_pos (by omega), show 1 - ck_dg c x j = 0 from by omega]
  exact ⟨7, key 6 (by omega)⟩
theorem cy_kinds {post : Int32 → SY → Prop} (em : mm = nI m) (hg : ck_gok gen m) (hm : m ≤ 3) (hcar : ck_car gen m car) (ec : cl = nI c) (hc : 0 < c) (hc3 : c ≤ 3)
    (H : ∀ nam' wai' : Nat → Int32, post (nI (ck_ct (fun x => ck_nm gen m c x = x) (c ^ 6))) (mm, cl, sz, car, cod, nam', wai', grp, lis)) :
    wpY_kinds post (mm, cl, sz, car, cod, nam, wai, grp, lis) := by
  have hN := cb_c6 hc3
  unfold wpY_kinds
  refine cy_findKinds em hg hm hcar ec hc hc3 ?_
  intro nam' wai' ek
  refine cy_colourings c ec ⟨c ^ 6 + 1, cl_cnt (fun f r i => wY_kinds_13 post (nI (c ^ 6)) mm cl sz car cod nam' wai' grp lis f r i) (fun x => ck_nm gen m c x = x) (c ^ 6) ?_ ?_⟩
  · exact br_t (nI_le (by omega) (by omega)) (H nam' wai')
  · intro f i r hi hT hf
    have hl := ck_nm_lt (gen := gen) (m := m) hc hi
    exact br_f (nI_ge (by omega) (by omega)) ⟨vp_in_nI (by omega) (by omega), pk_eq (ck_nm gen m c i) i (fun z => nm_r (nI_1 r) (nm_r (nI_1 i) (hT z))) (fun z => nm_r (nI_1 i) (hf z)) (by rw [nI_clamp (by omega), ek i hi])⟩
theorem cy_kw48 {post : Int32 → SY → Prop} {J15 : Int32 → Int32 → Prop} {v1 v2 x3 z0 : Int32} {r i : Nat} {q : Prop} (hc : 0 < c) (hc3 : c ≤ 3) (hi : i < c ^ 6) (ek : ∀ y, y < c ^ 6 → nam y = nI (ck_nm gen m c y)) (hz1 : q → z0 = 1) (hz0 : ¬ q → z0 = 0) (hT : ck_nm gen m c i = i ∧ q → J15 (nI (r + 1)) (nI (i + 1))) (hf : ¬ (ck_nm gen m c i = i ∧ q) → J15 (nI r) (nI (i + 1))) : wY_kindsWith_48 post J15 v1 v2 x3 (nI r) (nI i) z0 mm cl sz car cod nam wai grp lis := by
  have hN := cb_c6 hc3
  have hl := ck_nm_lt (gen := gen) (m := m) hc hi
  refine ⟨vp_in_nI (by omega) (by omega), pk_eq (ck_nm gen m c i) i (fun z => ?_) (fun z => nm_r (nI_1 i) (hf fun w => z w.1)) (by rw [nI_clamp (by omega), ek i hi])⟩
  by_cases hq : q
  · exact br_f (by rw [hz1 hq]; decide) (nm_r (nI_1 r) (nm_r (nI_1 i) (hT ⟨z, hq⟩)))
  · exact br_t (hz0 hq) (nm_r (nI_1 i) (hf fun w => hq w.2))
theorem cy_kindsWith {post : Int32 → SY → Prop} {v1 v2 : Int32} (em : mm = nI m) (hg : ck_gok gen m) (hm : m ≤ 3) (hcar : ck_car gen m car) (ec : cl = nI c) (hc : 0 < c) (hc3 : c ≤ 3)
    (H : ∀ nam' wai' : Nat → Int32, post (nI (ck_ct (fun x => ck_nm gen m c x = x ∧ nI (ck_pl c x 0) = v1 ∧ nI (ck_pl c x 1) = v2) (c ^ 6))) (mm, cl, sz, car, cod, nam', wai', grp, lis)) :
    wpY_kindsWith post (mm, cl, sz, car, cod, nam, wai, grp, lis) v1 v2 := by
  have hN := cb_c6 hc3
  unfold wpY_kindsWith
  refine cy_findKinds em hg hm hcar ec hc hc3 ?_
  intro nam' wai' ek
  refine cy_colourings c ec ⟨c ^ 6 + 1, cl_cnt (fun f r i => wY_kindsWith_15 post v1 v2 (nI (c ^ 6)) mm cl sz car cod nam' wai' grp lis f r i) (fun x => ck_nm gen m c x = x ∧ nI (ck_pl c x 0) = v1 ∧ nI (ck_pl c x 1) = v2) (c ^ 6) ?_ ?_⟩
  · exact br_t (nI_le (by omega) (by omega)) (H nam' wai')
  · intro f i r hi hT hf
    refine br_f (nI_ge (by omega) (by omega)) (cy_places i rfl ec hc hc3 (by omega) (br_c (fun z1 => ?_) (fun z1 => ?_)))
    · refine cy_places i rfl ec hc hc3 (by omega) (br_c (fun z2 => ?_) (fun z2 => ?_))
      · exact cy_kw48 hc hc3 hi ek (q := nI (ck_pl c i 0) = v1 ∧ nI (ck_pl c i 1) = v2) (fun _ => rfl) (fun w => absurd ⟨z1, z2⟩ w) hT hf
      · exact cy_kw48 hc hc3 hi ek (q := nI (ck_pl c i 0) = v1 ∧ nI (ck_pl c i 1) = v2) (fun w => absurd w.2 z2) (fun _ => rfl) hT hf
    · exact cy_kw48 hc hc3 hi ek (q := nI (ck_pl c i 0) = v1 ∧ nI (ck_pl c i 1) = v2) (fun w => absurd w.1 z1) (fun _ => rfl) hT hf
theorem cy_ka38 {post : Int32 → SY → Prop} {J13 : Int32 → Int32 → Prop} {x1 : Int32} {r i : Nat} (ec : cl = nI c) (hc : 0 < c) (hc3 : c ≤ 3) (hi : i < c ^ 6) (hT : (ck_nm gen m c i = i ∧ ∀ k, k < c → ck_pl c i (nI k) ≠ 0) → J13 (nI (r + 1)) (nI (i + 1))) (hf : ¬ (ck_nm gen m c i = i ∧ ∀ k, k < c → ck_pl c i (nI k) ≠ 0) → J13 (nI r) (nI (i + 1))) : ∀ d k : Nat, k + d = c → ∀ x4 : Int32, ((ck_nm gen m c i = i ∧ ∀ j, j < k → ck_pl c i (nI j) ≠ 0) → x4 = 1) → (¬ (ck_nm gen m c i = i ∧ ∀ j, j < k → ck_pl c i (nI j) ≠ 0) → x4 = 0) → wY_kindsWithAll_38 post J13 x1 (nI r) (nI i) mm cl sz car cod nam wai grp lis (d + 1) x4 (nI k) := by
  have hN := cb_c6 hc3
  intro d
  induction d with
  | zero =>
    intro k hk x4 h1 h0
    have e : k = c := by omega
    subst e
    refine br_t (by rw [ec]; exact nI_le (by omega) (by omega)) ?_
    by_cases q : ck_nm gen m k i = i ∧ ∀ j, j < k → ck_pl k i (nI j) ≠ 0
    · exact br_f (by rw [h1 q]; decide) (nm_r (nI_1 r) (nm_r (nI_1 i) (hT q)))
    · exact br_t (h0 q) (nm_r (nI_1 i) (hf q))
  | succ d ih =>
    intro k hk x4 h1 h0
    refine br_f (by rw [ec]; exact nI_ge (by omega) (by omega)) ?_
    by_cases q : ck_nm gen m c i = i ∧ ∀ j, j < k → ck_pl c i (nI j) ≠ 0
    · have hp := ck_pl_le c i (nI k)
      refine br_f (by rw [h1 q]; decide) (cy_places i rfl ec hc hc3 (by omega) (pk_le (ck_pl c i (nI k)) 0 (fun z => nm_r (nI_1 k) (ih (k + 1) (by omega) 0 ?_ (fun _ => rfl))) (fun z => nm_r (nI_1 k) (ih (k + 1) (by omega) 1 (fun _ => rfl) ?_))))
      · intro w
        exact absurd (Nat.le_zero.mp z) (w.2 k (by omega))
      · intro w
        refine absurd ⟨q.1, fun j hj => ?_⟩ w
        by_cases v : j = k
        · rw [v]; omega
        · exact q.2 j (by omega)
    · refine br_t (h0 q) (nm_r (nI_1 k) (ih (k + 1) (by omega) 0 ?_ (fun _ => rfl)))
      intro w
      exact absurd ⟨w.1, fun j hj => w.2 j (by omega)⟩ q
theorem cy_kindsWithAll {post : Int32 → SY → Prop} (em : mm = nI m) (hg : ck_gok gen m) (hm : m ≤ 3) (hcar : ck_car gen m car) (ec : cl = nI c) (hc : 0 < c) (hc3 : c ≤ 3)
    (H : ∀ nam' wai' : Nat → Int32, post (nI (ck_ct (fun x => ck_nm gen m c x = x ∧ ∀ k, k < c → ck_pl c x (nI k) ≠ 0) (c ^ 6))) (mm, cl, sz, car, cod, nam', wai', grp, lis)) :
    wpY_kindsWithAll post (mm, cl, sz, car, cod, nam, wai, grp, lis) := by
  have hN := cb_c6 hc3
  unfold wpY_kindsWithAll
  refine cy_findKinds em hg hm hcar ec hc hc3 ?_
  intro nam' wai' ek
  refine cy_colourings c ec ⟨c ^ 6 + 1, cl_cnt (fun f r i => wY_kindsWithAll_13 post (nI (c ^ 6)) mm cl sz car cod nam' wai' grp lis f r i) (fun x => ck_nm gen m c x = x ∧ ∀ k, k < c → ck_pl c x (nI k) ≠ 0) (c ^ 6) ?_ ?_⟩
  · exact br_t (nI_le (by omega) (by omega)) (H nam' wai')
  · intro f i r hi hT hf
    have hl := ck_nm_lt (gen := gen) (m := m) hc hi
    refine br_f (nI_ge (by omega) (by omega)) ⟨vp_in_nI (by omega) (by omega), pk_eq (ck_nm gen m c i) i (fun z => ⟨c + 1, ?_⟩) (fun z => ⟨c + 1, ?_⟩) (by rw [nI_clamp (by omega), ek i hi])⟩
    · exact cy_ka38 ec hc hc3 hi hT hf c 0 (by omega) 1 (fun _ => rfl) (fun w => absurd ⟨z, fun j hj => by omega⟩ w)
    · exact cy_ka38 ec hc hc3 hi hT hf c 0 (by omega) 0 (fun w => absurd w.1 z) (fun _ => rfl)
theorem cy_name {post : Int32 → SY → Prop} {p0 : Int32} (em : mm = nI m) (hg : ck_gok gen m) (hm : m ≤ 3) (hcar : ck_car gen m car) (ec : cl = nI c) (hc : 0 < c) (hc3 : c ≤ 3)
    (h1 : ∀ y, y < c ^ 6 → p0 = nI y → ∀ nam' wai' : Nat → Int32, post (nI (ck_nm gen m c y)) (mm, cl, sz, car, cod, nam', wai', grp, lis)) (h0 : ¬ (∃ y, y < c ^ 6 ∧ p0 = nI y) → post (-4) (mm, cl, sz, car, cod, nam, wai, grp, lis)) :
    wpY_name post (mm, cl, sz, car, cod, nam, wai, grp, lis) p0 := by
  have hN := cb_c6 hc3
  unfold wpY_name
  refine cy_isCol ec hc3 (fun y hy e => br_f (by decide) ?_) (fun z => br_t rfl (h0 z))
  refine cy_findKinds em hg hm hcar ec hc hc3 ?_
  intro nam' wai' ek
  have k := h1 y hy e nam' wai'
  subst e
  refine ⟨vp_in_nI (by omega) (by omega), ?_⟩
  rw [nI_clamp (by omega), ek y hy]
  exact k
theorem cy_size {post : Int32 → SY → Prop} {p0 : Int32} (em : mm = nI m) (hg : ck_gok gen m) (hm : m ≤ 3) (hcar : ck_car gen m car) (ec : cl = nI c) (hc : 0 < c) (hc3 : c ≤ 3)
    (h1 : ∀ y, y < c ^ 6 → p0 = nI y → ∀ nam' wai' : Nat → Int32, post (nI (ck_ct (ck_R gen m c (ck_nm gen m c y)) (c ^ 6))) (mm, cl, sz, car, cod, nam', wai', grp, lis)) (h0 : ¬ (∃ y, y < c ^ 6 ∧ p0 = nI y) → post (-4) (mm, cl, sz, car, cod, nam, wai, grp, lis)) :
    wpY_size post (mm, cl, sz, car, cod, nam, wai, grp, lis) p0 := by
  have hN := cb_c6 hc3
  unfold wpY_size
  refine cy_isCol ec hc3 (fun y hy e => br_f (by decide) ?_) (fun z => br_t rfl (h0 z))
  refine cy_findKinds em hg hm hcar ec hc hc3 ?_
  intro nam' wai' ek
  have k := h1 y hy e nam' wai'
  subst e
  exact ⟨vp_in_nI (by omega) (by omega), cy_sizeOf (ck_nm gen m c y) (by rw [nI_clamp (by omega), ek y hy]) hg ec hc hc3 (ck_nm_lt hc hy) (ck_nm_nm hg hc hy) ek k⟩
theorem cy_alike {post : Int32 → SY → Prop} {p0 p1 : Int32} (em : mm = nI m) (hg : ck_gok gen m) (hm : m ≤ 3) (hcar : ck_car gen m car) (ec : cl = nI c) (hc : 0 < c) (hc3 : c ≤ 3)
    (h1 : ∀ y z, y < c ^ 6 → z < c ^ 6 → p0 = nI y → p1 = nI z → ck_nm gen m c y = ck_nm gen m c z → ∀ nam' wai' : Nat → Int32, post 1 (mm, cl, sz, car, cod, nam', wai', grp, lis)) (h2 : ∀ y z, y < c ^ 6 → z < c ^ 6 → p0 = nI y → p1 = nI z → ck_nm gen m c y ≠ ck_nm gen m c z → ∀ nam' wai' : Nat → Int32, post 0 (mm, cl, sz, car, cod, nam', wai', grp, lis)) (h0 : ¬ ((∃ y, y < c ^ 6 ∧ p0 = nI y) ∧ ∃ z, z < c ^ 6 ∧ p1 = nI z) → post 0 (mm, cl, sz, car, cod, nam, wai, grp, lis)) :
    wpY_alike post (mm, cl, sz, car, cod, nam, wai, grp, lis) p0 p1 := by
  have hN := cb_c6 hc3
  unfold wpY_alike
  refine cy_isCol ec hc3 (fun y hy e => br_f (by decide) ?_) (fun z => br_t rfl (h0 fun w => z w.1))
  refine cy_isCol ec hc3 (fun y' hy' e' => br_f (by decide) ?_) (fun z => br_t rfl (h0 fun w => z w.2))
  refine cy_findKinds em hg hm hcar ec hc hc3 ?_
  intro nam' wai' ek
  have k1 := fun h => h1 y y' hy hy' e e' h nam' wai'
  have k2 := fun h => h2 y y' hy hy' e e' h nam' wai'
  subst e e'
  have l1 := ck_nm_lt (gen := gen) (m := m) hc hy
  have l2 := ck_nm_lt (gen := gen) (m := m) hc hy'
  exact ⟨vp_in_nI (by omega) (by omega), vp_in_nI (by omega) (by omega), pk_eq (ck_nm gen m c y) (ck_nm gen m c y') k1 k2 (by rw [nI_clamp (by omega), ek y hy]) (by rw [nI_clamp (by omega), ek y' hy'])⟩
theorem cy_still {post : Int32 → SY → Prop} (em : mm = nI m) (hg : ck_gok gen m) (hm : m ≤ 3) (hcar : ck_car gen m car) (ec : cl = nI c) (hc : 0 < c) (hc3 : c ≤ 3)
    (H : ∀ nam' wai' : Nat → Int32, post (nI (ck_ct (fun x => ck_nm gen m c x = x ∧ ck_ct (ck_R gen m c x) (c ^ 6) = 1) (c ^ 6))) (mm, cl, sz, car, cod, nam', wai', grp, lis)) :
    wpY_still post (mm, cl, sz, car, cod, nam, wai, grp, lis) := by
  have hN := cb_c6 hc3
  unfold wpY_still
  refine cy_findKinds em hg hm hcar ec hc hc3 ?_
  intro nam' wai' ek
  refine cy_colourings c ec ⟨c ^ 6 + 1, cl_cnt (fun f r i => wY_still_13 post (nI (c ^ 6)) mm cl sz car cod nam' wai' grp lis f r i) (fun x => ck_nm gen m c x = x ∧ ck_ct (ck_R gen m c x) (c ^ 6) = 1) (c ^ 6) ?_ ?_⟩
  · exact br_t (nI_le (by omega) (by omega)) (H nam' wai')
  · intro f i r hi hT hf
    have hl := ck_nm_lt (gen := gen) (m := m) hc hi
    refine br_f (nI_ge (by omega) (by omega)) ⟨vp_in_nI (by omega) (by omega), pk_eq (ck_nm gen m c i) i (fun z => ?_) (fun z => nm_r (nI_1 i) (hf fun w => z w.1)) (by rw [nI_clamp (by omega), ek i hi])⟩
    have hle := ck_ct_le (ck_R gen m c i) (c ^ 6)
    exact cy_sizeOf i rfl hg ec hc hc3 hi z ek (pk_eq (ck_ct (ck_R gen m c i) (c ^ 6)) 1 (fun w => nm_r (nI_1 r) (nm_r (nI_1 i) (hT ⟨z, w⟩))) (fun w => nm_r (nI_1 i) (hf fun y => w y.2)))
theorem cy_self {post : Int32 → SY → Prop} (em : mm = nI m) (hg : ck_gok gen m) (hm : m ≤ 3) (hcar : ck_car gen m car) (ec : cl = nI c) (hc : 0 < c) (hc3 : c ≤ 3)
    (H : ∀ nam' wai' : Nat → Int32, post (nI (ck_ct (fun x => ck_nm gen m c x = x ∧ ck_nm gen m c (ck_xc c x) = x) (c ^ 6))) (mm, cl, sz, car, cod, nam', wai', grp, lis)) :
    wpY_selfExchanged post (mm, cl, sz, car, cod, nam, wai, grp, lis) := by
  have hN := cb_c6 hc3
  unfold wpY_selfExchanged
  refine cy_findKinds em hg hm hcar ec hc hc3 ?_
  intro nam' wai' ek
  refine cy_colourings c ec ⟨c ^ 6 + 1, cl_cnt (fun f r i => wY_selfExchanged_13 post (nI (c ^ 6)) mm cl sz car cod nam' wai' grp lis f r i) (fun x => ck_nm gen m c x = x ∧ ck_nm gen m c (ck_xc c x) = x) (c ^ 6) ?_ ?_⟩
  · exact br_t (nI_le (by omega) (by omega)) (H nam' wai')
  · intro f i r hi hT hf
    have hl := ck_nm_lt (gen := gen) (m := m) hc hi
    have hx := ck_xc_lt (c := c) i hc
    have hl2 := ck_nm_lt (gen := gen) (m := m) hc hx
    refine br_f (nI_ge (by omega) (by omega)) (cy_exch i rfl ec hc hc3 (by omega) ⟨vp_in_nI (by omega) (by omega), pk_eq (ck_nm gen m c i) i (fun z => ⟨vp_in_nI (by omega) (by omega), ?_⟩) (fun z => nm_r (nI_1 i) (hf fun w => z w.1)) (by rw [nI_clamp (by omega), ek i hi])⟩)
    exact pk_eq (ck_nm gen m c (ck_xc c i)) i (fun w => nm_r (nI_1 r) (nm_r (nI_1 i) (hT ⟨z, w⟩))) (fun w => nm_r (nI_1 i) (hf fun y => w y.2)) (by rw [nI_clamp (by omega), ek _ hx])
end
