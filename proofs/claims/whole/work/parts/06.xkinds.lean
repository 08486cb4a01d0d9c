/-! X: the kinds are gathered -/
theorem cb_m4 {t : Nat} (h : t < 2 ^ 31) : ¬ nI t = -4 := by
  intro e
  have k := nI_pos h
  rw [e] at k
  exact k (by decide)
section
variable {gc go cc cn : Int32} {ag A kn ks : Nat → Int32} {gen : Nat → Nat} {m c : Nat}
theorem cx_rea {post : Int32 → Prop} {x g : Nat} (ec : cc = nI c) (hc : 0 < c) (hc3 : c ≤ 3) (hx : x < 2 ^ 31) (hg : g < 46656) (h : post (nI (ck_act c g x))) : ∀ d i : Nat, i + d = 6 → wX_rearranged_5 post (nI x) (nI g) gc go cc cn ag A kn ks (d + 1) (nI (ck_sum (fun i => ck_dg c x i * c ^ ck_dg 6 g i) i)) (nI i) := by
  intro d
  induction d with
  | zero =>
    intro i hi
    have e : i = 6 := by omega
    subst e
    exact br_t (nI_le (a := 6) (b := 6) (by omega) (by omega)) h
  | succ d ih =>
    intro i hi
    refine br_f (nI_ge (b := 6) (by omega) (by omega)) ?_
    refine cx_digit g 6 i rfl rfl rfl (by omega) (by omega) (by omega) (by omega) ?_
    refine cx_digit x c i rfl ec rfl hc (by omega) (by omega) hx ?_
    have := ck_d6 g i
    refine cx_power c (ck_dg 6 g i) ec rfl (by omega) ?_
    refine nm_r (e' := nI (ck_sum (fun i => ck_dg c x i * c ^ ck_dg 6 g i) (i + 1))) ?_ (nm_r (nI_1 i) (ih (i + 1) (by omega)))
    rw [pk_mul, nI_add]
    rfl
theorem cx_rearr {post : Int32 → Prop} {p0 p1 : Int32} (x g : Nat) (e0 : p0 = nI x) (e1 : p1 = nI g) (ec : cc = nI c) (hc : 0 < c) (hc3 : c ≤ 3) (hx : x < 2 ^ 31) (hg : g < 46656) (h : post (nI (ck_act c g x))) : wpX_rearranged post (gc, go, cc, cn, ag, A, kn, ks) p0 p1 := by
  subst e0 e1
  exact ⟨7, cx_rea ec hc hc3 hx hg h 6 0 (by omega)⟩
theorem cx_isCol {post : Int32 → Prop} {N : Nat} {p0 : Int32} (en : cn = nI N) (hN : N < 2 ^ 31) (h1 : ∀ y, y < N → p0 = nI y → post 1) (h0 : ¬ (∃ y, y < N ∧ p0 = nI y) → post 0) : wpX_isColouring post (gc, go, cc, cn, ag, A, kn, ks) p0 := by
  subst en
  rcases pk_ix p0 (n := N) hN with h | h | ⟨y, hy, e⟩
  · refine br_t h (h0 ?_)
    rintro ⟨y, hy, rfl⟩
    exact nI_pos (by omega) h
  · have hp : ¬ p0 < 0 := Int32.not_lt.mpr (Int32.le_trans (nI_pos' hN) h)
    refine br_f hp (br_t h (h0 ?_))
    rintro ⟨y, hy, rfl⟩
    exact nI_ge hy hN h
  · subst e
    exact br_f (nI_pos (by omega)) (br_f (nI_ge hy hN) (h1 y hy rfl))
theorem cx_gk9 {post : SX → Prop} {gr : Nat → Nat} {n t : Nat} {kn0 ks0 : Nat → Int32} (hg : ck_gok gen m) (ec : cc = nI c) (hc : 0 < c) (hc3 : c ≤ 3) (en : cn = nI (c ^ 6)) (eo : go = nI n) (hn : n ≤ 720) (hE : ck_En gr n (ck_G gen m)) (eA : ∀ e, e < n → A e = nI (gr e)) (ht : t < c ^ 6) (hk0 : ∀ y, y < c ^ 6 → ck_R gen m c t y → kn0 y = -4)
    (H : ∀ kn' ks' : Nat → Int32, (∀ y, y < c ^ 6 → ck_R gen m c t y → kn' y = nI t) → (∀ y, y < c ^ 6 → ¬ ck_R gen m c t y → kn' y = kn0 y) → ks' t = nI (ck_ct (ck_R gen m c t) (c ^ 6)) → (∀ y, y ≠ t → ks' y = ks0 y) → post (gc, go, cc, cn, ag, A, kn', ks')) :
    ∀ d e : Nat, e + d = n → ∀ kn ks : Nat → Int32, (∀ y, y < c ^ 6 → (∃ q, q < e ∧ ck_act c (gr q) t = y) → kn y = nI t) → (∀ y, y < c ^ 6 → ¬ (∃ q, q < e ∧ ck_act c (gr q) t = y) → kn y = kn0 y) → ks t = nI (ck_ct (fun y => ∃ q, q < e ∧ ck_act c (gr q) t = y) (c ^ 6)) → (∀ y, y ≠ t → ks y = ks0 y) → wX_gatherKind_9 post (nI t) gc go cc cn (d + 1) (nI e) ag A kn ks := by
  have hN := cb_c6 hc3
  have hS : ∀ y, ck_R gen m c t y ↔ ∃ q, q < n ∧ ck_act c (gr q) t = y := by
    intro y
    constructor
    · rintro ⟨g, h1, rfl⟩
      obtain ⟨q, hq, e⟩ := (hE.1 g).mp h1
      exact ⟨q, hq, by rw [e]⟩
    · rintro ⟨q, hq, rfl⟩
      exact ⟨gr q, (hE.1 _).mpr ⟨q, hq, rfl⟩, rfl⟩
  intro d
  induction d with
  | zero =>
    intro e he kn ks h1 h2 h3 h4
    have z : e = n := by omega
    subst z
    refine br_t (by rw [eo]; exact nI_le (by omega) (by omega)) (H kn ks ?_ ?_ ?_ h4)
    · intro y hy hr
      exact h1 y hy ((hS y).mp hr)
    · intro y hy hr
      exact h2 y hy fun z => hr ((hS y).mpr z)
    · rw [h3]
      exact congrArg nI (ck_ct_congr fun y _ => (hS y).symm)
  | succ d ih =>
    intro e he kn ks h1 h2 h3 h4
    have hG : ck_G gen m (gr e) := (hE.1 _).mpr ⟨e, by omega, rfl⟩
    have hp := ck_G_pm hg hG
    have hlt := ck_act_lt t hc hp
    refine br_f (by rw [eo]; exact nI_ge (by omega) (by omega)) ⟨vp_in_nI (by omega) (by omega), ?_⟩
    refine cx_rearr t (gr e) rfl (by rw [nI_clamp (by omega), eA e (by omega)]) ec hc hc3 (by omega) hp.1 ?_
    refine cx_isCol en (by omega) ?_ (fun z => absurd ⟨_, hlt, rfl⟩ z)
    intro _ _ _
    refine br_f (by decide) ⟨vp_in_nI (by omega) (by omega), ?_⟩
    rw [nI_clamp (n := ck_act c (gr e) t) (by omega), nI_clamp (n := t) (by omega)]
    by_cases z : ∃ q, q < e ∧ ck_act c (gr q) t = ck_act c (gr e) t
    · have hk := h1 _ hlt z
      have iffS : ∀ y, (∃ q, q < e + 1 ∧ ck_act c (gr q) t = y) ↔ ∃ q, q < e ∧ ck_act c (gr q) t = y := by
        intro y
        constructor
        · rintro ⟨q, hq, rfl⟩
          by_cases w : q = e
          · rw [w]; exact z
          · exact ⟨q, by omega, rfl⟩
        · rintro ⟨q, hq, rfl⟩
          exact ⟨q, by omega, rfl⟩
      refine br_f (by rw [hk]; exact cb_m4 (by omega)) (nm_r (nI_1 e) (ih (e + 1) (by omega) kn ks ?_ ?_ ?_ h4))
      · intro y hy w
        exact h1 y hy ((iffS y).mp w)
      · intro y hy w
        exact h2 y hy fun w' => w ((iffS y).mpr w')
      · rw [h3]
        exact congrArg nI (ck_ct_congr fun y _ => (iffS y).symm)
    · have hk : kn (ck_act c (gr e) t) = -4 := by
        rw [h2 _ hlt z]
        exact hk0 _ hlt ⟨gr e, hG, rfl⟩
      have iffS : ∀ y, (∃ q, q < e + 1 ∧ ck_act c (gr q) t = y) ↔ (∃ q, q < e ∧ ck_act c (gr q) t = y) ∨ y = ck_act c (gr e) t := by
        intro y
        constructor
        · rintro ⟨q, hq, rfl⟩
          by_cases w : q = e
          · rw [w]; exact Or.inr rfl
          · exact Or.inl ⟨q, by omega, rfl⟩
        · rintro (⟨q, hq, rfl⟩ | rfl)
          · exact ⟨q, by omega, rfl⟩
          · exact ⟨e, by omega, rfl⟩
      refine br_t hk ⟨vp_in_nI (by omega) (by omega), nm_e ⟨vp_in_nI (by omega) (by omega), vp_in_nI (by omega) (by omega), nm_e (nm_r (nI_1 e) (ih (e + 1) (by omega) _ _ ?_ ?_ ?_ ?_))⟩⟩
      · intro y hy w
        by_cases v : y = ck_act c (gr e) t
        · rw [v]; exact pk_us
        · rw [pk_un v]
          exact h1 y hy (((iffS y).mp w).resolve_right v)
      · intro y hy w
        have v : y ≠ ck_act c (gr e) t := fun v => w ((iffS y).mpr (Or.inr v))
        rw [pk_un v]
        exact h2 y hy fun w' => w ((iffS y).mpr (Or.inl w'))
      · rw [pk_us, h3, nI_1]
        refine congrArg nI ?_
        rw [← ck_ct_ins z hlt]
        exact ck_ct_congr fun y _ => (iffS y).symm
      · intro y hy
        rw [pk_un hy]
        exact h4 y hy
theorem cx_gatherKind {post : SX → Prop} {gr : Nat → Nat} {n t : Nat} {p0 : Int32} (e0 : p0 = nI t) (hg : ck_gok gen m) (ec : cc = nI c) (hc : 0 < c) (hc3 : c ≤ 3) (en : cn = nI (c ^ 6)) (eo : go = nI n) (hn : n ≤ 720) (hE : ck_En gr n (ck_G gen m)) (eA : ∀ e, e < n → A e = nI (gr e)) (ht : t < c ^ 6) (hk0 : ∀ y, y < c ^ 6 → ck_R gen m c t y → kn y = -4)
    (H : ∀ kn' ks' : Nat → Int32, (∀ y, y < c ^ 6 → ck_R gen m c t y → kn' y = nI t) → (∀ y, y < c ^ 6 → ¬ ck_R gen m c t y → kn' y = kn y) → ks' t = nI (ck_ct (ck_R gen m c t) (c ^ 6)) → (∀ y, y ≠ t → ks' y = ks y) → post (gc, go, cc, cn, ag, A, kn', ks')) :
    wpX_gatherKind post (gc, go, cc, cn, ag, A, kn, ks) p0 := by
  subst e0
  have hN := cb_c6 hc3
  refine ⟨vp_in_nI (by omega) (by omega), ?_⟩
  rw [nI_clamp (n := t) (by omega)]
  refine nm_e ⟨n + 1, cx_gk9 (ks0 := ks) hg ec hc hc3 en eo hn hE eA ht hk0 H n 0 (by omega) _ _ ?_ ?_ ?_ ?_⟩
  · rintro y _ ⟨q, hq, _⟩
    omega
  · intro y _ _
    rfl
  · rw [pk_us]
    have e : ck_ct (fun y => ∃ q, q < 0 ∧ ck_act c (gr q) t = y) (c ^ 6) = 0 := ck_ct_no fun i _ => by
      rintro ⟨q, hq, _⟩
      omega
    rw [e]
    rfl
  · intro y hy
    exact pk_un hy
theorem cx_gks39 {post : SX → Prop} {gr : Nat → Nat} {n : Nat} (hg : ck_gok gen m) (ec : cc = nI c) (hc : 0 < c) (hc3 : c ≤ 3) (en : cn = nI (c ^ 6)) (eo : go = nI n) (hn : n ≤ 720) (hE : ck_En gr n (ck_G gen m)) (eA : ∀ e, e < n → A e = nI (gr e))
    (H : ∀ kn' ks' : Nat → Int32, (∀ y, y < c ^ 6 → kn' y = nI (ck_nm gen m c y)) → (∀ y, y < c ^ 6 → ck_nm gen m c y = y → ks' y = nI (ck_ct (ck_R gen m c y) (c ^ 6))) → post (gc, go, cc, cn, ag, A, kn', ks')) :
    ∀ d t : Nat, t + d = c ^ 6 → ∀ kn ks : Nat → Int32, (∀ y, y < c ^ 6 → ck_nm gen m c y < t → kn y = nI (ck_nm gen m c y)) → (∀ y, y < c ^ 6 → t ≤ ck_nm gen m c y → kn y = -4) → (∀ y, y < t → ck_nm gen m c y = y → ks y = nI (ck_ct (ck_R gen m c y) (c ^ 6))) → wX_gatherKinds_39 post (d + 1) (nI t) gc go cc cn ag A kn ks := by
  have hN := cb_c6 hc3
  intro d
  induction d with
  | zero =>
    intro t ht kn ks h1 h2 h3
    refine br_t (by rw [en]; exact nI_le (by omega) (by omega)) (H kn ks ?_ ?_)
    · intro y hy
      have := ck_nm_lt (gen := gen) (m := m) hc hy
      exact h1 y hy (by omega)
    · intro y hy
      exact h3 y (by omega)
  | succ d ih =>
    intro t ht kn ks h1 h2 h3
    have htN : t < c ^ 6 := by omega
    refine br_f (by rw [en]; exact nI_ge (by omega) (by omega)) ⟨vp_in_nI (by omega) (by omega), ?_⟩
    rw [nI_clamp (n := t) (by omega)]
    have hle := ck_nm_le (gen := gen) (m := m) hc htN
    by_cases z : ck_nm gen m c t < t
    · have hne : ∀ y, y < c ^ 6 → ck_nm gen m c y ≠ t := by
        intro y hy w
        have := ck_nm_nm hg hc hy
        rw [w] at this
        omega
      refine br_f (by rw [h1 t htN z]; exact cb_m4 (by omega)) (nm_r (nI_1 t) (ih (t + 1) (by omega) kn ks ?_ ?_ ?_))
      · intro y hy w
        have := hne y hy
        exact h1 y hy (by omega)
      · intro y hy w
        exact h2 y hy (by omega)
      · intro y hy w
        by_cases v : y = t
        · rw [v] at w
          omega
        · exact h3 y (by omega) w
    · have hnt : ck_nm gen m c t = t := by omega
      have iffR : ∀ y, y < c ^ 6 → (ck_R gen m c t y ↔ ck_nm gen m c y = t) := by
        intro y hy
        rw [← ck_nm_iff hg hc htN hy, hnt]
        exact ⟨Eq.symm, Eq.symm⟩
      refine br_t (h2 t htN (by omega)) ?_
      refine cx_gatherKind rfl hg ec hc hc3 en eo hn hE eA htN (fun y hy w => h2 y hy (by have := (iffR y hy).mp w; omega)) ?_
      intro kn' ks' k1 k2 k3 k4
      refine nm_r (nI_1 t) (ih (t + 1) (by omega) kn' ks' ?_ ?_ ?_)
      · intro y hy w
        by_cases v : ck_nm gen m c y = t
        · rw [k1 y hy ((iffR y hy).mpr v), v]
        · rw [k2 y hy fun w' => v ((iffR y hy).mp w')]
          exact h1 y hy (by omega)
      · intro y hy w
        rw [k2 y hy fun w' => by have := (iffR y hy).mp w'; omega]
        exact h2 y hy (by omega)
      · intro y hy w
        by_cases v : y = t
        · rw [v]; exact k3
        · rw [k4 y v]
          exact h3 y (by omega) w
theorem cx_gks15 {post : SX → Prop} (en : cn = nI (c ^ 6)) (hc3 : c ≤ 3)
    (H : ∀ kn' : Nat → Int32, (∀ y, y < c ^ 6 → kn' y = -4) → ∃ n39 : Nat, wX_gatherKinds_39 post n39 0 gc go cc cn ag A kn' ks) :
    ∀ d t : Nat, t + d = c ^ 6 → ∀ kn : Nat → Int32, (∀ y, y < t → kn y = -4) → wX_gatherKinds_15 post gc go cc cn (d + 1) (nI t) ag A kn ks := by
  have hN := cb_c6 hc3
  intro d
  induction d with
  | zero =>
    intro t ht kn h1
    exact br_t (by rw [en]; exact nI_le (by omega) (by omega)) (H kn fun y hy => h1 y (by omega))
  | succ d ih =>
    intro t ht kn h1
    refine br_f (by rw [en]; exact nI_ge (by omega) (by omega)) ⟨vp_in_nI (by omega) (by omega), ?_⟩
    rw [nI_clamp (n := t) (by omega)]
    refine nm_e (nm_r (nI_1 t) (ih (t + 1) (by omega) _ ?_))
    intro y hy
    by_cases v : y = t
    · rw [v]; exact pk_us
    · rw [pk_un v]
      exact h1 y (by omega)
theorem cx_gather {post : SX → Prop} {gr : Nat → Nat} {n : Nat} (hg : ck_gok gen m) (ec : cc = nI c) (hc : 0 < c) (hc3 : c ≤ 3) (eo : go = nI n) (hn : n ≤ 720) (hE : ck_En gr n (ck_G gen m)) (eA : ∀ e, e < n → A e = nI (gr e))
    (H : ∀ kn' ks' : Nat → Int32, (∀ y, y < c ^ 6 → kn' y = nI (ck_nm gen m c y)) → (∀ y, y < c ^ 6 → ck_nm gen m c y = y → ks' y = nI (ck_ct (ck_R gen m c y) (c ^ 6))) → post (gc, go, cc, nI (c ^ 6), ag, A, kn', ks')) :
    wpX_gatherKinds post (gc, go, cc, cn, ag, A, kn, ks) := by
  refine cx_power c 6 ec rfl (by omega) ⟨c ^ 6 + 1, cx_gks15 rfl hc3 ?_ (c ^ 6) 0 (by omega) kn (fun y hy => by omega)⟩
  intro kn' h
  exact ⟨c ^ 6 + 1, cx_gks39 hg ec hc hc3 rfl eo hn hE eA H (c ^ 6) 0 (by omega) kn' ks (fun y _ w => by omega) (fun y hy _ => h y hy) (fun y hy => by omega)⟩
end
