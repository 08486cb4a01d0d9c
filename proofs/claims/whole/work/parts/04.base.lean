/-! digits, powers, one after the other, is a rearrangement: both sides -/
theorem cb_or (a b : Nat) : nI a ||| nI b = nI (a ||| b) := by
  apply Int32.toBitVec_inj.1
  show BitVec.ofNat 32 a ||| BitVec.ofNat 32 b = BitVec.ofNat 32 (a ||| b)
  apply BitVec.eq_of_getLsbD_eq
  intro i hi
  simp [hi]
theorem cb_sh : ∀ d, d < 6 → (1 : Int32) <<< (nI d &&& 31) = nI (2 ^ d) := by decide +kernel
theorem cb_bit : ∀ s, s < 64 → ∀ a, a < 6 → ((nI s >>> (nI a &&& 31)) &&& 1) = nI (if s.testBit a then 1 else 0) := by decide +kernel
theorem cb_or_lt {s d : Nat} (hs : s < 64) (hd : d < 6) : s ||| 2 ^ d < 64 :=
  Nat.or_lt_two_pow (n := 6) hs (Nat.pow_lt_pow_right (by decide) hd)
theorem cb_c6 {c : Nat} (hc : c ≤ 3) : c ^ 6 ≤ 729 := Nat.pow_le_pow_left hc 6
theorem cb_dd (x b d : Nat) : x / b / b ^ d = x / b ^ (d + 1) := by
  rw [Nat.div_div_eq_div_mul, Nat.pow_succ, Nat.mul_comm]
theorem cx_dig {post : Int32 → Prop} {b k : Nat} (hb : 0 < b) (hb2 : b < 2 ^ 31) (hk : k < 2 ^ 31) : ∀ d i x : Nat, i + d = k → x < 2 ^ 31 → post (nI (x / b ^ d % b)) → wX_digit_12 post (nI b) (nI k) (d + 1) (nI x) (nI i) := by
  intro d
  induction d with
  | zero =>
    intro i x hi hx h
    refine br_t (nI_le (by omega) (by omega)) ⟨nI_ne0 hb hb2, ?_⟩
    rw [pk_rem hx hb hb2]
    rw [Nat.pow_zero, Nat.div_one] at h
    exact h
  | succ d ih =>
    intro i x hi hx h
    refine br_f (nI_ge (by omega) hk) ⟨nI_ne0 hb hb2, nm_r (pk_div hx hb hb2) (nm_r (nI_1 i) ?_)⟩
    refine ih (i + 1) (x / b) (by omega) (Nat.lt_of_le_of_lt (Nat.div_le_self x b) hx) ?_
    rw [cb_dd]
    exact h
theorem cx_digit {post : Int32 → Prop} {p0 p1 p2 : Int32} (x b k : Nat) (e0 : p0 = nI x) (e1 : p1 = nI b) (e2 : p2 = nI k) (hb : 0 < b) (hb2 : b < 2 ^ 31) (hk : k < 2 ^ 31) (hx : x < 2 ^ 31) (h : post (nI (ck_dg b x k))) : wpX_digit post p0 p1 p2 := by
  subst e0 e1 e2
  by_cases z : b = 1
  · subst z
    refine br_f (nI_nlt (a := 1) (b := 1) (by omega) (by omega)) ?_
    rw [show ck_dg 1 x k = 0 from Nat.mod_one _] at h
    exact h
  · exact br_t (nI_lt (a := 1) (by omega) hb2) ⟨k + 1, cx_dig hb hb2 hk k 0 x (by omega) hx h⟩
theorem cy_dig {post : Int32 → Prop} {f1 f2 f3 : Int32} {a1 a2 a3 a4 a5 a6 : Nat → Int32} {b k : Nat} (hb : 0 < b) (hb2 : b < 2 ^ 31) (hk : k < 2 ^ 31) : ∀ d i x : Nat, i + d = k → x < 2 ^ 31 → post (nI (x / b ^ d % b)) → wY_digit_6 post (nI b) (nI k) f1 f2 f3 a1 a2 a3 a4 a5 a6 (d + 1) (nI x) (nI i) := by
  intro d
  induction d with
  | zero =>
    intro i x hi hx h
    refine br_t (nI_le (by omega) (by omega)) ⟨nI_ne0 hb hb2, ?_⟩
    rw [pk_rem hx hb hb2]
    rw [Nat.pow_zero, Nat.div_one] at h
    exact h
  | succ d ih =>
    intro i x hi hx h
    refine br_f (nI_ge (by omega) hk) ⟨nI_ne0 hb hb2, nm_r (pk_div hx hb hb2) (nm_r (nI_1 i) ?_)⟩
    refine ih (i + 1) (x / b) (by omega) (Nat.lt_of_le_of_lt (Nat.div_le_self x b) hx) ?_
    rw [cb_dd]
    exact h
theorem cy_digit {post : Int32 → Prop} {u : SY} {p0 p1 p2 : Int32} (x b k : Nat) (e0 : p0 = nI x) (e1 : p1 = nI b) (e2 : p2 = nI k) (hb : 0 < b) (hb2 : b < 2 ^ 31) (hk : k < 2 ^ 31) (hx : x < 2 ^ 31) (h : post (nI (ck_dg b x k))) : wpY_digit post u p0 p1 p2 := by
  subst e0 e1 e2
  obtain ⟨f1, f2, f3, a1, a2, a3, a4, a5, a6⟩ := u
  exact ⟨k + 1, cy_dig hb hb2 hk k 0 x (by omega) hx h⟩
theorem cx_pow {post : Int32 → Prop} {b k : Nat} (hk : k < 2 ^ 31) (h : post (nI (b ^ k))) : ∀ d i : Nat, i + d = k → wX_power_4 post (nI b) (nI k) (d + 1) (nI (b ^ i)) (nI i) := by
  intro d
  induction d with
  | zero =>
    intro i hi
    have e : i = k := by omega
    subst e
    exact br_t (nI_le (by omega) hk) h
  | succ d ih =>
    intro i hi
    refine br_f (nI_ge (by omega) hk) (nm_r (e' := nI (b ^ (i + 1))) ?_ (nm_r (nI_1 i) (ih (i + 1) (by omega))))
    rw [pk_mul, Nat.pow_succ]
theorem cx_power {post : Int32 → Prop} {p0 p1 : Int32} (b k : Nat) (e0 : p0 = nI b) (e1 : p1 = nI k) (hk : k < 2 ^ 31) (h : post (nI (b ^ k))) : wpX_power post p0 p1 := by
  subst e0 e1
  exact ⟨k + 1, cx_pow hk h k 0 (by omega)⟩
theorem cy_cols {post : Int32 → Prop} {f1 f2 f3 : Int32} {a1 a2 a3 a4 a5 a6 : Nat → Int32} {c : Nat} (e2 : f2 = nI c) (h : post (nI (c ^ 6))) : ∀ d i : Nat, i + d = 6 → wY_colourings_4 post f1 f2 f3 a1 a2 a3 a4 a5 a6 (d + 1) (nI (c ^ i)) (nI i) := by
  subst e2
  intro d
  induction d with
  | zero =>
    intro i hi
    have e : i = 6 := by omega
    subst e
    exact br_t (nI_le (a := 6) (b := 6) (by omega) (by omega)) h
  | succ d ih =>
    intro i hi
    refine br_f (nI_ge (b := 6) (by omega) (by omega)) (nm_r (e' := nI (c ^ (i + 1))) ?_ (nm_r (nI_1 i) (ih (i + 1) (by omega))))
    rw [pk_mul, Nat.pow_succ]
theorem cy_colourings {post : Int32 → Prop} {u : SY} (c : Nat) (e2 : u.2.1 = nI c) (h : post (nI (c ^ 6))) : wpY_colourings post u := by
  obtain ⟨f1, f2, f3, a1, a2, a3, a4, a5, a6⟩ := u
  exact ⟨7, cy_cols e2 h 6 0 (by omega)⟩
theorem cx_oat {post : Int32 → Prop} {a b : Nat} (ha : a < 46656) (hb : b < 46656) (h : post (nI (ck_cmp a b))) : ∀ d i : Nat, i + d = 6 → wX_oneAfterTheOther_4 post (nI a) (nI b) (d + 1) (nI (ck_enc 6 (fun p => ck_dg 6 b (ck_dg 6 a p)) i)) (nI i) := by
  intro d
  induction d with
  | zero =>
    intro i hi
    have e : i = 6 := by omega
    subst e
    exact br_t (nI_le (a := 6) (b := 6) (by omega) (by omega)) h
  | succ d ih =>
    intro i hi
    refine br_f (nI_ge (b := 6) (by omega) (by omega)) ?_
    refine cx_digit a 6 i rfl rfl rfl (by omega) (by omega) (by omega) (by omega) ?_
    refine cx_digit b 6 (ck_dg 6 a i) rfl rfl rfl (by omega) (by omega) (by have := ck_d6 a i; omega) (by omega) ?_
    refine cx_power 6 i rfl rfl (by omega) ?_
    refine nm_r (e' := nI (ck_enc 6 (fun p => ck_dg 6 b (ck_dg 6 a p)) (i + 1))) ?_ (nm_r (nI_1 i) (ih (i + 1) (by omega)))
    rw [pk_mul, nI_add]
    rfl
theorem cx_oneAfter {post : Int32 → Prop} {p0 p1 : Int32} (a b : Nat) (e0 : p0 = nI a) (e1 : p1 = nI b) (ha : a < 46656) (hb : b < 46656) (h : post (nI (ck_cmp a b))) : wpX_oneAfterTheOther post p0 p1 := by
  subst e0 e1
  exact ⟨7, cx_oat ha hb h 6 0 (by omega)⟩
/-! is it a rearrangement -/
def ck_sn (g : Nat) : Nat → Nat
  | 0 => 0
  | n + 1 => ck_sn g n ||| 2 ^ ck_dg 6 g n
theorem ck_sn_lt (g : Nat) : ∀ n, ck_sn g n < 64 := by
  intro n
  induction n with
  | zero => exact (by decide : 0 < 64)
  | succ n ih => exact cb_or_lt ih (ck_d6 g n)
theorem ck_sn_bit (g p : Nat) : ∀ n, (ck_sn g n).testBit p = true ↔ ∃ i, i < n ∧ ck_dg 6 g i = p := by
  intro n
  induction n with
  | zero =>
    constructor
    · intro h
      rw [show ck_sn g 0 = 0 from rfl, Nat.zero_testBit] at h
      exact absurd h (by decide)
    · rintro ⟨i, hi, _⟩
      omega
  | succ n ih =>
    rw [show ck_sn g (n + 1) = ck_sn g n ||| 2 ^ ck_dg 6 g n from rfl, Nat.testBit_or, Bool.or_eq_true, ih, Nat.testBit_two_pow]
    constructor
    · rintro (⟨i, hi, e⟩ | h)
      · exact ⟨i, by omega, e⟩
      · exact ⟨n, by omega, of_decide_eq_true h⟩
    · rintro ⟨i, hi, e⟩
      by_cases z : i = n
      · subst z
        exact Or.inr (decide_eq_true e)
      · exact Or.inl ⟨i, by omega, e⟩
theorem ck_sn_pm {g : Nat} (hg : g < 46656) (h : ck_sn g 6 = 63) : ck_pm g := by
  refine ⟨hg, fun i hi j hj e => ?_⟩
  have sur : ∀ p, p < 6 → ∃ i, i < 6 ∧ ck_dg 6 g i = p := by
    intro p hp
    refine (ck_sn_bit g p 6).mp ?_
    rw [h]
    exact (by decide : ∀ p, p < 6 → Nat.testBit 63 p = true) p hp
  apply Classical.byContradiction
  intro hij
  have k := List.Nodup.length_le_of_subset (List.nodup_range (n := 6)) (l₂ := ((List.range 6).erase j).map (ck_dg 6 g)) (fun p hp => by
    obtain ⟨q, hq, e2⟩ := sur p (List.mem_range.mp hp)
    refine List.mem_map.mpr ?_
    by_cases z : q = j
    · refine ⟨i, (List.mem_erase_of_ne hij).mpr (List.mem_range.mpr hi), ?_⟩
      rw [e, ← z, e2]
    · exact ⟨q, (List.mem_erase_of_ne z).mpr (List.mem_range.mpr hq), e2⟩)
  rw [List.length_map, List.length_erase_of_mem (List.mem_range.mpr hj), List.length_range] at k
  omega
theorem cx_isR {post : Int32 → Prop} {g : Nat} (hg : g < 46656) (h1 : ck_sn g 6 = 63 → post 1) (h0 : ck_sn g 6 ≠ 63 → post 0) : ∀ d i : Nat, i + d = 6 → wX_isRearrangement_16 post (nI g) (d + 1) (nI (ck_sn g i)) (nI i) := by
  intro d
  induction d with
  | zero =>
    intro i hi
    have e : i = 6 := by omega
    subst e
    have := ck_sn_lt g 6
    exact br_t (nI_le (a := 6) (b := 6) (by omega) (by omega)) (pk_eq (ck_sn g 6) 63 h1 h0)
  | succ d ih =>
    intro i hi
    refine br_f (nI_ge (b := 6) (by omega) (by omega)) ?_
    refine cx_digit g 6 i rfl rfl rfl (by omega) (by omega) (by omega) (by omega) ?_
    refine nm_r (e' := nI (ck_sn g (i + 1))) ?_ (nm_r (nI_1 i) (ih (i + 1) (by omega)))
    rw [cb_sh _ (ck_d6 g i), cb_or]
    rfl
theorem cx_isRear {post : Int32 → Prop} (p0 : Int32) (h1 : ∀ g, p0 = nI g → g < 46656 → ck_sn g 6 = 63 → post 1) (h0 : ¬ (∃ g, p0 = nI g ∧ g < 46656 ∧ ck_sn g 6 = 63) → post 0) : wpX_isRearrangement post p0 := by
  rcases pk_ix p0 (n := 46656) (by omega) with h | h | ⟨g, hg, rfl⟩
  · refine br_t h (h0 ?_)
    rintro ⟨g, rfl, hg, _⟩
    exact nI_pos (by omega) h
  · have hp : ¬ p0 < 0 := Int32.not_lt.mpr (Int32.le_trans (by decide) h)
    refine br_f hp (br_f (Int32.not_lt.mpr h) (h0 ?_))
    rintro ⟨g, rfl, hg, _⟩
    exact nI_ge (b := 46656) hg (by omega) h
  · refine br_f (nI_pos (by omega)) (br_t (nI_lt (b := 46656) hg (by omega)) ⟨7, cx_isR hg (fun z => h1 g rfl hg z) (fun z => h0 ?_) 6 0 (by omega)⟩)
    rintro ⟨g', e, hg', z'⟩
    rw [nI_eq (by omega) (by omega)] at e
    exact z (e ▸ z')
theorem cy_isRneg {post : Int32 → Prop} {f1 f2 f3 : Int32} {a1 a2 a3 a4 a5 a6 : Nat → Int32} {p0 : Int32} (hp : p0 < 0) (h0 : post 0) : ∀ d i : Nat, i + d = 6 → wY_isRearrangement_4 post p0 f1 f2 f3 a1 a2 a3 a4 a5 a6 (d + 1) 0 (nI i) := by
  have hn : ¬ (0 : Int32) ≤ p0 := Int32.not_le.mpr hp
  intro d
  induction d with
  | zero =>
    intro i hi
    have e : i = 6 := by omega
    subst e
    refine br_t (nI_le (a := 6) (b := 6) (by omega) (by omega)) (br_f ?_ (br_f (by decide) h0))
    exact fun z => hn (Int32.le_trans (by decide) z)
  | succ d ih =>
    intro i hi
    exact br_f (nI_ge (b := 6) (by omega) (by omega)) (br_f hn (nm_r (nI_1 i) (ih (i + 1) (by omega))))
theorem cy_isR {post : Int32 → Prop} {f1 f2 f3 : Int32} {a1 a2 a3 a4 a5 a6 : Nat → Int32} {g : Nat} (hg : g < 2 ^ 31) (h1 : g < 46656 → ck_sn g 6 = 63 → post 1) (h0 : ¬ (g < 46656 ∧ ck_sn g 6 = 63) → post 0) : ∀ d i : Nat, i + d = 6 → wY_isRearrangement_4 post (nI g) f1 f2 f3 a1 a2 a3 a4 a5 a6 (d + 1) (nI (ck_sn g i)) (nI i) := by
  intro d
  induction d with
  | zero =>
    intro i hi
    have e : i = 6 := by omega
    subst e
    have := ck_sn_lt g 6
    refine br_t (nI_le (a := 6) (b := 6) (by omega) (by omega)) (pk_le 46656 g (fun z => h0 fun w => by omega) (fun z => ?_))
    exact pk_eq (ck_sn g 6) 63 (h1 z) (fun w => h0 fun y => w y.2)
  | succ d ih =>
    intro i hi
    refine br_f (nI_ge (b := 6) (by omega) (by omega)) (br_t (nI_pos' hg) ?_)
    refine cy_digit g 6 i rfl rfl rfl (by omega) (by omega) (by omega) hg ?_
    refine nm_r (e' := nI (ck_sn g (i + 1))) ?_ (nm_r (nI_1 i) (ih (i + 1) (by omega)))
    rw [cb_sh _ (ck_d6 g i), cb_or]
    rfl
theorem cy_isRear {post : Int32 → Prop} {u : SY} (p0 : Int32) (h1 : ∀ g, p0 = nI g → g < 46656 → ck_sn g 6 = 63 → post 1) (h0 : ¬ (∃ g, p0 = nI g ∧ g < 46656 ∧ ck_sn g 6 = 63) → post 0) : wpY_isRearrangement post u p0 := by
  obtain ⟨f1, f2, f3, a1, a2, a3, a4, a5, a6⟩ := u
  by_cases hp : p0 < 0
  · refine ⟨7, cy_isRneg hp (h0 ?_) 6 0 (by omega)⟩
    rintro ⟨g, rfl, hg, _⟩
    exact nI_pos (by omega) hp
  · obtain ⟨g, hg, rfl⟩ := nI_of hp
    refine ⟨7, cy_isR hg (fun z w => h1 g rfl z w) (fun z => h0 ?_) 6 0 (by omega)⟩
    rintro ⟨g', e, hg', z'⟩
    rw [nI_eq hg (by omega)] at e
    subst e
    exact z ⟨hg', z'⟩
