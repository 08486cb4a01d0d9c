/-! X: the questions -/
theorem cl_cnt (W : Nat → Int32 → Int32 → Prop) (p : Nat → Prop) (N : Nat) (hend : W 1 (nI (ck_ct p N)) (nI N)) (hstep : ∀ n i r, i < N → (p i → W n (nI (r + 1)) (nI (i + 1))) → (¬ p i → W n (nI r) (nI (i + 1))) → W (n + 1) (nI r) (nI i)) : W (N + 1) 0 0 := by
  have key : ∀ d i : Nat, i + d = N → W (d + 1) (nI (ck_ct p i)) (nI i) := by
    intro d
    induction d with
    | zero =>
      intro i hi
      have e : i = N := by omega
      subst e
      exact hend
    | succ d ih =>
      intro i hi
      refine hstep (d + 1) i _ (by omega) (fun h => ?_) (fun h => ?_)
      · rw [← ck_ct_t h]
        exact ih (i + 1) (by omega)
      · rw [← ck_ct_f h]
        exact ih (i + 1) (by omega)
  exact key N 0 (by omega)
def ck_lc (g p : Nat) : Nat → Nat → Bool
  | 0, _ => true
  | d + 1, q => if ck_dg 6 g q < p then false else ck_lc g p d (ck_dg 6 g q)
def ck_cy (g : Nat) : Nat → Nat
  | 0 => 0
  | n + 1 => ck_cy g n + if ck_lc g n 6 n then 1 else 0
theorem ck_cy_le (g : Nat) : ∀ n, ck_cy g n ≤ n := by
  intro n
  induction n with
  | zero => exact Nat.le_refl 0
  | succ n ih =>
    show ck_cy g n + (if ck_lc g n 6 n then 1 else 0) ≤ n + 1
    split <;> omega
theorem cx_lc {post : Int32 → Prop} {g p : Nat} (hg : g < 46656) (hp : p < 6) : ∀ d i q : Nat, i + d = 6 → q < 6 → (ck_lc g p d q = true → post 1) → (ck_lc g p d q = false → post 0) → wX_isLeastOfCycle_4 post (nI g) (nI p) (d + 1) (nI q) (nI i) := by
  intro d
  induction d with
  | zero =>
    intro i q hi hq h1 _
    exact br_t (nI_le (a := 6) (by omega) (by omega)) (h1 rfl)
  | succ d ih =>
    intro i q hi hq h1 h0
    refine br_f (nI_ge (b := 6) (by omega) (by omega)) ?_
    refine cx_digit g 6 q rfl rfl rfl (by omega) (by omega) (by omega) (by omega) ?_
    have := ck_d6 g q
    have e : ck_lc g p (d + 1) q = if ck_dg 6 g q < p then false else ck_lc g p d (ck_dg 6 g q) := rfl
    refine pk_le p (ck_dg 6 g q) (fun z => nm_r (nI_1 i) ?_) (fun z => ?_)
    · rw [if_neg (by omega)] at e
      rw [e] at h1 h0
      exact ih (i + 1) _ (by omega) this h1 h0
    · rw [if_pos z] at e
      exact h0 e
theorem cx_cyc {post : Int32 → Prop} {g : Nat} (hg : g < 46656) (h : post (nI (ck_cy g 6))) : ∀ d i : Nat, i + d = 6 → wX_cycleCount_4 post (nI g) (d + 1) (nI (ck_cy g i)) (nI i) := by
  intro d
  induction d with
  | zero =>
    intro i hi
    have e : i = 6 := by omega
    subst e
    exact br_t (nI_le (a := 6) (b := 6) (by omega) (by omega)) h
  | succ d ih =>
    intro i hi
    refine br_f (nI_ge (b := 6) (by omega) (by omega)) ⟨7, ?_⟩
    have e : ck_cy g (i + 1) = ck_cy g i + if ck_lc g i 6 i then 1 else 0 := rfl
    refine cx_lc hg (by omega) 6 0 i (by omega) (by omega) (fun z => br_f (by decide) ?_) (fun z => br_t rfl ?_)
    · rw [z] at e
      refine nm_r (e' := nI (ck_cy g (i + 1))) (by rw [nI_1, e]; rfl) (nm_r (nI_1 i) (ih (i + 1) (by omega)))
    · rw [z] at e
      have k := ih (i + 1) (by omega)
      rw [e] at k
      exact nm_r (nI_1 i) k
section
variable {gc go cc cn : Int32} {ag A kn ks : Nat → Int32} {gen : Nat → Nat} {m c : Nat}
theorem cx_withCycles {post : Int32 → Prop} {gr : Nat → Nat} {n : Nat} {p0 : Int32} (eo : go = nI n) (hn : n ≤ 720) (hb : ∀ e, e < n → gr e < 46656) (eA : ∀ e, e < n → A e = nI (gr e)) (h : post (nI (ck_ct (fun e => nI (ck_cy (gr e) 6) = p0) n))) : wpX_withCycles post (gc, go, cc, cn, ag, A, kn, ks) p0 := by
  refine ⟨n + 1, cl_cnt (fun f r i => wX_withCycles_4 post p0 gc go cc cn ag A kn ks f r i) (fun e => nI (ck_cy (gr e) 6) = p0) n ?_ ?_⟩
  · exact br_t (by rw [eo]; exact nI_le (by omega) (by omega)) h
  · intro f i r hi ht hf
    refine br_f (by rw [eo]; exact nI_ge (by omega) (by omega)) ⟨vp_in_nI (by omega) (by omega), ?_⟩
    rw [nI_clamp (n := i) (by omega), eA i hi]
    refine ⟨7, cx_cyc (hb i hi) ?_ 6 0 (by omega)⟩
    exact br_c (fun z => nm_r (nI_1 r) (nm_r (nI_1 i) (ht z))) (fun z => nm_r (nI_1 i) (hf z))
theorem cx_isName {post : Int32 → Prop} (x : Nat) {p0 : Int32} (e0 : p0 = nI x) (hc3 : c ≤ 3) (hx : x < c ^ 6) (ek : ∀ y, y < c ^ 6 → kn y = nI (ck_nm gen m c y)) (hc : 0 < c) (h1 : ck_nm gen m c x = x → post 1) (h0 : ck_nm gen m c x ≠ x → post 0) : wpX_isName post (gc, go, cc, cn, ag, A, kn, ks) p0 := by
  subst e0
  have hN := cb_c6 hc3
  have hl := ck_nm_lt (gen := gen) (m := m) hc hx
  exact ⟨vp_in_nI (by omega) (by omega), pk_eq (ck_nm gen m c x) x h1 h0 (by rw [nI_clamp (by omega), ek x hx])⟩
theorem cx_kinds {post : Int32 → Prop} (hc : 0 < c) (hc3 : c ≤ 3) (en : cn = nI (c ^ 6)) (ek : ∀ y, y < c ^ 6 → kn y = nI (ck_nm gen m c y)) (h : post (nI (ck_ct (fun x => ck_nm gen m c x = x) (c ^ 6)))) : wpX_kinds post (gc, go, cc, cn, ag, A, kn, ks) := by
  have hN := cb_c6 hc3
  refine ⟨c ^ 6 + 1, cl_cnt (fun f r i => wX_kinds_4 post gc go cc cn ag A kn ks f r i) (fun x => ck_nm gen m c x = x) (c ^ 6) ?_ ?_⟩
  · exact br_t (by rw [en]; exact nI_le (by omega) (by omega)) h
  · intro f i r hi ht hf
    refine br_f (by rw [en]; exact nI_ge (by omega) (by omega)) (cx_isName i rfl hc3 hi ek hc (fun z => br_f (by decide) ?_) (fun z => br_t rfl ?_))
    · exact nm_r (nI_1 r) (nm_r (nI_1 i) (ht z))
    · exact nm_r (nI_1 i) (hf z)
end
/-- how many places of x have the colour k -/
noncomputable def ck_pl (c x : Nat) (k : Int32) : Nat := ck_ct (fun i => nI (ck_dg c x i) = k) 6
theorem ck_pl_le (c x : Nat) (k : Int32) : ck_pl c x k ≤ 6 := ck_ct_le _ 6
def ck_sw (c d : Nat) : Nat := if c = 1 then d else if d = 0 then 1 else if d = 1 then 0 else d
def ck_xc (c x : Nat) : Nat := ck_enc c (fun i => ck_sw c (ck_dg c x i)) 6
theorem ck_sw_lt {c d : Nat} (hc : 0 < c) (hd : d < c) : ck_sw c d < c := by
  unfold ck_sw
  split
  · exact hd
  · split
    · omega
    · split <;> omega
theorem ck_xc_lt {c : Nat} (x : Nat) (hc : 0 < c) : ck_xc c x < c ^ 6 := ck_enc_lt fun i _ => ck_sw_lt hc (ck_dg_lt hc x i)
def ck_pn (a b : Nat) : Nat := if b ≤ a then b * 6 + a else a * 6 + b
section
variable {gc go cc cn : Int32} {ag A kn ks : Nat → Int32} {gen : Nat → Nat} {m c : Nat}
theorem cx_places {post : Int32 → Prop} (x : Nat) {p0 p1 : Int32} (e0 : p0 = nI x) (ec : cc = nI c) (hc : 0 < c) (hc3 : c ≤ 3) (hx : x < 2 ^ 31) (h : post (nI (ck_pl c x p1))) : wpX_placesWith post (gc, go, cc, cn, ag, A, kn, ks) p0 p1 := by
  subst e0
  refine ⟨6 + 1, cl_cnt (fun f r i => wX_placesWith_5 post (nI x) p1 gc go cc cn ag A kn ks f r i) (fun i => nI (ck_dg c x i) = p1) 6 ?_ ?_⟩
  · exact br_t (nI_le (a := 6) (b := 6) (by omega) (by omega)) h
  · intro f i r hi ht hf
    refine br_f (nI_ge (b := 6) (by omega) (by omega)) (cx_digit x c i rfl ec rfl hc (by omega) (by omega) hx ?_)
    exact br_c (fun z => nm_r (nI_1 r) (nm_r (nI_1 i) (ht z))) (fun z => nm_r (nI_1 i) (hf z))
theorem cx_kindsWith {post : Int32 → Prop} {v1 v2 : Int32} (ec : cc = nI c) (hc : 0 < c) (hc3 : c ≤ 3) (en : cn = nI (c ^ 6)) (ek : ∀ y, y < c ^ 6 → kn y = nI (ck_nm gen m c y)) (h : post (nI (ck_ct (fun x => ck_nm gen m c x = x ∧ nI (ck_pl c x 0) = v1 ∧ nI (ck_pl c x 1) = v2) (c ^ 6)))) : wpX_kindsWith post (gc, go, cc, cn, ag, A, kn, ks) v1 v2 := by
  have hN := cb_c6 hc3
  refine ⟨c ^ 6 + 1, cl_cnt (fun f r i => wX_kindsWith_5 post v1 v2 gc go cc cn ag A kn ks f r i) (fun x => ck_nm gen m c x = x ∧ nI (ck_pl c x 0) = v1 ∧ nI (ck_pl c x 1) = v2) (c ^ 6) ?_ ?_⟩
  · exact br_t (by rw [en]; exact nI_le (by omega) (by omega)) h
  · intro f i r hi ht hf
    refine br_f (by rw [en]; exact nI_ge (by omega) (by omega)) (cx_isName i rfl hc3 hi ek hc (fun z => br_f (by decide) ?_) (fun z => br_t rfl ?_))
    · refine cx_places i rfl ec hc hc3 (by omega) (br_c (fun z1 => ?_) (fun z1 => ?_))
      · refine cx_places i rfl ec hc hc3 (by omega) (br_c (fun z2 => ?_) (fun z2 => ?_))
        · exact nm_r (nI_1 r) (nm_r (nI_1 i) (ht ⟨z, z1, z2⟩))
        · exact nm_r (nI_1 i) (hf fun w => z2 w.2.2)
      · exact nm_r (nI_1 i) (hf fun w => z1 w.2.1)
    · exact nm_r (nI_1 i) (hf fun w => z w.1)
theorem cx_hasEvery {post : Int32 → Prop} (x : Nat) {p0 : Int32} (e0 : p0 = nI x) (ec : cc = nI c) (hc : 0 < c) (hc3 : c ≤ 3) (hx : x < 2 ^ 31) (h1 : (∀ k, k < c → ck_pl c x (nI k) ≠ 0) → post 1) (h0 : ¬ (∀ k, k < c → ck_pl c x (nI k) ≠ 0) → post 0) : wpX_hasEveryColour post (gc, go, cc, cn, ag, A, kn, ks) p0 := by
  subst e0
  have key : ∀ d i : Nat, i + d = c → (∀ k, k < i → ck_pl c x (nI k) ≠ 0) → wX_hasEveryColour_2 post (nI x) gc go cc cn ag A kn ks (d + 1) (nI i) := by
    intro d
    induction d with
    | zero =>
      intro i hi hk
      exact br_t (by rw [ec]; exact nI_le (by omega) (by omega)) (h1 fun k hk' => hk k (by omega))
    | succ d ih =>
      intro i hi hk
      have hp := ck_pl_le c x (nI i)
      refine br_f (by rw [ec]; exact nI_ge (by omega) (by omega)) (cx_places x rfl ec hc hc3 hx (pk_eq (ck_pl c x (nI i)) 0 (fun z => h0 fun w => w i (by omega) z) (fun z => nm_r (nI_1 i) (ih (i + 1) (by omega) ?_))))
      intro k hk'
      by_cases w : k = i
      · rw [w]; exact z
      · exact hk k (by omega)
  exact ⟨c + 1, key c 0 (by omega) fun k hk => by omega⟩
theorem cx_kindsWithAll {post : Int32 → Prop} (ec : cc = nI c) (hc : 0 < c) (hc3 : c ≤ 3) (en : cn = nI (c ^ 6)) (ek : ∀ y, y < c ^ 6 → kn y = nI (ck_nm gen m c y)) (h : post (nI (ck_ct (fun x => ck_nm gen m c x = x ∧ ∀ k, k < c → ck_pl c x (nI k) ≠ 0) (c ^ 6)))) : wpX_kindsWithAll post (gc, go, cc, cn, ag, A, kn, ks) := by
  have hN := cb_c6 hc3
  refine ⟨c ^ 6 + 1, cl_cnt (fun f r i => wX_kindsWithAll_4 post gc go cc cn ag A kn ks f r i) (fun x => ck_nm gen m c x = x ∧ ∀ k, k < c → ck_pl c x (nI k) ≠ 0) (c ^ 6) ?_ ?_⟩
  · exact br_t (by rw [en]; exact nI_le (by omega) (by omega)) h
  · intro f i r hi ht hf
    refine br_f (by rw [en]; exact nI_ge (by omega) (by omega)) (cx_isName i rfl hc3 hi ek hc (fun z => br_f (by decide) ?_) (fun z => br_t rfl ?_))
    · refine cx_hasEvery i rfl ec hc hc3 (by omega) (fun w => br_f (by decide) ?_) (fun w => br_t rfl ?_)
      · exact nm_r (nI_1 r) (nm_r (nI_1 i) (ht ⟨z, w⟩))
      · exact nm_r (nI_1 i) (hf fun y => w y.2)
    · exact nm_r (nI_1 i) (hf fun w => z w.1)
theorem cx_name {post : Int32 → Prop} {p0 : Int32} (hc3 : c ≤ 3) (en : cn = nI (c ^ 6)) (ek : ∀ y, y < c ^ 6 → kn y = nI (ck_nm gen m c y)) (h1 : ∀ y, y < c ^ 6 → p0 = nI y → post (nI (ck_nm gen m c y))) (h0 : ¬ (∃ y, y < c ^ 6 ∧ p0 = nI y) → post (-4)) : wpX_name post (gc, go, cc, cn, ag, A, kn, ks) p0 := by
  have hN := cb_c6 hc3
  unfold wpX_name
  refine cx_isCol en (by omega) (fun y hy e => br_f (by decide) ?_) (fun z => br_t rfl (h0 z))
  have k := h1 y hy e
  subst e
  refine ⟨vp_in_nI (by omega) (by omega), ?_⟩
  rw [nI_clamp (by omega), ek y hy]
  exact k
theorem cx_size {post : Int32 → Prop} {p0 : Int32} (hc : 0 < c) (hg : ck_gok gen m) (hc3 : c ≤ 3) (en : cn = nI (c ^ 6)) (ek : ∀ y, y < c ^ 6 → kn y = nI (ck_nm gen m c y)) (es : ∀ y, y < c ^ 6 → ck_nm gen m c y = y → ks y = nI (ck_ct (ck_R gen m c y) (c ^ 6))) (h1 : ∀ y, y < c ^ 6 → p0 = nI y → post (nI (ck_ct (ck_R gen m c (ck_nm gen m c y)) (c ^ 6)))) (h0 : ¬ (∃ y, y < c ^ 6 ∧ p0 = nI y) → post (-4)) : wpX_size post (gc, go, cc, cn, ag, A, kn, ks) p0 := by
  have hN := cb_c6 hc3
  unfold wpX_size
  refine cx_name hc3 en ek (fun y hy e => ?_) (fun z => ?_)
  · have hl := ck_nm_lt (gen := gen) (m := m) hc hy
    refine cx_isCol en (by omega) (fun _ _ _ => br_f (by decide) ⟨vp_in_nI (by omega) (by omega), ?_⟩) (fun z => absurd ⟨_, hl, rfl⟩ z)
    rw [nI_clamp (by omega), es _ hl (ck_nm_nm hg hc hy)]
    exact h1 y hy e
  · refine cx_isCol en (by omega) (fun y hy e => ?_) (fun _ => br_t rfl (h0 z))
    exact absurd e.symm (cb_m4 (by omega))
theorem cx_alike {post : Int32 → Prop} {p0 p1 : Int32} (hc : 0 < c) (hc3 : c ≤ 3) (en : cn = nI (c ^ 6)) (ek : ∀ y, y < c ^ 6 → kn y = nI (ck_nm gen m c y)) (h1 : ∀ y z, y < c ^ 6 → z < c ^ 6 → p0 = nI y → p1 = nI z → ck_nm gen m c y = ck_nm gen m c z → post 1) (h2 : ∀ y z, y < c ^ 6 → z < c ^ 6 → p0 = nI y → p1 = nI z → ck_nm gen m c y ≠ ck_nm gen m c z → post 0) (h0 : ¬ ((∃ y, y < c ^ 6 ∧ p0 = nI y) ∧ ∃ z, z < c ^ 6 ∧ p1 = nI z) → post 0) : wpX_alike post (gc, go, cc, cn, ag, A, kn, ks) p0 p1 := by
  have hN := cb_c6 hc3
  unfold wpX_alike
  refine cx_isCol en (by omega) (fun y hy e => br_f (by decide) ?_) (fun z => br_t rfl (h0 fun w => z w.1))
  refine cx_isCol en (by omega) (fun y' hy' e' => br_f (by decide) ?_) (fun z => br_t rfl (h0 fun w => z w.2))
  have k1 := h1 y y' hy hy' e e'
  have k2 := h2 y y' hy hy' e e'
  subst e e'
  have l1 := ck_nm_lt (gen := gen) (m := m) hc hy
  have l2 := ck_nm_lt (gen := gen) (m := m) hc hy'
  exact ⟨vp_in_nI (by omega) (by omega), vp_in_nI (by omega) (by omega), pk_eq (ck_nm gen m c y) (ck_nm gen m c y') k1 k2 (by rw [nI_clamp (by omega), ek y hy]) (by rw [nI_clamp (by omega), ek y' hy'])⟩
theorem cx_still {post : Int32 → Prop} (hc : 0 < c) (hc3 : c ≤ 3) (en : cn = nI (c ^ 6)) (ek : ∀ y, y < c ^ 6 → kn y = nI (ck_nm gen m c y)) (es : ∀ y, y < c ^ 6 → ck_nm gen m c y = y → ks y = nI (ck_ct (ck_R gen m c y) (c ^ 6))) (h : post (nI (ck_ct (fun x => ck_nm gen m c x = x ∧ ck_ct (ck_R gen m c x) (c ^ 6) = 1) (c ^ 6)))) : wpX_still post (gc, go, cc, cn, ag, A, kn, ks) := by
  have hN := cb_c6 hc3
  refine ⟨c ^ 6 + 1, cl_cnt (fun f r i => wX_still_4 post gc go cc cn ag A kn ks f r i) (fun x => ck_nm gen m c x = x ∧ ck_ct (ck_R gen m c x) (c ^ 6) = 1) (c ^ 6) ?_ ?_⟩
  · exact br_t (by rw [en]; exact nI_le (by omega) (by omega)) h
  · intro f i r hi ht hf
    refine br_f (by rw [en]; exact nI_ge (by omega) (by omega)) (cx_isName i rfl hc3 hi ek hc (fun z => br_f (by decide) ⟨vp_in_nI (by omega) (by omega), ?_⟩) (fun z => br_t rfl ?_))
    · have hl := ck_ct_le (ck_R gen m c i) (c ^ 6)
      refine pk_eq (ck_ct (ck_R gen m c i) (c ^ 6)) 1 (fun w => nm_r (nI_1 r) (nm_r (nI_1 i) (ht ⟨z, w⟩))) (fun w => nm_r (nI_1 i) (hf fun y => w y.2)) (by rw [nI_clamp (by omega), es i hi z])
    · exact nm_r (nI_1 i) (hf fun w => z w.1)
theorem cx_exch {post : Int32 → Prop} (x : Nat) {p0 : Int32} (e0 : p0 = nI x) (ec : cc = nI c) (hc : 1 < c) (hc3 : c ≤ 3) (hx : x < 2 ^ 31) (h : post (nI (ck_xc c x))) : wpX_exchanged post (gc, go, cc, cn, ag, A, kn, ks) p0 := by
  subst e0
  have key : ∀ d i : Nat, i + d = 6 → wX_exchanged_4 post (nI x) gc go cc cn ag A kn ks (d + 1) (nI (ck_enc c (fun i => ck_sw c (ck_dg c x i)) i)) (nI i) := by
    intro d
    induction d with
    | zero =>
      intro i hi
      have e : i = 6 := by omega
      subst e
      exact br_t (nI_le (a := 6) (b := 6) (by omega) (by omega)) h
    | succ d ih =>
      intro i hi
      refine br_f (nI_ge (b := 6) (by omega) (by omega)) (cx_digit x c i rfl ec rfl (by omega) (by omega) (by omega) hx ?_)
      have hd := ck_dg_lt (b := c) (by omega) x i
      have k : ∀ z0 : Int32, z0 = nI (ck_sw c (ck_dg c x i)) → wX_exchanged_42 post (wX_exchanged_4 post (nI x) gc go cc cn ag A kn ks (d + 1)) (nI x) (nI (ck_enc c (fun i => ck_sw c (ck_dg c x i)) i)) (nI i) z0 gc go cc cn ag A kn ks := by
        intro z0 ez
        subst ez
        refine cx_power c i ec rfl (by omega) (nm_r (e' := nI (ck_enc c (fun i => ck_sw c (ck_dg c x i)) (i + 1))) ?_ (nm_r (nI_1 i) (ih (i + 1) (by omega))))
        rw [pk_mul, nI_add]
        rfl
      have hc1 : ¬ c = 1 := by omega
      refine pk_eq (ck_dg c x i) 0 (fun z => k 1 ?_) (fun z => pk_eq (ck_dg c x i) 1 (fun w => k 0 ?_) (fun w => k _ ?_))
      · unfold ck_sw
        rw [if_neg hc1, if_pos z]
        rfl
      · unfold ck_sw
        rw [if_neg hc1, if_neg z, if_pos w]
        rfl
      · unfold ck_sw
        rw [if_neg hc1, if_neg z, if_neg w]
  exact ⟨7, key 6 0 (by omega)⟩
theorem cx_isSelf {post : Int32 → Prop} (x : Nat) {p0 : Int32} (e0 : p0 = nI x) (ec : cc = nI c) (hc : 0 < c) (hc3 : c ≤ 3) (hx : x < c ^ 6) (hnx : ck_nm gen m c x = x) (en : cn = nI (c ^ 6)) (ek : ∀ y, y < c ^ 6 → kn y = nI (ck_nm gen m c y)) (h1 : ck_nm gen m c (ck_xc c x) = x → post 1) (h0 : ck_nm gen m c (ck_xc c x) ≠ x → post 0) : wpX_isSelfExchanged post (gc, go, cc, cn, ag, A, kn, ks) p0 := by
  subst e0
  have hN := cb_c6 hc3
  have hl := ck_xc_lt (c := c) x hc
  refine pk_eq c 1 (fun z => h1 ?_) (fun z => ?_) ec
  · subst z
    have e1 : ck_xc 1 x = 0 := by omega
    have e2 : x = 0 := by omega
    rw [e1]
    rw [e2] at hnx ⊢
    exact hnx
  · refine cx_exch x rfl ec (by omega) hc3 (by omega) (cx_isCol en (by omega) (fun _ _ _ => br_f (by decide) ⟨vp_in_nI (by omega) (by omega), ?_⟩) (fun w => absurd ⟨_, hl, rfl⟩ w))
    have hl2 := ck_nm_lt (gen := gen) (m := m) hc hl
    exact pk_eq (ck_nm gen m c (ck_xc c x)) x h1 h0 (by rw [nI_clamp (by omega), ek _ hl])
theorem cx_self {post : Int32 → Prop} (ec : cc = nI c) (hc : 0 < c) (hc3 : c ≤ 3) (en : cn = nI (c ^ 6)) (ek : ∀ y, y < c ^ 6 → kn y = nI (ck_nm gen m c y)) (h : post (nI (ck_ct (fun x => ck_nm gen m c x = x ∧ ck_nm gen m c (ck_xc c x) = x) (c ^ 6)))) : wpX_selfExchanged post (gc, go, cc, cn, ag, A, kn, ks) := by
  have hN := cb_c6 hc3
  refine ⟨c ^ 6 + 1, cl_cnt (fun f r i => wX_selfExchanged_4 post gc go cc cn ag A kn ks f r i) (fun x => ck_nm gen m c x = x ∧ ck_nm gen m c (ck_xc c x) = x) (c ^ 6) ?_ ?_⟩
  · exact br_t (by rw [en]; exact nI_le (by omega) (by omega)) h
  · intro f i r hi ht hf
    refine br_f (by rw [en]; exact nI_ge (by omega) (by omega)) (cx_isName i rfl hc3 hi ek hc (fun z => br_f (by decide) ?_) (fun z => br_t rfl ?_))
    · refine cx_isSelf i rfl ec hc hc3 hi z en ek (fun w => br_f (by decide) ?_) (fun w => br_t rfl ?_)
      · exact nm_r (nI_1 r) (nm_r (nI_1 i) (ht ⟨z, w⟩))
      · exact nm_r (nI_1 i) (hf fun y => w y.2)
    · exact nm_r (nI_1 i) (hf fun w => z w.1)
end
