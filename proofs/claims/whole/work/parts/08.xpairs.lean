/-! X: orbits and kinds of pairs -/
noncomputable def ck_pc (Q : Nat → Nat → Prop) (l : Nat) : Nat := ck_sum (fun a => ck_ct (fun b => a < b ∧ Q a b) 6) l
theorem cl_pair (Q : Nat → Nat → Prop) (W4 : Nat → Int32 → Int32 → Prop) (W14 : (Int32 → Int32 → Prop) → Int32 → Nat → Int32 → Int32 → Prop)
    (hend : W4 1 (nI (ck_pc Q 6)) (nI 6))
    (hout : ∀ n a r, a < 6 → (∃ n14 : Nat, W14 (W4 n) (nI a) n14 (nI r) (nI (a + 1))) → W4 (n + 1) (nI r) (nI a))
    (hinend : ∀ (J : Int32 → Int32 → Prop) a r, J (nI r) (nI (a + 1)) → W14 J (nI a) 1 (nI r) (nI 6))
    (hinstep : ∀ (J : Int32 → Int32 → Prop) n a b r, a < b → b < 6 → (Q a b → W14 J (nI a) n (nI (r + 1)) (nI (b + 1))) → (¬ Q a b → W14 J (nI a) n (nI r) (nI (b + 1))) → W14 J (nI a) (n + 1) (nI r) (nI b)) : W4 7 0 0 := by
  have inner : ∀ (J : Int32 → Int32 → Prop) (a r : Nat), J (nI (r + ck_ct (fun b => a < b ∧ Q a b) 6)) (nI (a + 1)) → ∀ d b : Nat, b + d = 6 → a < b → W14 J (nI a) (d + 1) (nI (r + ck_ct (fun b => a < b ∧ Q a b) b)) (nI b) := by
    intro J a r hJ d
    induction d with
    | zero =>
      intro b hb hab
      have e : b = 6 := by omega
      subst e
      exact hinend J a _ hJ
    | succ d ih =>
      intro b hb hab
      refine hinstep J (d + 1) a b _ hab (by omega) (fun z => ?_) (fun z => ?_)
      · have k := ih (b + 1) (by omega) (by omega)
        rw [ck_ct_t (p := fun b => a < b ∧ Q a b) ⟨hab, z⟩] at k
        exact k
      · have k := ih (b + 1) (by omega) (by omega)
        rw [ck_ct_f (p := fun b => a < b ∧ Q a b) (fun w => z w.2)] at k
        exact k
  have outer : ∀ d a : Nat, a + d = 6 → W4 (d + 1) (nI (ck_pc Q a)) (nI a) := by
    intro d
    induction d with
    | zero =>
      intro a ha
      have e : a = 6 := by omega
      subst e
      exact hend
    | succ d ih =>
      intro a ha
      refine hout (d + 1) a _ (by omega) ?_
      by_cases z : a = 5
      · subst z
        refine ⟨1, hinend _ 5 _ ?_⟩
        have k := ih 6 (by omega)
        have e : ck_pc Q 6 = ck_pc Q 5 := by
          show ck_pc Q 5 + ck_ct (fun b => 5 < b ∧ Q 5 b) 6 = ck_pc Q 5
          rw [ck_ct_no (p := fun b => 5 < b ∧ Q 5 b) (fun i hi w => by have := w.1; omega)]
          rfl
        rw [e] at k
        exact k
      · have e0 : ck_ct (fun b => a < b ∧ Q a b) (a + 1) = 0 := ck_ct_no fun i hi w => by have := w.1; omega
        have k := inner (W4 (d + 1)) a (ck_pc Q a) (ih (a + 1) (by omega)) (5 - a) (a + 1) (by omega) (by omega)
        rw [e0] at k
        exact ⟨_, k⟩
  exact outer 6 0 (by omega)
theorem cx_pairN {post : Int32 → Prop} {p0 p1 : Int32} (a b : Nat) (e0 : p0 = nI a) (e1 : p1 = nI b) (ha : a < 6) (hb : b < 6) (h : post (nI (ck_pn a b))) : wpX_pairNumber post p0 p1 := by
  subst e0 e1
  have k6 : ∀ x y : Nat, nI x * 6 + nI y = nI (x * 6 + y) := fun x y => by
    show nI x * nI 6 + nI y = _
    rw [pk_mul, nI_add]
  refine pk_le b a (fun z => ?_) (fun z => ?_)
  · rw [k6]
    rw [show ck_pn a b = b * 6 + a from if_pos z] at h
    exact h
  · rw [k6]
    rw [show ck_pn a b = a * 6 + b from if_neg (by omega)] at h
    exact h
theorem ck_pn_lt {a b : Nat} (ha : a < 6) (hb : b < 6) : ck_pn a b < 36 := by
  unfold ck_pn
  split <;> omega
section
variable {gc go cc cn : Int32} {ag A kn ks : Nat → Int32} {gen : Nat → Nat} {m c : Nat}
theorem cx_leastOrbit {post : Int32 → Prop} {gr : Nat → Nat} {n : Nat} (p : Nat) {p0 : Int32} (e0 : p0 = nI p) (hp : p < 6) (eo : go = nI n) (hn : n ≤ 720) (hb : ∀ e, e < n → gr e < 46656) (eA : ∀ e, e < n → A e = nI (gr e)) (h1 : (∀ e, e < n → p ≤ ck_dg 6 (gr e) p) → post 1) (h0 : ¬ (∀ e, e < n → p ≤ ck_dg 6 (gr e) p) → post 0) : wpX_isLeastOfOrbit post (gc, go, cc, cn, ag, A, kn, ks) p0 := by
  subst e0
  have key : ∀ d i : Nat, i + d = n → (∀ e, e < i → p ≤ ck_dg 6 (gr e) p) → wX_isLeastOfOrbit_2 post (nI p) gc go cc cn ag A kn ks (d + 1) (nI i) := by
    intro d
    induction d with
    | zero =>
      intro i hi hk
      exact br_t (by rw [eo]; exact nI_le (by omega) (by omega)) (h1 fun e he => hk e (by omega))
    | succ d ih =>
      intro i hi hk
      have := hb i (by omega)
      have hd := ck_d6 (gr i) p
      refine br_f (by rw [eo]; exact nI_ge (by omega) (by omega)) ⟨vp_in_nI (by omega) (by omega), ?_⟩
      refine cx_digit (gr i) 6 p (by rw [nI_clamp (by omega), eA i (by omega)]) rfl rfl (by omega) (by omega) (by omega) (by omega) ?_
      refine pk_le p (ck_dg 6 (gr i) p) (fun z => nm_r (nI_1 i) (ih (i + 1) (by omega) ?_)) (fun z => h0 fun w => by have := w i (by omega); omega)
      intro e he
      by_cases w : e = i
      · rw [w]; exact z
      · exact hk e (by omega)
  exact ⟨n + 1, key n 0 (by omega) fun e he => by omega⟩
theorem cx_orbits {post : Int32 → Prop} {gr : Nat → Nat} {n : Nat} (hg : ck_gok gen m) (hE : ck_En gr n (ck_G gen m)) (eo : go = nI n) (hn : n ≤ 720) (eA : ∀ e, e < n → A e = nI (gr e)) (h : post (nI (ck_ct (fun p => ∀ g, ck_G gen m g → p ≤ ck_dg 6 g p) 6))) : wpX_orbits post (gc, go, cc, cn, ag, A, kn, ks) := by
  have hb : ∀ e, e < n → gr e < 46656 := fun e he => (ck_G_pm hg ((hE.1 _).mpr ⟨e, he, rfl⟩)).1
  refine ⟨6 + 1, cl_cnt (fun f r i => wX_orbits_4 post gc go cc cn ag A kn ks f r i) (fun p => ∀ g, ck_G gen m g → p ≤ ck_dg 6 g p) 6 ?_ ?_⟩
  · exact br_t (nI_le (a := 6) (b := 6) (by omega) (by omega)) h
  · intro f i r hi ht hf
    refine br_f (nI_ge (b := 6) (by omega) (by omega)) (cx_leastOrbit i rfl hi eo hn hb eA (fun z => br_f (by decide) ?_) (fun z => br_t rfl ?_))
    · refine nm_r (nI_1 r) (nm_r (nI_1 i) (ht ?_))
      intro g hG
      obtain ⟨e, he, rfl⟩ := (hE.1 g).mp hG
      exact z e he
    · refine nm_r (nI_1 i) (hf fun w => z ?_)
      intro e he
      exact w _ ((hE.1 _).mpr ⟨e, he, rfl⟩)
theorem cx_leastPair {post : Int32 → Prop} {gr : Nat → Nat} {n : Nat} (a b : Nat) {p0 p1 : Int32} (e0 : p0 = nI a) (e1 : p1 = nI b) (ha : a < 6) (hb6 : b < 6) (eo : go = nI n) (hn : n ≤ 720) (hb : ∀ e, e < n → gr e < 46656) (eA : ∀ e, e < n → A e = nI (gr e)) (h1 : (∀ e, e < n → ck_pn a b ≤ ck_pn (ck_dg 6 (gr e) a) (ck_dg 6 (gr e) b)) → post 1) (h0 : ¬ (∀ e, e < n → ck_pn a b ≤ ck_pn (ck_dg 6 (gr e) a) (ck_dg 6 (gr e) b)) → post 0) : wpX_isLeastOfPairKind post (gc, go, cc, cn, ag, A, kn, ks) p0 p1 := by
  subst e0 e1
  have hl := ck_pn_lt ha hb6
  have key : ∀ d i : Nat, i + d = n → (∀ e, e < i → ck_pn a b ≤ ck_pn (ck_dg 6 (gr e) a) (ck_dg 6 (gr e) b)) → wX_isLeastOfPairKind_9 post (nI a) (nI b) (nI (ck_pn a b)) gc go cc cn ag A kn ks (d + 1) (nI i) := by
    intro d
    induction d with
    | zero =>
      intro i hi hk
      exact br_t (by rw [eo]; exact nI_le (by omega) (by omega)) (h1 fun e he => hk e (by omega))
    | succ d ih =>
      intro i hi hk
      have := hb i (by omega)
      have hd1 := ck_d6 (gr i) a
      have hd2 := ck_d6 (gr i) b
      have hl2 := ck_pn_lt hd1 hd2
      refine br_f (by rw [eo]; exact nI_ge (by omega) (by omega)) ⟨vp_in_nI (by omega) (by omega), ?_⟩
      refine cx_digit (gr i) 6 a (by rw [nI_clamp (by omega), eA i (by omega)]) rfl rfl (by omega) (by omega) (by omega) (by omega) ⟨vp_in_nI (by omega) (by omega), ?_⟩
      refine cx_digit (gr i) 6 b (by rw [nI_clamp (by omega), eA i (by omega)]) rfl rfl (by omega) (by omega) (by omega) (by omega) ?_
      refine cx_pairN _ _ rfl rfl hd1 hd2 ?_
      refine pk_le (ck_pn a b) (ck_pn (ck_dg 6 (gr i) a) (ck_dg 6 (gr i) b)) (fun z => nm_r (nI_1 i) (ih (i + 1) (by omega) ?_)) (fun z => h0 fun w => by have := w i (by omega); omega)
      intro e he
      by_cases w : e = i
      · rw [w]; exact z
      · exact hk e (by omega)
  unfold wpX_isLeastOfPairKind
  exact cx_pairN a b rfl rfl ha hb6 ⟨n + 1, key n 0 (by omega) fun e he => by omega⟩
theorem cx_pairKinds {post : Int32 → Prop} {gr : Nat → Nat} {n : Nat} (hg : ck_gok gen m) (hE : ck_En gr n (ck_G gen m)) (eo : go = nI n) (hn : n ≤ 720) (eA : ∀ e, e < n → A e = nI (gr e)) (h : post (nI (ck_pc (fun a b => ∀ g, ck_G gen m g → ck_pn a b ≤ ck_pn (ck_dg 6 g a) (ck_dg 6 g b)) 6))) : wpX_pairKinds post (gc, go, cc, cn, ag, A, kn, ks) := by
  have hb : ∀ e, e < n → gr e < 46656 := fun e he => (ck_G_pm hg ((hE.1 _).mpr ⟨e, he, rfl⟩)).1
  refine ⟨7, cl_pair (fun a b => ∀ g, ck_G gen m g → ck_pn a b ≤ ck_pn (ck_dg 6 g a) (ck_dg 6 g b)) (fun f r i => wX_pairKinds_4 post gc go cc cn ag A kn ks f r i) (fun J x2 f r i => wX_pairKinds_14 post J x2 gc go cc cn ag A kn ks f r i) ?_ ?_ ?_ ?_⟩
  · exact br_t (nI_le (a := 6) (b := 6) (by omega) (by omega)) h
  · intro f a r ha k
    exact br_f (nI_ge (b := 6) (by omega) (by omega)) (nm_r (nI_1 a) k)
  · intro J a r k
    exact br_t (nI_le (a := 6) (b := 6) (by omega) (by omega)) (nm_r (nI_1 a) k)
  · intro J f a b r hab hb6 ht hf
    refine br_f (nI_ge (b := 6) (by omega) (by omega)) (cx_leastPair a b rfl rfl (by omega) hb6 eo hn hb eA (fun z => br_f (by decide) ?_) (fun z => br_t rfl ?_))
    · refine nm_r (nI_1 r) (nm_r (nI_1 b) (ht ?_))
      intro g hG
      obtain ⟨e, he, rfl⟩ := (hE.1 g).mp hG
      exact z e he
    · refine nm_r (nI_1 b) (hf fun w => z ?_)
      intro e he
      exact w _ ((hE.1 _).mpr ⟨e, he, rfl⟩)
end
