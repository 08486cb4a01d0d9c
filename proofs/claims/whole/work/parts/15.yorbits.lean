/-! Y: orbits and kinds of pairs -/
theorem cb_low : ∀ s, s < 64 → ∀ i, i < 6 → (nI s &&& (((1 : Int32) <<< (nI i &&& 31)) - 1)) = nI (s % 2 ^ i) := by decide +kernel
theorem cb_lbit {s q : Nat} (hs : s < 2 ^ 36) (hq : q < 36) : ((lN s >>> ((nI q).toInt64 &&& 63)) &&& 1) = 1 ↔ s.testBit q = true := by
  have hd : ((lN q).toBitVec.smod 64).toNat = q := by
    rw [wb_tb, wb_sm q (by omega), BitVec.toNat_ofNat, Nat.mod_eq_of_lt (by omega)]
  have hl : s / 2 ^ q ≤ s := Nat.div_le_self _ _
  rw [wb_c q (by omega), pf_shr hd (by omega), wb_a1 (by omega)]
  show lN _ = lN 1 ↔ _
  rw [pk_lEQ (by omega) (by omega), Nat.testBit_eq_decide_div_mod_eq, decide_eq_true_iff]
theorem cb_lsh {e : Nat} (he : e < 64) : (1 : Int64) <<< ((nI e).toInt64 &&& 63) = lN (2 ^ e) := by
  show lN 1 <<< _ = _
  rw [wb_shl 1 he, Nat.one_mul]
theorem cb_llow {s e : Nat} (hs : s < 2 ^ 36) (he : e < 36) : (lN s &&& (((1 : Int64) <<< ((nI e).toInt64 &&& 63)) - 1)) = 0 ↔ s % 2 ^ e = 0 := by
  have hm : s % 2 ^ e ≤ s := Nat.mod_le _ _
  rw [cb_lsh (by omega), show lN (2 ^ e) - 1 = lN (2 ^ e - 1) from lN_sub (b := 1) (Nat.two_pow_pos e), wb_mask (by omega) (by omega)]
  show lN _ = lN 0 ↔ _
  rw [pk_lEQ (by omega) (by omega)]
section
variable {mm cl sz : Int32} {car cod nam wai grp lis : Nat → Int32} {gen : Nat → Nat} {m c : Nat}
theorem cy_orb17 {post : Int32 → Prop} {J4 : Int32 → Int32 → Prop} {r i : Nat} (em : mm = nI m) (hm : m ≤ 3) (hcar : ck_car gen m car) (hi : i < 6) (ht : ck_os gen m (2 ^ i) 108 % 2 ^ i = 0 → J4 (nI (r + 1)) (nI (i + 1))) (hf : ¬ ck_os gen m (2 ^ i) 108 % 2 ^ i = 0 → J4 (nI r) (nI (i + 1))) : ∀ d k : Nat, k + d = 108 → wY_orbits_17 post J4 (nI r) (nI i) mm cl sz car cod nam wai grp lis (d + 1) (nI (ck_os gen m (2 ^ i) k)) (nI k) := by
  have hs0 : 2 ^ i < 64 := Nat.pow_lt_pow_right (a := 2) (m := i) (n := 6) (by decide) hi
  intro d
  induction d with
  | zero =>
    intro k hk
    have e : k = 108 := by omega
    subst e
    have hl := ck_os_lt (gen := gen) (m := m) hs0 108
    have hml : ck_os gen m (2 ^ i) 108 % 2 ^ i ≤ ck_os gen m (2 ^ i) 108 := Nat.mod_le _ _
    exact br_t (nI_le (a := 108) (b := 108) (by omega) (by omega)) (pk_eq (ck_os gen m (2 ^ i) 108 % 2 ^ i) 0 (fun z => nm_r (nI_1 r) (nm_r (nI_1 i) (ht z))) (fun z => nm_r (nI_1 i) (hf z)) (cb_low _ hl i hi))
  | succ d ih =>
    intro k hk
    have hl := ck_os_lt (gen := gen) (m := m) hs0 k
    have kn := ih (k + 1) (by omega)
    rw [ck_os_s] at kn
    have e1 : nI k - nI k / 6 * 6 = nI (k % 6) := pk_rem (d := 6) (by omega) (by omega) (by omega)
    have e2 : nI k / 6 = nI (k / 6) := pk_div (d := 6) (by omega) (by omega) (by omega)
    have e3 : nI k / 6 - nI k / 6 / 3 * 3 = nI (k / 6 % 3) := by
      rw [e2]
      exact pk_rem (d := 3) (by omega) (by omega) (by omega)
    have ei := cb_ix (k / 6 % 3) (k % 6) rfl rfl
    refine br_f (nI_ge (b := 108) (by omega) (by omega)) ⟨by decide, nm_r e1 ⟨by decide, by decide, nm_r e3 ?_⟩⟩
    have eb := cb_bit _ hl (k % 6) (by omega)
    refine pk_le m (k / 6 % 3) (fun z => ?_) (fun z => ?_) em
    · rw [if_neg (fun w => by omega)] at kn
      exact br_t rfl (nm_r (nI_1 k) kn)
    · by_cases w : (ck_os gen m (2 ^ i) k).testBit (k % 6) = true
      · rw [if_pos ⟨z, w⟩] at kn
        rw [if_pos w] at eb
        have hd := ck_d6 (gen (k / 6 % 3)) (k % 6)
        refine br_t eb (br_f (by decide) ⟨by rw [ei]; exact vp_in_nI (by omega) (by omega), nm_r ?_ (nm_r (nI_1 k) kn)⟩)
        rw [ei, nI_clamp (by omega), hcar _ z _ (by omega), cb_sh _ hd, cb_or]
      · rw [if_neg (fun v => w v.2)] at kn
        rw [if_neg w] at eb
        exact br_f (by rw [eb]; decide) (br_t rfl (nm_r (nI_1 k) kn))
theorem cy_orbits {post : Int32 → Prop} (em : mm = nI m) (hg : ck_gok gen m) (hm : m ≤ 3) (hcar : ck_car gen m car) (h : post (nI (ck_ct (fun p => ∀ g, ck_G gen m g → p ≤ ck_dg 6 g p) 6))) : wpY_orbits post (mm, cl, sz, car, cod, nam, wai, grp, lis) := by
  refine ⟨6 + 1, cl_cnt (fun f r i => wY_orbits_4 post mm cl sz car cod nam wai grp lis f r i) (fun p => ∀ g, ck_G gen m g → p ≤ ck_dg 6 g p) 6 ?_ ?_⟩
  · exact br_t (nI_le (a := 6) (b := 6) (by omega) (by omega)) h
  · intro f i r hi ht hf
    have iffP : ck_os gen m (2 ^ i) 108 % 2 ^ i = 0 ↔ ∀ g, ck_G gen m g → i ≤ ck_dg 6 g i := by
      rw [ck_mod0]
      constructor
      · intro k g hG
        apply Classical.byContradiction
        intro z
        have k1 := k (ck_dg 6 g i) (by omega)
        rw [(ck_os_all hg hm hi _).mpr ⟨g, hG, rfl⟩] at k1
        exact absurd k1 (by decide)
      · intro k q hq
        cases z : (ck_os gen m (2 ^ i) 108).testBit q with
        | false => rfl
        | true =>
          obtain ⟨g, hG, e⟩ := (ck_os_all hg hm hi q).mp z
          have := k g hG
          omega
    refine br_f (nI_ge (b := 6) (by omega) (by omega)) (nm_r (cb_sh i hi) ⟨109, ?_⟩)
    exact cy_orb17 em hm hcar hi (fun z => ht (iffP.mp z)) (fun z => hf fun w => z (iffP.mpr w)) 108 0 (by omega)
theorem cy_110 {post : Int64 → Prop} {J12 J22 : Int64 → Int32 → Prop} {x5 : Int32} {s t lo hi : Nat} (hs : ck_pi gen s t < 2 ^ 36) (ht : t < 108) (e : 6 * lo + hi = ck_pn (ck_dg 6 (gen (t / 36)) (t % 36 / 6)) (ck_dg 6 (gen (t / 36)) (t % 6))) (k : J22 (lN (ck_pi gen s (t + 1))) (nI (t + 1))) : wY_pairsFrom_110 post J12 J22 (lN (ck_pi gen s t)) x5 (nI t) (nI lo) (nI hi) mm cl sz car cod nam wai grp lis := by
  have e1 : nI t - nI t / 36 * 36 = nI (t % 36) := pk_rem (d := 36) (by omega) (by omega) (by omega)
  have hb := cb_lbit hs (show t % 36 < 36 by omega)
  have hpn := ck_pn_lt (ck_d6 (gen (t / 36)) (t % 36 / 6)) (ck_d6 (gen (t / 36)) (t % 6))
  rw [ck_pi_s] at k
  refine ⟨by decide, ?_⟩
  rw [e1]
  by_cases w : (ck_pi gen s t).testBit (t % 36) = true
  · rw [if_pos w] at k
    refine br_t (hb.mpr w) (br_f (by decide) (nm_r ?_ (nm_r (nI_1 t) k)))
    have h2 : 2 ^ ck_pn (ck_dg 6 (gen (t / 36)) (t % 36 / 6)) (ck_dg 6 (gen (t / 36)) (t % 6)) < 2 ^ 36 := Nat.pow_lt_pow_right (by decide) hpn
    rw [cb_ix lo hi rfl rfl, e, cb_lsh (by omega), wb_or (by omega) (by omega)]
  · rw [if_neg w] at k
    exact br_f (fun z => w (hb.mp z)) (br_t rfl (nm_r (nI_1 t) k))
theorem cy_pf22 {post : Int64 → Prop} {J12 : Int64 → Int32 → Prop} {s r : Nat} (em : mm = nI m) (hm : m ≤ 3) (hcar : ck_car gen m car) (hs : s < 2 ^ 36) (hJ : J12 (lN (ck_pi gen s (36 * m))) (nI (r + 1))) : ∀ d t : Nat, t + d = 36 * m → wY_pairsFrom_22 post J12 (nI r) mm cl sz car cod nam wai grp lis (d + 1) (lN (ck_pi gen s t)) (nI t) := by
  have emm : (36 * mm : Int32) = nI (36 * m) := by
    rw [em]
    show nI 36 * nI m = _
    rw [pk_mul]
  intro d
  induction d with
  | zero =>
    intro t ht
    have e : t = 36 * m := by omega
    subst e
    exact br_t (by rw [emm]; exact nI_le (by omega) (by omega)) (nm_r (nI_1 r) hJ)
  | succ d ih =>
    intro t ht
    have kn := ih (t + 1) (by omega)
    have hl := ck_pi_lt (gen := gen) hs t
    have e7 : nI t / 36 = nI (t / 36) := pk_div (d := 36) (by omega) (by omega) (by omega)
    have e36 : nI t - nI t / 36 * 36 = nI (t % 36) := pk_rem (d := 36) (by omega) (by omega) (by omega)
    have e36d : (nI t - nI t / 36 * 36) / 6 = nI (t % 36 / 6) := by
      rw [e36]
      exact pk_div (d := 6) (by omega) (by omega) (by omega)
    have e6 : nI t - nI t / 6 * 6 = nI (t % 6) := pk_rem (d := 6) (by omega) (by omega) (by omega)
    have i1 := cb_ix (t / 36) (t % 36 / 6) rfl e36d
    have i2 := cb_ix (t / 36) (t % 6) rfl e6
    have h1 := ck_d6 (gen (t / 36)) (t % 36 / 6)
    have h2 := ck_d6 (gen (t / 36)) (t % 6)
    refine br_f (by rw [emm]; exact nI_ge (by omega) (by omega)) ⟨by decide, nm_r e7 ⟨by decide, by decide, by rw [i1]; exact vp_in_nI (by omega) (by omega), nm_r (e' := nI (ck_dg 6 (gen (t / 36)) (t % 36 / 6))) ?_ ⟨by decide, by rw [i2]; exact vp_in_nI (by omega) (by omega), nm_r (e' := nI (ck_dg 6 (gen (t / 36)) (t % 6))) ?_ ?_⟩⟩⟩
    · rw [i1, nI_clamp (by omega), hcar _ (by omega) _ (by omega)]
    · rw [i2, nI_clamp (by omega), hcar _ (by omega) _ (by omega)]
    · by_cases z : ck_dg 6 (gen (t / 36)) (t % 6) ≤ ck_dg 6 (gen (t / 36)) (t % 36 / 6)
      · have zi := nI_le z (show ck_dg 6 (gen (t / 36)) (t % 36 / 6) < 2 ^ 31 by omega)
        refine br_t zi (br_t zi (cy_110 hl (by omega) ?_ kn))
        rw [show ck_pn (ck_dg 6 (gen (t / 36)) (t % 36 / 6)) (ck_dg 6 (gen (t / 36)) (t % 6)) = _ from if_pos z]
        omega
      · have zi := nI_ge (show ck_dg 6 (gen (t / 36)) (t % 36 / 6) < ck_dg 6 (gen (t / 36)) (t % 6) by omega) (by omega)
        refine br_f zi (br_f zi (cy_110 hl (by omega) ?_ kn))
        rw [show ck_pn (ck_dg 6 (gen (t / 36)) (t % 36 / 6)) (ck_dg 6 (gen (t / 36)) (t % 6)) = _ from if_neg z]
        omega
theorem cy_pairsFrom {post : Int64 → Prop} (i k : Nat) {p0 p1 : Int32} (e0 : p0 = nI i) (e1 : p1 = nI k) (hi : i < 6) (hk : k < 6) (em : mm = nI m) (hm : m ≤ 3) (hcar : ck_car gen m car) (h : post (lN (ck_pr gen m (2 ^ (6 * i + k)) 15))) : wpY_pairsFrom post (mm, cl, sz, car, cod, nam, wai, grp, lis) p0 p1 := by
  subst e0 e1
  have hs0 : 2 ^ (6 * i + k) < 2 ^ 36 := Nat.pow_lt_pow_right (by decide) (by omega)
  have key : ∀ d r : Nat, r + d = 15 → wY_pairsFrom_12 post mm cl sz car cod nam wai grp lis (d + 1) (lN (ck_pr gen m (2 ^ (6 * i + k)) r)) (nI r) := by
    intro d
    induction d with
    | zero =>
      intro r hr
      have e : r = 15 := by omega
      subst e
      exact br_t (nI_le (a := 15) (b := 15) (by omega) (by omega)) h
    | succ d ih =>
      intro r hr
      exact br_f (nI_ge (b := 15) (by omega) (by omega)) ⟨36 * m + 1, cy_pf22 em hm hcar (ck_pr_lt hs0 r) (ih (r + 1) (by omega)) (36 * m) 0 (by omega)⟩
  refine nm_r ?_ ⟨16, key 15 0 (by omega)⟩
  rw [cb_ix i k rfl rfl, cb_lsh (by omega)]
  rfl
theorem cy_pairKinds {post : Int32 → Prop} (em : mm = nI m) (hg : ck_gok gen m) (hm : m ≤ 3) (hcar : ck_car gen m car) (h : post (nI (ck_pc (fun a b => ∀ g, ck_G gen m g → ck_pn a b ≤ ck_pn (ck_dg 6 g a) (ck_dg 6 g b)) 6))) : wpY_pairKinds post (mm, cl, sz, car, cod, nam, wai, grp, lis) := by
  refine ⟨7, cl_pair (fun a b => ∀ g, ck_G gen m g → ck_pn a b ≤ ck_pn (ck_dg 6 g a) (ck_dg 6 g b)) (fun f r i => wY_pairKinds_4 post mm cl sz car cod nam wai grp lis f r i) (fun J x2 f r i => wY_pairKinds_14 post J x2 mm cl sz car cod nam wai grp lis f r i) ?_ ?_ ?_ ?_⟩
  · exact br_t (nI_le (a := 6) (b := 6) (by omega) (by omega)) h
  · intro f a r ha k
    exact br_f (nI_ge (b := 6) (by omega) (by omega)) (nm_r (nI_1 a) k)
  · intro J a r k
    exact br_t (nI_le (a := 6) (b := 6) (by omega) (by omega)) (nm_r (nI_1 a) k)
  · intro J f a b r hab hb6 ht hf
    have hs0 : 2 ^ (6 * a + b) < 2 ^ 36 := Nat.pow_lt_pow_right (by decide) (by omega)
    have hl := ck_pr_lt (gen := gen) (m := m) hs0 15
    have epn : ck_pn a b = 6 * a + b := by
      rw [show ck_pn a b = a * 6 + b from if_neg (by omega)]
      omega
    have iffP : (lN (ck_pr gen m (2 ^ (6 * a + b)) 15) &&& (((1 : Int64) <<< ((6 * nI a + nI b : Int32).toInt64 &&& 63)) - 1)) = 0 ↔ ∀ g, ck_G gen m g → ck_pn a b ≤ ck_pn (ck_dg 6 g a) (ck_dg 6 g b) := by
      rw [cb_ix a b rfl rfl, cb_llow hl (by omega), ck_mod0]
      constructor
      · intro k g hG
        apply Classical.byContradiction
        intro z
        have k1 := k (ck_pn (ck_dg 6 g a) (ck_dg 6 g b)) (by omega)
        rw [(ck_pr_all hg hab hb6 _).mpr ⟨g, hG, rfl⟩] at k1
        exact absurd k1 (by decide)
      · intro k q hq
        cases z : (ck_pr gen m (2 ^ (6 * a + b)) 15).testBit q with
        | false => rfl
        | true =>
          obtain ⟨g, hG, e⟩ := (ck_pr_all hg hab hb6 q).mp z
          have := k g hG
          omega
    refine br_f (nI_ge (b := 6) (by omega) (by omega)) (cy_pairsFrom a b rfl rfl (by omega) hb6 em hm hcar ?_)
    exact br_c (fun z => nm_r (nI_1 r) (nm_r (nI_1 b) (ht (iffP.mp z)))) (fun z => nm_r (nI_1 b) (hf fun w => z (iffP.mpr w)))
end
