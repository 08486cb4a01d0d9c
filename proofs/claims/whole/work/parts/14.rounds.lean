/-! closure by rounds: a round that adds nothing shows that the set is closed -/
theorem ck_ct_mono {p q : Nat → Prop} : ∀ {n : Nat}, (∀ i, i < n → p i → q i) → ck_ct p n ≤ ck_ct q n := by
  intro n
  induction n with
  | zero => intro _; exact Nat.le_refl 0
  | succ n ih =>
    intro h
    have k := ih fun i hi => h i (by omega)
    by_cases hp : p n
    · rw [ck_ct_t hp, ck_ct_t (h n (by omega) hp)]
      omega
    · rw [ck_ct_f hp]
      by_cases hq : q n
      · rw [ck_ct_t hq]; omega
      · rw [ck_ct_f hq]; exact k
theorem ck_ct_strict {p q : Nat → Prop} : ∀ {n : Nat}, (∀ i, i < n → p i → q i) → (∃ i, i < n ∧ q i ∧ ¬ p i) → ck_ct p n < ck_ct q n := by
  intro n
  induction n with
  | zero => rintro _ ⟨i, hi, _⟩; omega
  | succ n ih =>
    rintro h ⟨i, hi, h1, h2⟩
    by_cases e : i = n
    · subst e
      rw [ck_ct_f h2, ck_ct_t h1]
      have := ck_ct_mono (p := p) (q := q) (n := i) fun j hj => h j (by omega)
      omega
    · have k := ih (fun j hj => h j (by omega)) ⟨i, by omega, h1, h2⟩
      by_cases hp : p n
      · rw [ck_ct_t hp, ck_ct_t (h n (by omega) hp)]
        omega
      · rw [ck_ct_f hp]
        by_cases hq : q n
        · rw [ck_ct_t hq]; omega
        · rw [ck_ct_f hq]; exact k
theorem ck_rounds (N K : Nat) (S : Nat → Nat → Prop) (U : Nat → Prop) (hm : ∀ r p, S r p → S (r + 1) p) (hU : ∀ r p, S r p → U p) (h0 : ∃ p, p < N ∧ S 0 p) (hK : ck_ct U N ≤ K) : ∃ r, r < K ∧ ∀ p, p < N → S (r + 1) p → S r p := by
  apply Classical.byContradiction
  intro hno
  have step : ∀ r, r < K → ∃ p, p < N ∧ S (r + 1) p ∧ ¬ S r p := by
    intro r hr
    apply Classical.byContradiction
    intro h
    refine hno ⟨r, hr, fun p hp h1 => Classical.byContradiction fun h2 => h ⟨p, hp, h1, h2⟩⟩
  have grow : ∀ r, r ≤ K → r + 1 ≤ ck_ct (S r) N := by
    intro r
    induction r with
    | zero =>
      intro _
      obtain ⟨p, hp, hs⟩ := h0
      have k := ck_ct_strict (p := fun _ => False) (q := S 0) (n := N) (fun i _ h => absurd h id) ⟨p, hp, hs, id⟩
      omega
    | succ r ih =>
      intro hr
      have k := ck_ct_strict (p := S r) (q := S (r + 1)) (n := N) (fun i _ h => hm r i h) (step r (by omega))
      have := ih (by omega)
      omega
  have k1 := grow K (Nat.le_refl K)
  have k2 := ck_ct_mono (p := S K) (q := U) (n := N) fun i _ h => hU K i h
  omega
theorem ck_mod0 {s e : Nat} : s % 2 ^ e = 0 ↔ ∀ q, q < e → s.testBit q = false := by
  constructor
  · intro h q hq
    have k := Nat.testBit_mod_two_pow s e q
    rw [h, Nat.zero_testBit, decide_eq_true hq, Bool.true_and] at k
    exact k.symm
  · intro h
    apply Nat.eq_of_testBit_eq
    intro q
    rw [Nat.testBit_mod_two_pow, Nat.zero_testBit]
    by_cases z : q < e
    · rw [h q z, Bool.and_false]
    · rw [decide_eq_false z, Bool.false_and]
/-! places -/
def ck_os (gen : Nat → Nat) (m s : Nat) : Nat → Nat
  | 0 => s
  | k + 1 => if k / 6 % 3 < m ∧ (ck_os gen m s k).testBit (k % 6) = true then ck_os gen m s k ||| 2 ^ ck_dg 6 (gen (k / 6 % 3)) (k % 6) else ck_os gen m s k
theorem ck_os_s (gen : Nat → Nat) (m s k : Nat) : ck_os gen m s (k + 1) = if k / 6 % 3 < m ∧ (ck_os gen m s k).testBit (k % 6) = true then ck_os gen m s k ||| 2 ^ ck_dg 6 (gen (k / 6 % 3)) (k % 6) else ck_os gen m s k := rfl
theorem ck_os_lt {gen : Nat → Nat} {m s : Nat} (hs : s < 64) : ∀ k, ck_os gen m s k < 64 := by
  intro k
  induction k with
  | zero => exact hs
  | succ k ih =>
    rw [ck_os_s]
    split
    · exact cb_or_lt ih (ck_d6 _ _)
    · exact ih
theorem cb_orbit {s t p : Nat} : (s ||| 2 ^ t).testBit p = true ↔ s.testBit p = true ∨ t = p := by
  rw [Nat.testBit_or, Bool.or_eq_true, Nat.testBit_two_pow, decide_eq_true_iff]
theorem ck_os_mono1 {gen : Nat → Nat} {m s k p : Nat} (h : (ck_os gen m s k).testBit p = true) : (ck_os gen m s (k + 1)).testBit p = true := by
  rw [ck_os_s]
  split
  · exact cb_orbit.mpr (Or.inl h)
  · exact h
theorem ck_os_mono {gen : Nat → Nat} {m s k p : Nat} (h : (ck_os gen m s k).testBit p = true) : ∀ d, (ck_os gen m s (k + d)).testBit p = true := by
  intro d
  induction d with
  | zero => exact h
  | succ d ih => exact ck_os_mono1 ih
theorem ck_os_sound {gen : Nat → Nat} {m i : Nat} (hi : i < 6) : ∀ k p, (ck_os gen m (2 ^ i) k).testBit p = true → ∃ g, ck_G gen m g ∧ ck_dg 6 g i = p := by
  intro k
  induction k with
  | zero =>
    intro p h
    rw [show ck_os gen m (2 ^ i) 0 = 2 ^ i from rfl, Nat.testBit_two_pow, decide_eq_true_iff] at h
    exact ⟨44790, ck_G_id gen m, by rw [ck_id_dg i hi]; exact h⟩
  | succ k ih =>
    intro p h
    rw [ck_os_s] at h
    by_cases z : k / 6 % 3 < m ∧ (ck_os gen m (2 ^ i) k).testBit (k % 6) = true
    · rw [if_pos z] at h
      rcases cb_orbit.mp h with h | h
      · exact ih p h
      · obtain ⟨g, hG, e⟩ := ih _ z.2
        exact ⟨ck_cmp g (gen (k / 6 % 3)), ck_G_step hG z.1, by rw [ck_cmp_dg _ _ hi, e]; exact h⟩
    · rw [if_neg z] at h
      exact ih p h
theorem ck_os_round {gen : Nat → Nat} {m s r n a : Nat} (hm : m ≤ 3) (hn : n < m) (ha : a < 6) (h : (ck_os gen m s (18 * r)).testBit a = true) : (ck_os gen m s (18 * (r + 1))).testBit (ck_dg 6 (gen n) a) = true := by
  have h1 := ck_os_mono h (6 * n + a)
  have e1 : (18 * r + (6 * n + a)) / 6 % 3 = n := by omega
  have e2 : (18 * r + (6 * n + a)) % 6 = a := by omega
  have h2 : (ck_os gen m s (18 * r + (6 * n + a) + 1)).testBit (ck_dg 6 (gen n) a) = true := by
    rw [ck_os_s, e1, e2, if_pos ⟨hn, h1⟩]
    exact cb_orbit.mpr (Or.inr rfl)
  have h3 := ck_os_mono h2 (17 - (6 * n + a))
  rw [show 18 * r + (6 * n + a) + 1 + (17 - (6 * n + a)) = 18 * (r + 1) from by omega] at h3
  exact h3
theorem ck_os_all {gen : Nat → Nat} {m i : Nat} (hg : ck_gok gen m) (hm : m ≤ 3) (hi : i < 6) (p : Nat) : (ck_os gen m (2 ^ i) 108).testBit p = true ↔ ∃ g, ck_G gen m g ∧ ck_dg 6 g i = p := by
  refine ⟨ck_os_sound hi 108 p, ?_⟩
  rintro ⟨g, hG, rfl⟩
  obtain ⟨r, hr, hst⟩ := ck_rounds 6 6 (fun r p => (ck_os gen m (2 ^ i) (18 * r)).testBit p = true) (fun _ => True) (fun r p h => ck_os_mono h 18) (fun _ _ _ => trivial) ⟨i, hi, by
    show (2 ^ i).testBit i = true
    rw [Nat.testBit_two_pow, decide_eq_true_iff]⟩ (ck_ct_le _ 6)
  have key : (ck_os gen m (2 ^ i) (18 * r)).testBit (ck_dg 6 g i) = true := by
    refine ck_G_ind (P := fun g => (ck_os gen m (2 ^ i) (18 * r)).testBit (ck_dg 6 g i) = true) ?_ ?_ hG
    · show (ck_os gen m (2 ^ i) (18 * r)).testBit (ck_dg 6 44790 i) = true
      rw [ck_id_dg i hi]
      have h0 : (ck_os gen m (2 ^ i) 0).testBit i = true := by
        show (2 ^ i).testBit i = true
        rw [Nat.testBit_two_pow, decide_eq_true_iff]
      have k := ck_os_mono h0 (18 * r)
      rw [Nat.zero_add] at k
      exact k
    · intro g _ h j hj
      show (ck_os gen m (2 ^ i) (18 * r)).testBit (ck_dg 6 (ck_cmp g (gen j)) i) = true
      rw [ck_cmp_dg _ _ hi]
      exact hst _ (ck_d6 _ _) (ck_os_round hm hj (ck_d6 _ _) h)
  have k := ck_os_mono key (108 - 18 * r)
  rw [show 18 * r + (108 - 18 * r) = 108 from by omega] at k
  exact k
/-! pairs -/
theorem ck_pn_sy (a b : Nat) : ck_pn a b = ck_pn b a := by
  unfold ck_pn
  by_cases h : b ≤ a
  · by_cases h' : a ≤ b
    · have e : a = b := by omega
      subst e
      rfl
    · rw [if_pos h, if_neg h']
  · rw [if_neg h, if_pos (by omega)]
theorem ck_pn_sw {a b : Nat} (f : Nat → Nat) (ha : a < 6) (hb : b < 6) : ck_pn (f (ck_pn a b / 6)) (f (ck_pn a b % 6)) = ck_pn (f a) (f b) := by
  by_cases h : b ≤ a
  · have e : ck_pn a b = b * 6 + a := if_pos h
    rw [show ck_pn a b / 6 = b from by omega, show ck_pn a b % 6 = a from by omega, ck_pn_sy]
  · have e : ck_pn a b = a * 6 + b := if_neg h
    rw [show ck_pn a b / 6 = a from by omega, show ck_pn a b % 6 = b from by omega]
theorem ck_pn_U {a b : Nat} (ha : a < 6) (hb : b < 6) (h : a ≠ b) : ck_pn a b / 6 < ck_pn a b % 6 := by
  by_cases z : b ≤ a
  · have e : ck_pn a b = b * 6 + a := if_pos z
    omega
  · have e : ck_pn a b = a * 6 + b := if_neg z
    omega
def ck_cb (b : Nat → Bool) : Nat → Nat
  | 0 => 0
  | n + 1 => ck_cb b n + if b n then 1 else 0
theorem ck_ct_cb {p : Nat → Prop} {b : Nat → Bool} (h : ∀ i, p i ↔ b i = true) : ∀ n, ck_ct p n = ck_cb b n := by
  intro n
  induction n with
  | zero => rfl
  | succ n ih =>
    show _ = ck_cb b n + if b n then 1 else 0
    by_cases z : b n = true
    · rw [ck_ct_t ((h n).mpr z), if_pos z, ih]
    · rw [ck_ct_f (fun w => z ((h n).mp w)), if_neg z, ih]
      rfl
theorem ck_U15 : ck_ct (fun q => q / 6 < q % 6) 36 ≤ 15 := by
  rw [ck_ct_cb (b := fun q => decide (q / 6 < q % 6)) (fun i => decide_eq_true_iff.symm)]
  decide +kernel
def ck_pi (gen : Nat → Nat) (s : Nat) : Nat → Nat
  | 0 => s
  | t + 1 => if (ck_pi gen s t).testBit (t % 36) = true then ck_pi gen s t ||| 2 ^ ck_pn (ck_dg 6 (gen (t / 36)) (t % 36 / 6)) (ck_dg 6 (gen (t / 36)) (t % 6)) else ck_pi gen s t
theorem ck_pi_s (gen : Nat → Nat) (s t : Nat) : ck_pi gen s (t + 1) = if (ck_pi gen s t).testBit (t % 36) = true then ck_pi gen s t ||| 2 ^ ck_pn (ck_dg 6 (gen (t / 36)) (t % 36 / 6)) (ck_dg 6 (gen (t / 36)) (t % 6)) else ck_pi gen s t := rfl
def ck_pr (gen : Nat → Nat) (m s : Nat) : Nat → Nat
  | 0 => s
  | r + 1 => ck_pi gen (ck_pr gen m s r) (36 * m)
theorem ck_pi_lt {gen : Nat → Nat} {s : Nat} (hs : s < 2 ^ 36) : ∀ t, ck_pi gen s t < 2 ^ 36 := by
  intro t
  induction t with
  | zero => exact hs
  | succ t ih =>
    rw [ck_pi_s]
    split
    · exact Nat.or_lt_two_pow ih (Nat.pow_lt_pow_right (by decide) (ck_pn_lt (ck_d6 _ _) (ck_d6 _ _)))
    · exact ih
theorem ck_pr_lt {gen : Nat → Nat} {m s : Nat} (hs : s < 2 ^ 36) : ∀ r, ck_pr gen m s r < 2 ^ 36 := by
  intro r
  induction r with
  | zero => exact hs
  | succ r ih => exact ck_pi_lt ih _
theorem ck_pi_mono {gen : Nat → Nat} {s t p : Nat} (h : (ck_pi gen s t).testBit p = true) : ∀ d, (ck_pi gen s (t + d)).testBit p = true := by
  intro d
  induction d with
  | zero => exact h
  | succ d ih =>
    rw [show t + (d + 1) = (t + d) + 1 from rfl, ck_pi_s]
    split
    · exact cb_orbit.mpr (Or.inl ih)
    · exact ih
theorem ck_pr_mono1 {gen : Nat → Nat} {m s r p : Nat} (h : (ck_pr gen m s r).testBit p = true) : (ck_pr gen m s (r + 1)).testBit p = true := by
  have k := ck_pi_mono (gen := gen) (s := ck_pr gen m s r) (t := 0) h (36 * m)
  rw [Nat.zero_add] at k
  exact k
theorem ck_pr_mono {gen : Nat → Nat} {m s r p : Nat} (h : (ck_pr gen m s r).testBit p = true) : ∀ d, (ck_pr gen m s (r + d)).testBit p = true := by
  intro d
  induction d with
  | zero => exact h
  | succ d ih => exact ck_pr_mono1 ih
/-- q is a pair that the group carries i and k to -/
def ck_po (gen : Nat → Nat) (m i k q : Nat) : Prop := ∃ g, ck_G gen m g ∧ ck_pn (ck_dg 6 g i) (ck_dg 6 g k) = q
theorem ck_pi_sound {gen : Nat → Nat} {m i k s : Nat} (hi : i < 6) (hk : k < 6) (hs : ∀ q, s.testBit q = true → ck_po gen m i k q) : ∀ t, t ≤ 36 * m → ∀ q, (ck_pi gen s t).testBit q = true → ck_po gen m i k q := by
  intro t
  induction t with
  | zero => intro _ q h; exact hs q h
  | succ t ih =>
    intro ht q h
    rw [ck_pi_s] at h
    by_cases z : (ck_pi gen s t).testBit (t % 36) = true
    · rw [if_pos z] at h
      rcases cb_orbit.mp h with h | h
      · exact ih (by omega) q h
      · obtain ⟨g, hG, e⟩ := ih (by omega) _ z
        refine ⟨ck_cmp g (gen (t / 36)), ck_G_step hG (by omega), ?_⟩
        rw [ck_cmp_dg _ _ hi, ck_cmp_dg _ _ hk, ← h, ← ck_pn_sw (ck_dg 6 (gen (t / 36))) (ck_d6 g i) (ck_d6 g k), e, show t % 36 % 6 = t % 6 from by omega]
    · rw [if_neg z] at h
      exact ih (by omega) q h
theorem ck_pr_sound {gen : Nat → Nat} {m i k : Nat} (hik : i < k) (hk : k < 6) : ∀ r q, (ck_pr gen m (2 ^ (6 * i + k)) r).testBit q = true → ck_po gen m i k q := by
  intro r
  induction r with
  | zero =>
    intro q h
    rw [show ck_pr gen m (2 ^ (6 * i + k)) 0 = 2 ^ (6 * i + k) from rfl, Nat.testBit_two_pow, decide_eq_true_iff] at h
    refine ⟨44790, ck_G_id gen m, ?_⟩
    rw [ck_id_dg i (by omega), ck_id_dg k hk, ← h]
    rw [show ck_pn i k = i * 6 + k from if_neg (by omega)]
    omega
  | succ r ih =>
    intro q h
    exact ck_pi_sound (by omega) hk ih (36 * m) (Nat.le_refl _) q h
theorem ck_pr_round {gen : Nat → Nat} {m s r n q : Nat} (hn : n < m) (hq : q < 36) (h : (ck_pr gen m s r).testBit q = true) : (ck_pr gen m s (r + 1)).testBit (ck_pn (ck_dg 6 (gen n) (q / 6)) (ck_dg 6 (gen n) (q % 6))) = true := by
  have h1 := ck_pi_mono (gen := gen) (s := ck_pr gen m s r) (t := 0) h (36 * n + q)
  rw [Nat.zero_add] at h1
  have e1 : (36 * n + q) / 36 = n := by omega
  have e2 : (36 * n + q) % 36 = q := by omega
  have e3 : (36 * n + q) % 6 = q % 6 := by omega
  have h2 : (ck_pi gen (ck_pr gen m s r) (36 * n + q + 1)).testBit (ck_pn (ck_dg 6 (gen n) (q / 6)) (ck_dg 6 (gen n) (q % 6))) = true := by
    rw [ck_pi_s, e1, e2, e3, if_pos h1]
    exact cb_orbit.mpr (Or.inr rfl)
  have h3 := ck_pi_mono h2 (36 * m - (36 * n + q + 1))
  rw [show 36 * n + q + 1 + (36 * m - (36 * n + q + 1)) = 36 * m from by omega] at h3
  exact h3
theorem ck_pr_all {gen : Nat → Nat} {m i k : Nat} (hg : ck_gok gen m) (hik : i < k) (hk : k < 6) (q : Nat) : (ck_pr gen m (2 ^ (6 * i + k)) 15).testBit q = true ↔ ck_po gen m i k q := by
  refine ⟨ck_pr_sound hik hk 15 q, ?_⟩
  rintro ⟨g, hG, rfl⟩
  have hb0 : (ck_pr gen m (2 ^ (6 * i + k)) 0).testBit (6 * i + k) = true := by
    show (2 ^ (6 * i + k)).testBit (6 * i + k) = true
    rw [Nat.testBit_two_pow, decide_eq_true_iff]
  obtain ⟨r, hr, hst⟩ := ck_rounds 36 15 (fun r p => (ck_pr gen m (2 ^ (6 * i + k)) r).testBit p = true) (fun q => q / 6 < q % 6) (fun r p h => ck_pr_mono1 h) (fun r p h => by
    obtain ⟨g, hG, rfl⟩ := ck_pr_sound hik hk r p h
    exact ck_pn_U (ck_d6 _ _) (ck_d6 _ _) (fun e => by have := (ck_G_pm hg hG).2 i (by omega) k hk e; omega)) ⟨6 * i + k, by omega, hb0⟩ ck_U15
  have key : (ck_pr gen m (2 ^ (6 * i + k)) r).testBit (ck_pn (ck_dg 6 g i) (ck_dg 6 g k)) = true := by
    refine ck_G_ind (P := fun g => (ck_pr gen m (2 ^ (6 * i + k)) r).testBit (ck_pn (ck_dg 6 g i) (ck_dg 6 g k)) = true) ?_ ?_ hG
    · show (ck_pr gen m (2 ^ (6 * i + k)) r).testBit (ck_pn (ck_dg 6 44790 i) (ck_dg 6 44790 k)) = true
      rw [ck_id_dg i (by omega), ck_id_dg k hk, show ck_pn i k = 6 * i + k from by rw [show ck_pn i k = i * 6 + k from if_neg (by omega)]; omega]
      have kk := ck_pr_mono hb0 r
      rw [Nat.zero_add] at kk
      exact kk
    · intro g _ h j hj
      show (ck_pr gen m (2 ^ (6 * i + k)) r).testBit (ck_pn (ck_dg 6 (ck_cmp g (gen j)) i) (ck_dg 6 (ck_cmp g (gen j)) k)) = true
      rw [ck_cmp_dg _ _ (by omega), ck_cmp_dg _ _ hk, ← ck_pn_sw (ck_dg 6 (gen j)) (ck_d6 g i) (ck_d6 g k)]
      exact hst _ (ck_pn_lt (ck_d6 _ _) (ck_d6 _ _)) (ck_pr_round hj (ck_pn_lt (ck_d6 _ _) (ck_d6 _ _)) h)
  have kk := ck_pr_mono key (15 - r)
  rw [show r + (15 - r) = 15 from by omega] at kk
  exact kk
