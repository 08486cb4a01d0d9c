/-! names of kinds, the list of the group as it grows; no printed predicate stands here either -/
theorem ck_least (P : Nat → Prop) (h : ∃ k, P k) : ∃ k, P k ∧ ∀ j, P j → k ≤ j := by
  obtain ⟨k, hk⟩ := h
  induction k using Nat.strongRecOn with
  | _ k ih =>
    by_cases z : ∃ j, j < k ∧ P j
    · obtain ⟨j, hj, hp⟩ := z
      exact ih j hj hp
    · exact ⟨k, hk, fun j hj => Nat.le_of_not_lt fun hl => z ⟨j, hl, hj⟩⟩
noncomputable def ck_nm (gen : Nat → Nat) (m c x : Nat) : Nat := Classical.epsilon fun y => ck_R gen m c x y ∧ ∀ z, ck_R gen m c x z → y ≤ z
section
variable {gen : Nat → Nat} {m c : Nat} (hg : ck_gok gen m) (hc : 0 < c)
theorem ck_nm_spec {x : Nat} (hc : 0 < c) (hx : x < c ^ 6) : ck_R gen m c x (ck_nm gen m c x) ∧ ∀ z, ck_R gen m c x z → ck_nm gen m c x ≤ z :=
  Classical.epsilon_spec (p := fun y => ck_R gen m c x y ∧ ∀ z, ck_R gen m c x z → y ≤ z) (ck_least _ ⟨x, ck_R_rf hc hx⟩)
theorem ck_nm_le {x : Nat} (hc : 0 < c) (hx : x < c ^ 6) : ck_nm gen m c x ≤ x := (ck_nm_spec hc hx).2 x (ck_R_rf hc hx)
theorem ck_nm_lt {x : Nat} (hc : 0 < c) (hx : x < c ^ 6) : ck_nm gen m c x < c ^ 6 := Nat.lt_of_le_of_lt (ck_nm_le hc hx) hx
theorem ck_nm_of (hg : ck_gok gen m) (hc : 0 < c) {x y : Nat} (hx : x < c ^ 6) (h : ck_R gen m c x y) : ck_nm gen m c x = ck_nm gen m c y := by
  have hy := ck_R_lt hg hc h
  have h1 := ck_nm_spec (gen := gen) (m := m) hc hx
  have h2 := ck_nm_spec (gen := gen) (m := m) hc hy
  exact Nat.le_antisymm (h1.2 _ (ck_R_tr hg hc h h2.1)) (h2.2 _ (ck_R_tr hg hc (ck_R_sy hg hc hx h) h1.1))
theorem ck_nm_iff (hg : ck_gok gen m) (hc : 0 < c) {x y : Nat} (hx : x < c ^ 6) (hy : y < c ^ 6) : ck_nm gen m c x = ck_nm gen m c y ↔ ck_R gen m c x y := by
  refine ⟨fun e => ?_, ck_nm_of hg hc hx⟩
  have h1 := (ck_nm_spec (gen := gen) (m := m) hc hx).1
  have h2 := (ck_nm_spec (gen := gen) (m := m) hc hy).1
  rw [← e] at h2
  exact ck_R_tr hg hc h1 (ck_R_sy hg hc hy h2)
theorem ck_nm_nm (hg : ck_gok gen m) (hc : 0 < c) {x : Nat} (hx : x < c ^ 6) : ck_nm gen m c (ck_nm gen m c x) = ck_nm gen m c x :=
  (ck_nm_of hg hc hx (ck_nm_spec hc hx).1).symm
end
theorem ck_ct_no {p : Nat → Prop} : ∀ {n : Nat}, (∀ i, i < n → ¬ p i) → ck_ct p n = 0 := by
  intro n
  induction n with
  | zero => intro _; rfl
  | succ n ih => intro h; rw [ck_ct_f (h n (by omega))]; exact ih fun i hi => h i (by omega)
theorem ck_ct_ins {p : Nat → Prop} {a : Nat} (hp : ¬ p a) : ∀ {n : Nat}, a < n → ck_ct (fun y => p y ∨ y = a) n = ck_ct p n + 1 := by
  intro n
  induction n with
  | zero => intro z; omega
  | succ n ih =>
    intro ha
    by_cases e : a = n
    · subst e
      rw [ck_ct_t (p := fun y => p y ∨ y = a) (Or.inr rfl), ck_ct_f hp]
      exact congrArg (· + 1) (ck_ct_congr fun i hi => ⟨fun h => h.elim id fun z => by omega, Or.inl⟩)
    · by_cases hn : p n
      · rw [ck_ct_t (p := fun y => p y ∨ y = a) (Or.inl hn), ck_ct_t hn, ih (by omega)]
      · rw [ck_ct_f (p := fun y => p y ∨ y = a) (fun z => z.elim hn fun w => e w.symm), ck_ct_f hn, ih (by omega)]
/-! the list of the group as it grows: e is the place in work, i the generator -/
def ck_app (gr : Nat → Nat) (n x : Nat) : Nat → Nat := fun j => if j = n then x else gr j
theorem ck_app_s {gr : Nat → Nat} {n x : Nat} : ck_app gr n x n = x := if_pos rfl
theorem ck_app_n {gr : Nat → Nat} {n x j : Nat} (h : j < n) : ck_app gr n x j = gr j := if_neg (by omega)
/-- members of the group, no repeats, the identity first -/
def ck_B (gen : Nat → Nat) (m : Nat) (gr : Nat → Nat) (n : Nat) : Prop := 0 < n ∧ gr 0 = 44790 ∧ (∀ e, e < n → ck_G gen m (gr e)) ∧ ∀ e, e < n → ∀ e', e' < n → gr e = gr e' → e = e'
def ck_has (gr : Nat → Nat) (n x : Nat) : Prop := ∃ q, q < n ∧ gr q = x
theorem ck_B_0 (gen : Nat → Nat) (m : Nat) {gr : Nat → Nat} (h : gr 0 = 44790) : ck_B gen m gr 1 := by
  refine ⟨Nat.one_pos, h, ?_, ?_⟩
  · intro e he
    have e0 : e = 0 := by omega
    rw [e0, h]
    exact ck_G_id gen m
  · intro e he e' he' _
    omega
theorem ck_B_app {gen : Nat → Nat} {m : Nat} {gr : Nat → Nat} {n x : Nat} (h : ck_B gen m gr n) (hx : ck_G gen m x) (hn : ¬ ck_has gr n x) : ck_B gen m (ck_app gr n x) (n + 1) := by
  obtain ⟨h0, h1, h2, h3⟩ := h
  refine ⟨by omega, by rw [ck_app_n h0]; exact h1, ?_, ?_⟩
  · intro e he
    by_cases z : e = n
    · rw [z, ck_app_s]; exact hx
    · rw [ck_app_n (by omega)]; exact h2 e (by omega)
  · intro e he e' he' q
    by_cases z : e = n
    · by_cases z' : e' = n
      · rw [z, z']
      · rw [z, ck_app_s, ck_app_n (by omega)] at q
        exact absurd ⟨e', by omega, q.symm⟩ hn
    · by_cases z' : e' = n
      · rw [z', ck_app_s, ck_app_n (by omega)] at q
        exact absurd ⟨e, by omega, q⟩ hn
      · rw [ck_app_n (by omega), ck_app_n (by omega)] at q
        exact h3 e (by omega) e' (by omega) q
theorem ck_has_app {gr : Nat → Nat} {n x y : Nat} (h : ck_has gr n y) : ck_has (ck_app gr n x) (n + 1) y := by
  obtain ⟨q, hq, e⟩ := h
  exact ⟨q, by omega, by rw [ck_app_n hq]; exact e⟩
theorem ck_has_new {gr : Nat → Nat} {n x : Nat} : ck_has (ck_app gr n x) (n + 1) x := ⟨n, by omega, ck_app_s⟩
theorem ck_B_le {gen : Nat → Nat} {m : Nat} {gr : Nat → Nat} {n : Nat} (hg : ck_gok gen m) (h : ck_B gen m gr n) : n ≤ 720 :=
  ck_720 h.2.2.2 fun e he => ck_G_pm hg (h.2.2.1 e he)
theorem ck_B_lt {gen : Nat → Nat} {m : Nat} {gr : Nat → Nat} {n x : Nat} (hg : ck_gok gen m) (h : ck_B gen m gr n) (hx : ck_G gen m x) (hn : ¬ ck_has gr n x) : n < 720 :=
  ck_B_le hg (ck_B_app h hx hn)
theorem ck_B_En {gen : Nat → Nat} {m : Nat} {gr : Nat → Nat} {n : Nat} (h : ck_B gen m gr n) (hcl : ∀ e, e < n → ∀ i, i < m → ck_has gr n (ck_cmp (gr e) (gen i))) : ck_En gr n (ck_G gen m) := by
  refine ⟨fun x => ⟨fun hx => ?_, ?_⟩, h.2.2.2⟩
  · refine ck_G_ind (P := fun x => ∃ e, e < n ∧ gr e = x) ⟨0, h.1, h.2.1⟩ ?_ hx
    rintro x _ ⟨e, he, rfl⟩ i hi
    exact hcl e he i hi
  · rintro ⟨e, he, rfl⟩
    exact h.2.2.1 e he
