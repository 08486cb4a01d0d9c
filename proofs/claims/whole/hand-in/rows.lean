section
/-! numbers of six digits, rearrangements, colourings, the group: no printed predicate stands here -/
def ck_dg (b x i : Nat) : Nat := x / b ^ i % b
def ck_enc (b : Nat) (f : Nat → Nat) : Nat → Nat
  | 0 => 0
  | n + 1 => ck_enc b f n + f n * b ^ n
theorem ck_dg_lt {b : Nat} (hb : 0 < b) (x i : Nat) : ck_dg b x i < b := Nat.mod_lt _ hb
theorem ck_enc_congr {b : Nat} {f g : Nat → Nat} : ∀ {n : Nat}, (∀ i, i < n → f i = g i) → ck_enc b f n = ck_enc b g n := by
  intro n
  induction n with
  | zero => intro _; rfl
  | succ n ih =>
    intro h
    show ck_enc b f n + f n * b ^ n = ck_enc b g n + g n * b ^ n
    rw [ih (fun i hi => h i (by omega)), h n (by omega)]
theorem ck_enc_lt {b : Nat} {f : Nat → Nat} : ∀ {n : Nat}, (∀ i, i < n → f i < b) → ck_enc b f n < b ^ n := by
  intro n
  induction n with
  | zero => intro _; exact Nat.one_pos
  | succ n ih =>
    intro h
    have h1 := ih (fun i hi => h i (by omega))
    have h2 : (f n + 1) * b ^ n ≤ b * b ^ n := Nat.mul_le_mul_right _ (h n (by omega))
    rw [Nat.succ_mul] at h2
    show ck_enc b f n + f n * b ^ n < b ^ (n + 1)
    rw [Nat.pow_succ, Nat.mul_comm (b ^ n) b]
    omega
theorem ck_enc_dg {b : Nat} {f : Nat → Nat} : ∀ {n : Nat}, (∀ i, i < n → f i < b) → ∀ {i : Nat}, i < n → ck_dg b (ck_enc b f n) i = f i := by
  intro n
  induction n with
  | zero => intro _ i hi; omega
  | succ n ih =>
    intro h i hi
    have hb : 0 < b := Nat.lt_of_le_of_lt (Nat.zero_le _) (h n (by omega))
    have hl := ck_enc_lt (fun i hi => h i (Nat.lt_succ_of_lt hi)) (n := n)
    show (ck_enc b f n + f n * b ^ n) / b ^ i % b = f i
    by_cases e : i = n
    · subst e
      rw [Nat.add_mul_div_right _ _ (Nat.pow_pos hb), Nat.div_eq_of_lt hl, Nat.zero_add, Nat.mod_eq_of_lt (h i hi)]
    · have hin : i < n := by omega
      obtain ⟨d, rfl⟩ : ∃ d, n = d + 1 + i := ⟨n - i - 1, by omega⟩
      have e2 : f (d + 1 + i) * b ^ (d + 1 + i) = (f (d + 1 + i) * b ^ d * b) * b ^ i := by
        rw [Nat.pow_add, Nat.pow_succ, Nat.mul_assoc, Nat.mul_assoc, Nat.mul_assoc]
      rw [e2, Nat.add_mul_div_right _ _ (Nat.pow_pos hb), Nat.add_mul_mod_self_right]
      exact ih (fun i hi => h i (by omega)) hin
theorem ck_enc_of {b : Nat} (x : Nat) : ∀ n, ck_enc b (ck_dg b x) n = x % b ^ n := by
  intro n
  induction n with
  | zero => rw [Nat.pow_zero, Nat.mod_one]; rfl
  | succ n ih =>
    show ck_enc b (ck_dg b x) n + x / b ^ n % b * b ^ n = _
    rw [ih, Nat.mod_pow_succ, Nat.mul_comm]
theorem ck_ext {b n x y : Nat} (hx : x < b ^ n) (hy : y < b ^ n) (h : ∀ i, i < n → ck_dg b x i = ck_dg b y i) : x = y := by
  have e := ck_enc_congr (b := b) h
  rw [ck_enc_of, ck_enc_of, Nat.mod_eq_of_lt hx, Nat.mod_eq_of_lt hy] at e
  exact e
theorem ck_enc_upd {b : Nat} {h : Nat → Nat} {t v : Nat} (h0 : h t = 0) : ∀ {n : Nat}, t < n → ck_enc b (fun p => if p = t then v else h p) n = ck_enc b h n + v * b ^ t := by
  intro n
  induction n with
  | zero => intro z; omega
  | succ n ih =>
    intro ht
    show ck_enc b (fun p => if p = t then v else h p) n + (if n = t then v else h n) * b ^ n = ck_enc b h n + h n * b ^ n + v * b ^ t
    by_cases e : n = t
    · subst e
      rw [if_pos rfl, h0, Nat.zero_mul, Nat.add_zero]
      congr 1
      exact ck_enc_congr (fun i hi => if_neg (by omega))
    · rw [if_neg e, ih (by omega)]
      omega
/-! rearrangements -/
def ck_pm (g : Nat) : Prop := g < 46656 ∧ ∀ i, i < 6 → ∀ j, j < 6 → ck_dg 6 g i = ck_dg 6 g j → i = j
def ck_cmp (a b : Nat) : Nat := ck_enc 6 (fun p => ck_dg 6 b (ck_dg 6 a p)) 6
theorem ck_d6 (x i : Nat) : ck_dg 6 x i < 6 := Nat.mod_lt _ (by decide)
theorem ck_cmp_lt (a b : Nat) : ck_cmp a b < 46656 := ck_enc_lt (b := 6) (n := 6) (fun _ _ => ck_d6 _ _)
theorem ck_cmp_dg (a b : Nat) {p : Nat} (hp : p < 6) : ck_dg 6 (ck_cmp a b) p = ck_dg 6 b (ck_dg 6 a p) := ck_enc_dg (b := 6) (n := 6) (f := fun p => ck_dg 6 b (ck_dg 6 a p)) (fun _ _ => ck_d6 _ _) hp
theorem ck_ext6 {x y : Nat} (hx : x < 46656) (hy : y < 46656) (h : ∀ i, i < 6 → ck_dg 6 x i = ck_dg 6 y i) : x = y := ck_ext (b := 6) (n := 6) hx hy h
theorem ck_id_dg : ∀ i, i < 6 → ck_dg 6 44790 i = i := by decide
theorem ck_pm_id : ck_pm 44790 := ⟨by decide, fun i hi j hj h => by rw [ck_id_dg i hi, ck_id_dg j hj] at h; exact h⟩
theorem ck_pm_cmp {a b : Nat} (ha : ck_pm a) (hb : ck_pm b) : ck_pm (ck_cmp a b) := ⟨ck_cmp_lt a b, fun i hi j hj h => by
  rw [ck_cmp_dg _ _ hi, ck_cmp_dg _ _ hj] at h
  exact ha.2 i hi j hj (hb.2 _ (ck_d6 _ _) _ (ck_d6 _ _) h)⟩
theorem ck_cmp_assoc (a b c : Nat) : ck_cmp (ck_cmp a b) c = ck_cmp a (ck_cmp b c) := by
  refine ck_ext6 (ck_cmp_lt _ _) (ck_cmp_lt _ _) fun i hi => ?_
  rw [ck_cmp_dg _ _ hi, ck_cmp_dg _ _ hi, ck_cmp_dg _ _ hi, ck_cmp_dg _ _ (ck_d6 _ _)]
theorem ck_id_cmp {a : Nat} (h : a < 46656) : ck_cmp 44790 a = a := by
  refine ck_ext6 (ck_cmp_lt _ _) h fun i hi => ?_
  rw [ck_cmp_dg _ _ hi, ck_id_dg i hi]
theorem ck_cmp_id {a : Nat} (h : a < 46656) : ck_cmp a 44790 = a := by
  refine ck_ext6 (ck_cmp_lt _ _) h fun i hi => ?_
  rw [ck_cmp_dg _ _ hi, ck_id_dg _ (ck_d6 _ _)]
def ck_f (l : List Nat) : List Nat := (List.range 6).filter fun x => !l.contains x
def ck_L : List Nat := (List.range 6).flatMap fun a => (ck_f [a]).flatMap fun b => (ck_f [a, b]).flatMap fun c => (ck_f [a, b, c]).flatMap fun d => (ck_f [a, b, c, d]).flatMap fun e => (ck_f [a, b, c, d, e]).map fun f => ((((((0 + a * 6 ^ 0) + b * 6 ^ 1) + c * 6 ^ 2) + d * 6 ^ 3) + e * 6 ^ 4) + f * 6 ^ 5)
theorem ck_L_len : ck_L.length = 720 := by decide +kernel
theorem ck_memf {l : List Nat} {x : Nat} (hx : x < 6) (h : ∀ y, y ∈ l → x ≠ y) : x ∈ ck_f l := by
  refine List.mem_filter.mpr ⟨List.mem_range.mpr hx, ?_⟩
  cases e : l.contains x with
  | false => rfl
  | true => exact absurd rfl (h x (List.contains_iff_mem.mp e))
theorem ck_memL {g : Nat} (h : ck_pm g) : g ∈ ck_L := by
  have n (i j : Nat) (hi : i < 6) (hj : j < 6) (hij : i ≠ j) : ck_dg 6 g i ≠ ck_dg 6 g j := fun e => hij (h.2 i hi j hj e)
  refine List.mem_flatMap.mpr ⟨ck_dg 6 g 0, List.mem_range.mpr (ck_d6 _ _), ?_⟩
  refine List.mem_flatMap.mpr ⟨ck_dg 6 g 1, ck_memf (ck_d6 _ _) ?_, ?_⟩
  · intro y hy
    simp only [List.mem_cons, List.not_mem_nil, or_false] at hy
    rcases hy with rfl <;> exact n _ _ (by decide) (by decide) (by decide)
  refine List.mem_flatMap.mpr ⟨ck_dg 6 g 2, ck_memf (ck_d6 _ _) ?_, ?_⟩
  · intro y hy
    simp only [List.mem_cons, List.not_mem_nil, or_false] at hy
    rcases hy with rfl | rfl <;> exact n _ _ (by decide) (by decide) (by decide)
  refine List.mem_flatMap.mpr ⟨ck_dg 6 g 3, ck_memf (ck_d6 _ _) ?_, ?_⟩
  · intro y hy
    simp only [List.mem_cons, List.not_mem_nil, or_false] at hy
    rcases hy with rfl | rfl | rfl <;> exact n _ _ (by decide) (by decide) (by decide)
  refine List.mem_flatMap.mpr ⟨ck_dg 6 g 4, ck_memf (ck_d6 _ _) ?_, ?_⟩
  · intro y hy
    simp only [List.mem_cons, List.not_mem_nil, or_false] at hy
    rcases hy with rfl | rfl | rfl | rfl <;> exact n _ _ (by decide) (by decide) (by decide)
  refine List.mem_map.mpr ⟨ck_dg 6 g 5, ck_memf (ck_d6 _ _) ?_, ?_⟩
  · intro y hy
    simp only [List.mem_cons, List.not_mem_nil, or_false] at hy
    rcases hy with rfl | rfl | rfl | rfl | rfl <;> exact n _ _ (by decide) (by decide) (by decide)
  · have e := ck_enc_of (b := 6) g 6
    rw [Nat.mod_eq_of_lt h.1] at e
    exact e
/-- every place is reached -/
theorem ck_sur {g : Nat} (h : ck_pm g) {p : Nat} (hp : p < 6) : ∃ i, i < 6 ∧ ck_dg 6 g i = p := by
  have key : ∀ g, g ∈ ck_L → ∀ p, p < 6 → (List.range 6).any (fun i => ck_dg 6 g i == p) = true := by decide +kernel
  have k := key g (ck_memL h) p hp
  rw [List.any_eq_true] at k
  obtain ⟨i, hi, e⟩ := k
  exact ⟨i, List.mem_range.mp hi, eq_of_beq e⟩
def ck_pw (g : Nat) : Nat → Nat
  | 0 => 44790
  | n + 1 => ck_cmp (ck_pw g n) g
theorem ck_pw_add (g : Nat) (m : Nat) : ∀ n, ck_pw g (m + n) = ck_cmp (ck_pw g m) (ck_pw g n) := by
  intro n
  induction n with
  | zero =>
    have h : ck_pw g m < 46656 := by
      cases m with
      | zero => exact (by decide : 44790 < 46656)
      | succ m => exact ck_cmp_lt _ _
    exact (ck_cmp_id h).symm
  | succ n ih =>
    show ck_cmp (ck_pw g (m + n)) g = ck_cmp (ck_pw g m) (ck_cmp (ck_pw g n) g)
    rw [ih, ck_cmp_assoc]
def ck_sq (g : Nat) : Nat := ck_cmp g g
theorem ck_60 : ∀ g, g ∈ ck_L → (let a := ck_sq (ck_sq g); let b := ck_sq a; let c := ck_sq b; let d := ck_sq c; ck_cmp (ck_cmp a b) (ck_cmp c d)) = 44790 := by decide +kernel
theorem ck_pw60 {g : Nat} (h : ck_pm g) : ck_pw g 60 = 44790 := by
  have h1 : ck_pw g 1 = g := ck_id_cmp h.1
  have h2 : ck_pw g 2 = ck_sq g := by rw [show (2 : Nat) = 1 + 1 from rfl, ck_pw_add, h1]; rfl
  have h4 : ck_pw g 4 = ck_sq (ck_sq g) := by rw [show (4 : Nat) = 2 + 2 from rfl, ck_pw_add, h2]; rfl
  have h8 : ck_pw g 8 = ck_sq (ck_sq (ck_sq g)) := by rw [show (8 : Nat) = 4 + 4 from rfl, ck_pw_add, h4]; rfl
  have h16 : ck_pw g 16 = ck_sq (ck_sq (ck_sq (ck_sq g))) := by rw [show (16 : Nat) = 8 + 8 from rfl, ck_pw_add, h8]; rfl
  have h32 : ck_pw g 32 = ck_sq (ck_sq (ck_sq (ck_sq (ck_sq g)))) := by rw [show (32 : Nat) = 16 + 16 from rfl, ck_pw_add, h16]; rfl
  have e : ck_pw g 60 = ck_cmp (ck_cmp (ck_pw g 4) (ck_pw g 8)) (ck_cmp (ck_pw g 16) (ck_pw g 32)) := by
    rw [← ck_pw_add, ← ck_pw_add, ← ck_pw_add]
  rw [e, h4, h8, h16, h32]
  exact ck_60 g (ck_memL h)
/-! colourings -/
def ck_sum (f : Nat → Nat) : Nat → Nat
  | 0 => 0
  | n + 1 => ck_sum f n + f n
def ck_act (c g x : Nat) : Nat := ck_sum (fun i => ck_dg c x i * c ^ ck_dg 6 g i) 6
theorem ck_act_aux {c g : Nat} (x : Nat) (hc : 0 < c) (hg : ck_pm g) : ∀ n, n ≤ 6 → ∃ h : Nat → Nat, (∀ p, h p < c) ∧ (∀ p, (∀ i, i < n → ck_dg 6 g i ≠ p) → h p = 0) ∧ (∀ i, i < n → h (ck_dg 6 g i) = ck_dg c x i) ∧ ck_sum (fun i => ck_dg c x i * c ^ ck_dg 6 g i) n = ck_enc c h 6 := by
  intro n
  induction n with
  | zero =>
    intro _
    refine ⟨fun _ => 0, fun _ => hc, fun _ _ => rfl, fun i hi => by omega, ?_⟩
    show 0 = ck_enc c (fun _ => 0) 6
    simp [ck_enc]
  | succ n ih =>
    intro hn
    obtain ⟨h, h1, h2, h3, h4⟩ := ih (by omega)
    refine ⟨fun p => if p = ck_dg 6 g n then ck_dg c x n else h p, ?_, ?_, ?_, ?_⟩
    · intro p
      show (if p = ck_dg 6 g n then ck_dg c x n else h p) < c
      split
      · exact ck_dg_lt hc _ _
      · exact h1 p
    · intro p hp
      show (if p = ck_dg 6 g n then ck_dg c x n else h p) = 0
      rw [if_neg (fun e => hp n (by omega) e.symm)]
      exact h2 p fun i hi => hp i (by omega)
    · intro i hi
      show (if ck_dg 6 g i = ck_dg 6 g n then ck_dg c x n else h (ck_dg 6 g i)) = ck_dg c x i
      by_cases e : i = n
      · rw [e, if_pos rfl]
      · rw [if_neg (fun z => e (hg.2 i (by omega) n (by omega) z))]
        exact h3 i (by omega)
    · have h0 : h (ck_dg 6 g n) = 0 := h2 _ fun i hi z => by
        have := hg.2 i (by omega) n (by omega) z
        omega
      rw [ck_enc_upd h0 (ck_d6 g n), ← h4]
      rfl
theorem ck_act_lt {c g : Nat} (x : Nat) (hc : 0 < c) (hg : ck_pm g) : ck_act c g x < c ^ 6 := by
  obtain ⟨h, h1, _, _, h4⟩ := ck_act_aux x hc hg 6 (Nat.le_refl 6)
  show ck_sum _ 6 < _
  rw [h4]
  exact ck_enc_lt fun i _ => h1 i
theorem ck_act_dg {c g : Nat} (x : Nat) (hc : 0 < c) (hg : ck_pm g) {i : Nat} (hi : i < 6) : ck_dg c (ck_act c g x) (ck_dg 6 g i) = ck_dg c x i := by
  obtain ⟨h, h1, _, h3, h4⟩ := ck_act_aux x hc hg 6 (Nat.le_refl 6)
  show ck_dg c (ck_sum _ 6) _ = _
  rw [h4, ck_enc_dg (fun i _ => h1 i) (ck_d6 g i), h3 i hi]
theorem ck_act_eq {c g x y : Nat} (hc : 0 < c) (hg : ck_pm g) (hy : y < c ^ 6) (h : ∀ i, i < 6 → ck_dg c y (ck_dg 6 g i) = ck_dg c x i) : y = ck_act c g x := by
  refine ck_ext hy (ck_act_lt x hc hg) fun p hp => ?_
  obtain ⟨i, hi, rfl⟩ := ck_sur hg hp
  rw [h i hi, ck_act_dg x hc hg hi]
theorem ck_act_id {c x : Nat} (hc : 0 < c) (hx : x < c ^ 6) : ck_act c 44790 x = x :=
  (ck_act_eq hc ck_pm_id hx fun i hi => by rw [ck_id_dg i hi]).symm
theorem ck_act_cmp {c g h : Nat} (x : Nat) (hc : 0 < c) (hg : ck_pm g) (hh : ck_pm h) : ck_act c (ck_cmp g h) x = ck_act c h (ck_act c g x) :=
  (ck_act_eq hc (ck_pm_cmp hg hh) (ck_act_lt _ hc hh) fun i hi => by
    rw [ck_cmp_dg _ _ hi, ck_act_dg _ hc hh (ck_d6 _ _), ck_act_dg _ hc hg hi]).symm
/-! the group of the first m generators -/
def ck_G (gen : Nat → Nat) (m x : Nat) : Prop := ∃ w : List Nat, (∀ i, i ∈ w → i < m) ∧ x = w.foldl (fun a i => ck_cmp a (gen i)) 44790
def ck_gok (gen : Nat → Nat) (m : Nat) : Prop := ∀ i, i < m → ck_pm (gen i)
theorem ck_G_id (gen : Nat → Nat) (m : Nat) : ck_G gen m 44790 := ⟨[], fun _ h => (nomatch h), rfl⟩
theorem ck_G_step {gen : Nat → Nat} {m x i : Nat} (h : ck_G gen m x) (hi : i < m) : ck_G gen m (ck_cmp x (gen i)) := by
  obtain ⟨w, hw, rfl⟩ := h
  refine ⟨w ++ [i], ?_, by rw [List.foldl_append]; rfl⟩
  intro j hj
  rcases List.mem_append.mp hj with h | h
  · exact hw j h
  · rw [List.mem_singleton.mp h]; exact hi
theorem ck_G_ind {gen : Nat → Nat} {m : Nat} {P : Nat → Prop} (h0 : P 44790) (hs : ∀ x, ck_G gen m x → P x → ∀ i, i < m → P (ck_cmp x (gen i))) {x : Nat} (hx : ck_G gen m x) : P x := by
  obtain ⟨w, hw, rfl⟩ := hx
  have key : ∀ (w : List Nat) (a : Nat), (∀ i, i ∈ w → i < m) → ck_G gen m a → P a → P (w.foldl (fun a i => ck_cmp a (gen i)) a) := by
    intro w
    induction w with
    | nil => intro a _ _ h; exact h
    | cons j w ih =>
      intro a hw ha hp
      have hj : j < m := hw j (List.mem_cons_self ..)
      exact ih _ (fun i hi => hw i (List.mem_cons_of_mem _ hi)) (ck_G_step ha hj) (hs a ha hp j hj)
  exact key w _ hw (ck_G_id gen m) h0
theorem ck_G_pm {gen : Nat → Nat} {m x : Nat} (hg : ck_gok gen m) (hx : ck_G gen m x) : ck_pm x :=
  ck_G_ind (P := ck_pm) ck_pm_id (fun _ _ h i hi => ck_pm_cmp h (hg i hi)) hx
theorem ck_G_mul {gen : Nat → Nat} {m x y : Nat} (hg : ck_gok gen m) (hx : ck_G gen m x) (hy : ck_G gen m y) : ck_G gen m (ck_cmp x y) :=
  ck_G_ind (P := fun y => ck_G gen m (ck_cmp x y)) (by rw [ck_cmp_id (ck_G_pm hg hx).1]; exact hx) (fun y _ h i hi => by rw [← ck_cmp_assoc]; exact ck_G_step h hi) hy
theorem ck_G_pw {gen : Nat → Nat} {m x : Nat} (hg : ck_gok gen m) (hx : ck_G gen m x) : ∀ n, ck_G gen m (ck_pw x n) := by
  intro n
  induction n with
  | zero => exact ck_G_id gen m
  | succ n ih => exact ck_G_mul hg ih hx
theorem ck_G_inv {gen : Nat → Nat} {m x : Nat} (hg : ck_gok gen m) (hx : ck_G gen m x) : ∃ y, ck_G gen m y ∧ ck_cmp x y = 44790 ∧ ck_cmp y x = 44790 := by
  have hp := ck_G_pm hg hx
  refine ⟨ck_pw x 59, ck_G_pw hg hx 59, ?_, ?_⟩
  · have e := ck_pw_add x 1 59
    rw [show ck_pw x 1 = x from ck_id_cmp hp.1] at e
    rw [← e]
    exact ck_pw60 hp
  · exact ck_pw60 hp
theorem ck_G_congr {gen gen' : Nat → Nat} {m : Nat} (h : ∀ i, i < m → gen i = gen' i) {x : Nat} (hx : ck_G gen m x) : ck_G gen' m x :=
  ck_G_ind (P := ck_G gen' m) (ck_G_id gen' m) (fun x _ hx i hi => by rw [h i hi]; exact ck_G_step hx hi) hx
/-! kinds -/
def ck_R (gen : Nat → Nat) (m c x y : Nat) : Prop := ∃ g, ck_G gen m g ∧ y = ck_act c g x
theorem ck_R_lt {gen : Nat → Nat} {m c x y : Nat} (hg : ck_gok gen m) (hc : 0 < c) (h : ck_R gen m c x y) : y < c ^ 6 := by
  obtain ⟨g, h1, rfl⟩ := h
  exact ck_act_lt x hc (ck_G_pm hg h1)
theorem ck_R_rf {gen : Nat → Nat} {m c x : Nat} (hc : 0 < c) (hx : x < c ^ 6) : ck_R gen m c x x := ⟨44790, ck_G_id gen m, (ck_act_id hc hx).symm⟩
theorem ck_R_sy {gen : Nat → Nat} {m c x y : Nat} (hg : ck_gok gen m) (hc : 0 < c) (hx : x < c ^ 6) (h : ck_R gen m c x y) : ck_R gen m c y x := by
  obtain ⟨g, h1, rfl⟩ := h
  obtain ⟨k, hk, e, _⟩ := ck_G_inv hg h1
  refine ⟨k, hk, ?_⟩
  rw [← ck_act_cmp x hc (ck_G_pm hg h1) (ck_G_pm hg hk), e, ck_act_id hc hx]
theorem ck_R_tr {gen : Nat → Nat} {m c x y z : Nat} (hg : ck_gok gen m) (hc : 0 < c) (h : ck_R gen m c x y) (h' : ck_R gen m c y z) : ck_R gen m c x z := by
  obtain ⟨g, h1, rfl⟩ := h
  obtain ⟨k, h2, rfl⟩ := h'
  exact ⟨ck_cmp g k, ck_G_mul hg h1 h2, (ck_act_cmp x hc (ck_G_pm hg h1) (ck_G_pm hg h2)).symm⟩
/-! counting -/
noncomputable def ck_ct (p : Nat → Prop) : Nat → Nat
  | 0 => 0
  | n + 1 => ck_ct p n + @ite Nat (p n) (Classical.propDecidable (p n)) 1 0
theorem ck_ct_t {p : Nat → Prop} {n : Nat} (h : p n) : ck_ct p (n + 1) = ck_ct p n + 1 := by
  rw [ck_ct, if_pos h]
theorem ck_ct_f {p : Nat → Prop} {n : Nat} (h : ¬ p n) : ck_ct p (n + 1) = ck_ct p n := by
  rw [ck_ct, if_neg h, Nat.add_zero]
theorem ck_ct_le (p : Nat → Prop) : ∀ n, ck_ct p n ≤ n := by
  intro n
  induction n with
  | zero => exact Nat.le_refl 0
  | succ n ih =>
    by_cases h : p n
    · rw [ck_ct_t h]; omega
    · rw [ck_ct_f h]; omega
theorem ck_ct_congr {p q : Nat → Prop} : ∀ {n : Nat}, (∀ i, i < n → (p i ↔ q i)) → ck_ct p n = ck_ct q n := by
  intro n
  induction n with
  | zero => intro _; rfl
  | succ n ih =>
    intro h
    have e := ih fun i hi => h i (by omega)
    by_cases hp : p n
    · rw [ck_ct_t hp, ck_ct_t ((h n (by omega)).mp hp), e]
    · rw [ck_ct_f hp, ck_ct_f (fun z => hp ((h n (by omega)).mpr z)), e]
/-- gr lists, without repeats, just what P holds of -/
def ck_En (gr : Nat → Nat) (n : Nat) (P : Nat → Prop) : Prop := (∀ x, P x ↔ ∃ e, e < n ∧ gr e = x) ∧ ∀ e, e < n → ∀ e', e' < n → gr e = gr e' → e = e'
theorem ck_nodup {gr : Nat → Nat} {n : Nat} (h : ∀ e, e < n → ∀ e', e' < n → gr e = gr e' → e = e') : ((List.range n).map gr).Nodup := by
  rw [List.nodup_iff_pairwise_ne, List.pairwise_map]
  refine List.Pairwise.imp_of_mem ?_ (List.nodup_iff_pairwise_ne.mp List.nodup_range)
  intro a b ha hb hab e
  exact hab (h a (List.mem_range.mp ha) b (List.mem_range.mp hb) e)
theorem ck_En_mem {gr : Nat → Nat} {n : Nat} {P : Nat → Prop} (h : ck_En gr n P) (x : Nat) : x ∈ (List.range n).map gr ↔ P x := by
  rw [h.1 x, List.mem_map]
  constructor
  · rintro ⟨e, he, rfl⟩
    exact ⟨e, List.mem_range.mp he, rfl⟩
  · rintro ⟨e, he, rfl⟩
    exact ⟨e, List.mem_range.mpr he, rfl⟩
theorem ck_ct_list (p : Nat → Prop) (gr : Nat → Nat) : ∀ n, ck_ct (fun e => p (gr e)) n = ((List.range n).map gr).countP (fun x => @decide (p x) (Classical.propDecidable (p x))) := by
  intro n
  induction n with
  | zero => rfl
  | succ n ih =>
    rw [List.range_succ, List.map_append, List.countP_append, ← ih]
    by_cases h : p (gr n)
    · rw [ck_ct_t (p := fun e => p (gr e)) h]
      simp [List.countP_cons, h]
    · rw [ck_ct_f (p := fun e => p (gr e)) h]
      simp [List.countP_cons, h]
theorem ck_En_ct {gr gr' : Nat → Nat} {n n' : Nat} {P : Nat → Prop} (h : ck_En gr n P) (h' : ck_En gr' n' P) (p : Nat → Prop) : ck_ct (fun e => p (gr e)) n = ck_ct (fun e => p (gr' e)) n' := by
  rw [ck_ct_list, ck_ct_list]
  refine List.Perm.countP_eq _ ((List.perm_ext_iff_of_nodup (ck_nodup h.2) (ck_nodup h'.2)).mpr fun x => ?_)
  rw [ck_En_mem h, ck_En_mem h']
theorem ck_En_len {gr gr' : Nat → Nat} {n n' : Nat} {P : Nat → Prop} (h : ck_En gr n P) (h' : ck_En gr' n' P) : n = n' := by
  have e := List.Perm.length_eq ((List.perm_ext_iff_of_nodup (ck_nodup h.2) (ck_nodup h'.2)).mpr fun x => by rw [ck_En_mem h, ck_En_mem h'])
  simpa using e
/-- at most 720 different rearrangements -/
theorem ck_720 {gr : Nat → Nat} {n : Nat} (h : ∀ e, e < n → ∀ e', e' < n → gr e = gr e' → e = e') (hp : ∀ e, e < n → ck_pm (gr e)) : n ≤ 720 := by
  have k := List.Nodup.length_le_of_subset (ck_nodup h) (l₂ := ck_L) (fun x hx => by
    obtain ⟨e, he, rfl⟩ := List.mem_map.mp hx
    exact ck_memL (hp e (List.mem_range.mp he)))
  rw [ck_L_len] at k
  simpa using k
end
section
/-! names of kinds, the list of the group as it grows; no printed predicate stands here either -/
theorem ck_least (P : Nat → Prop) (h : ∃ k, P k) : ∃ k, P k ∧ ∀ j, P j → k ≤ j := by
  obtain ⟨k, hk⟩ := h
  induction k using Nat.strongRecOn with
  | _ k ih =>
    by_cases z : ∃ j, j < k ∧ P j
    · obtain ⟨j, hj, hp⟩ := z
      exact ih j hj hp
    · exact ⟨k, hk, fun j hj => Nat.le_of_not_lt fun hl => z ⟨j, hl, hj⟩⟩
noncomputable def ck_nm (gen : Nat → Nat) (m c x : Nat) : Nat := Classical.epsilon fun y => ck_R gen m c x y ∧ ∀ z, ck_R gen m c x z → y ≤ z
section
variable {gen : Nat → Nat} {m c : Nat} (hg : ck_gok gen m) (hc : 0 < c)
theorem ck_nm_spec {x : Nat} (hc : 0 < c) (hx : x < c ^ 6) : ck_R gen m c x (ck_nm gen m c x) ∧ ∀ z, ck_R gen m c x z → ck_nm gen m c x ≤ z :=
  Classical.epsilon_spec (p := fun y => ck_R gen m c x y ∧ ∀ z, ck_R gen m c x z → y ≤ z) (ck_least _ ⟨x, ck_R_rf hc hx⟩)
theorem ck_nm_le {x : Nat} (hc : 0 < c) (hx : x < c ^ 6) : ck_nm gen m c x ≤ x := (ck_nm_spec hc hx).2 x (ck_R_rf hc hx)
theorem ck_nm_lt {x : Nat} (hc : 0 < c) (hx : x < c ^ 6) : ck_nm gen m c x < c ^ 6 := Nat.lt_of_le_of_lt (ck_nm_le hc hx) hx
theorem ck_nm_of (hg : ck_gok gen m) (hc : 0 < c) {x y : Nat} (hx : x < c ^ 6) (h : ck_R gen m c x y) : ck_nm gen m c x = ck_nm gen m c y := by
  have hy := ck_R_lt hg hc h
  have h1 := ck_nm_spec (gen := gen) (m := m) hc hx
  have h2 := ck_nm_spec (gen := gen) (m := m) hc hy
  exact Nat.le_antisymm (h1.2 _ (ck_R_tr hg hc h h2.1)) (h2.2 _ (ck_R_tr hg hc (ck_R_sy hg hc hx h) h1.1))
theorem ck_nm_iff (hg : ck_gok gen m) (hc : 0 < c) {x y : Nat} (hx : x < c ^ 6) (hy : y < c ^ 6) : ck_nm gen m c x = ck_nm gen m c y ↔ ck_R gen m c x y := by
  refine ⟨fun e => ?_, ck_nm_of hg hc hx⟩
  have h1 := (ck_nm_spec (gen := gen) (m := m) hc hx).1
  have h2 := (ck_nm_spec (gen := gen) (m := m) hc hy).1
  rw [← e] at h2
  exact ck_R_tr hg hc h1 (ck_R_sy hg hc hy h2)
theorem ck_nm_nm (hg : ck_gok gen m) (hc : 0 < c) {x : Nat} (hx : x < c ^ 6) : ck_nm gen m c (ck_nm gen m c x) = ck_nm gen m c x :=
  (ck_nm_of hg hc hx (ck_nm_spec hc hx).1).symm
end
theorem ck_ct_no {p : Nat → Prop} : ∀ {n : Nat}, (∀ i, i < n → ¬ p i) → ck_ct p n = 0 := by
  intro n
  induction n with
  | zero => intro _; rfl
  | succ n ih => intro h; rw [ck_ct_f (h n (by omega))]; exact ih fun i hi => h i (by omega)
theorem ck_ct_ins {p : Nat → Prop} {a : Nat} (hp : ¬ p a) : ∀ {n : Nat}, a < n → ck_ct (fun y => p y ∨ y = a) n = ck_ct p n + 1 := by
  intro n
  induction n with
  | zero => intro z; omega
  | succ n ih =>
    intro ha
    by_cases e : a = n
    · subst e
      rw [ck_ct_t (p := fun y => p y ∨ y = a) (Or.inr rfl), ck_ct_f hp]
      exact congrArg (· + 1) (ck_ct_congr fun i hi => ⟨fun h => h.elim id fun z => by omega, Or.inl⟩)
    · by_cases hn : p n
      · rw [ck_ct_t (p := fun y => p y ∨ y = a) (Or.inl hn), ck_ct_t hn, ih (by omega)]
      · rw [ck_ct_f (p := fun y => p y ∨ y = a) (fun z => z.elim hn fun w => e w.symm), ck_ct_f hn, ih (by omega)]
/-! the list of the group as it grows: e is the place in work, i the generator -/
def ck_app (gr : Nat → Nat) (n x : Nat) : Nat → Nat := fun j => if j = n then x else gr j
theorem ck_app_s {gr : Nat → Nat} {n x : Nat} : ck_app gr n x n = x := if_pos rfl
theorem ck_app_n {gr : Nat → Nat} {n x j : Nat} (h : j < n) : ck_app gr n x j = gr j := if_neg (by omega)
/-- members of the group, no repeats, the identity first -/
def ck_B (gen : Nat → Nat) (m : Nat) (gr : Nat → Nat) (n : Nat) : Prop := 0 < n ∧ gr 0 = 44790 ∧ (∀ e, e < n → ck_G gen m (gr e)) ∧ ∀ e, e < n → ∀ e', e' < n → gr e = gr e' → e = e'
def ck_has (gr : Nat → Nat) (n x : Nat) : Prop := ∃ q, q < n ∧ gr q = x
theorem ck_B_0 (gen : Nat → Nat) (m : Nat) {gr : Nat → Nat} (h : gr 0 = 44790) : ck_B gen m gr 1 := by
  refine ⟨Nat.one_pos, h, ?_, ?_⟩
  · intro e he
    have e0 : e = 0 := by omega
    rw [e0, h]
    exact ck_G_id gen m
  · intro e he e' he' _
    omega
theorem ck_B_app {gen : Nat → Nat} {m : Nat} {gr : Nat → Nat} {n x : Nat} (h : ck_B gen m gr n) (hx : ck_G gen m x) (hn : ¬ ck_has gr n x) : ck_B gen m (ck_app gr n x) (n + 1) := by
  obtain ⟨h0, h1, h2, h3⟩ := h
  refine ⟨by omega, by rw [ck_app_n h0]; exact h1, ?_, ?_⟩
  · intro e he
    by_cases z : e = n
    · rw [z, ck_app_s]; exact hx
    · rw [ck_app_n (by omega)]; exact h2 e (by omega)
  · intro e he e' he' q
    by_cases z : e = n
    · by_cases z' : e' = n
      · rw [z, z']
      · rw [z, ck_app_s, ck_app_n (by omega)] at q
        exact absurd ⟨e', by omega, q.symm⟩ hn
    · by_cases z' : e' = n
      · rw [z', ck_app_s, ck_app_n (by omega)] at q
        exact absurd ⟨e, by omega, q⟩ hn
      · rw [ck_app_n (by omega), ck_app_n (by omega)] at q
        exact h3 e (by omega) e' (by omega) q
theorem ck_has_app {gr : Nat → Nat} {n x y : Nat} (h : ck_has gr n y) : ck_has (ck_app gr n x) (n + 1) y := by
  obtain ⟨q, hq, e⟩ := h
  exact ⟨q, by omega, by rw [ck_app_n hq]; exact e⟩
theorem ck_has_new {gr : Nat → Nat} {n x : Nat} : ck_has (ck_app gr n x) (n + 1) x := ⟨n, by omega, ck_app_s⟩
theorem ck_B_le {gen : Nat → Nat} {m : Nat} {gr : Nat → Nat} {n : Nat} (hg : ck_gok gen m) (h : ck_B gen m gr n) : n ≤ 720 :=
  ck_720 h.2.2.2 fun e he => ck_G_pm hg (h.2.2.1 e he)
theorem ck_B_lt {gen : Nat → Nat} {m : Nat} {gr : Nat → Nat} {n x : Nat} (hg : ck_gok gen m) (h : ck_B gen m gr n) (hx : ck_G gen m x) (hn : ¬ ck_has gr n x) : n < 720 :=
  ck_B_le hg (ck_B_app h hx hn)
theorem ck_B_En {gen : Nat → Nat} {m : Nat} {gr : Nat → Nat} {n : Nat} (h : ck_B gen m gr n) (hcl : ∀ e, e < n → ∀ i, i < m → ck_has gr n (ck_cmp (gr e) (gen i))) : ck_En gr n (ck_G gen m) := by
  refine ⟨fun x => ⟨fun hx => ?_, ?_⟩, h.2.2.2⟩
  · refine ck_G_ind (P := fun x => ∃ e, e < n ∧ gr e = x) ⟨0, h.1, h.2.1⟩ ?_ hx
    rintro x _ ⟨e, he, rfl⟩ i hi
    exact hcl e he i hi
  · rintro ⟨e, he, rfl⟩
    exact h.2.2.1 e he
end
section
/-! rows pasted from kit/rows -/
theorem pk_us {f : Nat → Int32} {k : Nat} {x : Int32} : upd f k x k = x := if_pos rfl
theorem pk_un {f : Nat → Int32} {k j : Nat} {x : Int32} (h : j ≠ k) : upd f k x j = f j := if_neg h
theorem pk_sub {a b : Nat} (h : b ≤ a) : nI a - nI b = nI (a - b) := by
  obtain ⟨c, rfl⟩ : ∃ c, a = c + b := ⟨a - b, by omega⟩
  rw [← nI_add, Int32.add_sub_cancel, Nat.add_sub_cancel]
theorem pk_m1 (n : Nat) : nI (n + 1) + (-1) = nI n := by
  rw [← nI_1, Int32.add_assoc, show (1 : Int32) + (-1) = 0 from rfl, Int32.add_zero]
theorem pk_mul (a b : Nat) : nI a * nI b = nI (a * b) := (Int32.ofNat_mul a b).symm
theorem pk_div {a d : Nat} (ha : a < 2 ^ 31) (h0 : 0 < d) (hd : d < 2 ^ 31) : nI a / nI d = nI (a / d) := by
  apply Int32.toInt_inj.mp
  rw [lg_idiv_nonneg (by rw [nI_toInt ha]; omega) (by rw [nI_toInt hd]; omega), nI_toInt ha, nI_toInt hd, nI_toInt (Nat.lt_of_le_of_lt (Nat.div_le_self a d) ha)]
  first | rfl | exact (Int.natCast_ediv _ _).symm
theorem pk_rem {a d : Nat} (ha : a < 2 ^ 31) (h0 : 0 < d) (hd : d < 2 ^ 31) : nI a - nI a / nI d * nI d = nI (a % d) := by
  rw [pk_div ha h0 hd, pk_mul, pk_sub (Nat.div_mul_le_self a d)]
  exact congrArg nI (by have := Nat.div_add_mod' a d; omega)
theorem pk_ix (x : Int32) {n : Nat} (hn : n < 2 ^ 31) : x < 0 ∨ nI n ≤ x ∨ ∃ j : Nat, j < n ∧ x = nI j := by
  by_cases h : x < 0
  · exact Or.inl h
  · obtain ⟨j, hj, rfl⟩ := nI_of h
    by_cases h2 : j < n
    · exact Or.inr (Or.inr ⟨j, h2, rfl⟩)
    · exact Or.inr (Or.inl (nI_le (by omega) hj))
theorem pk_le {x y : Int32} {A B : Prop} (a b : Nat) (f : a ≤ b → A) (g : b < a → B) (hx : x = nI a := by rfl) (hy : y = nI b := by rfl) (ha : a < 2 ^ 31 := by omega) (hb : b < 2 ^ 31 := by omega) : (x ≤ y → A) ∧ (¬ x ≤ y → B) := by
  subst hx hy
  rw [nI_leI ha hb]
  exact ⟨f, fun z => g (by omega)⟩
theorem pk_lt {x y : Int32} {A B : Prop} (a b : Nat) (f : a < b → A) (g : b ≤ a → B) (hx : x = nI a := by rfl) (hy : y = nI b := by rfl) (ha : a < 2 ^ 31 := by omega) (hb : b < 2 ^ 31 := by omega) : (x < y → A) ∧ (¬ x < y → B) := by
  subst hx hy
  rw [nI_ltI ha hb]
  exact ⟨f, fun z => g (by omega)⟩
theorem pk_eq {x y : Int32} {A B : Prop} (a b : Nat) (f : a = b → A) (g : a ≠ b → B) (hx : x = nI a := by rfl) (hy : y = nI b := by rfl) (ha : a < 2 ^ 31 := by omega) (hb : b < 2 ^ 31 := by omega) : (x = y → A) ∧ (¬ x = y → B) := by
  subst hx hy
  rw [nI_eq ha hb]
  exact ⟨f, g⟩
theorem pk_in {x : Int32} (n N : Nat) (h : n < N) (hx : x = nI n := by rfl) (hN : N < 2 ^ 31 := by omega) : vp_in x N := by
  subst hx
  exact vp_in_nI h hN
theorem pk_cl {x : Int32} (n : Nat) (hx : x = nI n := by rfl) (h : n < 2 ^ 31 := by omega) : x.toNatClampNeg = n := by
  subst hx
  exact nI_clamp h
theorem sb_cl0 : (0 : Int32).toNatClampNeg = 0 := by decide
theorem nx_and (a b : Nat) : nI a &&& nI b = nI (a &&& b) := by
  apply Int32.toBitVec_inj.1
  show BitVec.ofNat 32 a &&& BitVec.ofNat 32 b = BitVec.ofNat 32 (a &&& b)
  apply BitVec.eq_of_getLsbD_eq
  intro i hi
  simp [hi]
end
section
/-! digits, powers, one after the other, is a rearrangement: both sides -/
theorem cb_or (a b : Nat) : nI a ||| nI b = nI (a ||| b) := by
  apply Int32.toBitVec_inj.1
  show BitVec.ofNat 32 a ||| BitVec.ofNat 32 b = BitVec.ofNat 32 (a ||| b)
  apply BitVec.eq_of_getLsbD_eq
  intro i hi
  simp [hi]
theorem cb_sh : ∀ d, d < 6 → (1 : Int32) <<< (nI d &&& 31) = nI (2 ^ d) := by decide +kernel
theorem cb_bit : ∀ s, s < 64 → ∀ a, a < 6 → ((nI s >>> (nI a &&& 31)) &&& 1) = nI (if s.testBit a then 1 else 0) := by decide +kernel
theorem cb_or_lt {s d : Nat} (hs : s < 64) (hd : d < 6) : s ||| 2 ^ d < 64 :=
  Nat.or_lt_two_pow (n := 6) hs (Nat.pow_lt_pow_right (by decide) hd)
theorem cb_c6 {c : Nat} (hc : c ≤ 3) : c ^ 6 ≤ 729 := Nat.pow_le_pow_left hc 6
theorem cb_dd (x b d : Nat) : x / b / b ^ d = x / b ^ (d + 1) := by
  rw [Nat.div_div_eq_div_mul, Nat.pow_succ, Nat.mul_comm]
theorem cx_dig {post : Int32 → Prop} {b k : Nat} (hb : 0 < b) (hb2 : b < 2 ^ 31) (hk : k < 2 ^ 31) : ∀ d i x : Nat, i + d = k → x < 2 ^ 31 → post (nI (x / b ^ d % b)) → wX_digit_12 post (nI b) (nI k) (d + 1) (nI x) (nI i) := by
  intro d
  induction d with
  | zero =>
    intro i x hi hx h
    refine br_t (nI_le (by omega) (by omega)) ⟨nI_ne0 hb hb2, ?_⟩
    rw [pk_rem hx hb hb2]
    rw [Nat.pow_zero, Nat.div_one] at h
    exact h
  | succ d ih =>
    intro i x hi hx h
    refine br_f (nI_ge (by omega) hk) ⟨nI_ne0 hb hb2, nm_r (pk_div hx hb hb2) (nm_r (nI_1 i) ?_)⟩
    refine ih (i + 1) (x / b) (by omega) (Nat.lt_of_le_of_lt (Nat.div_le_self x b) hx) ?_
    rw [cb_dd]
    exact h
theorem cx_digit {post : Int32 → Prop} {p0 p1 p2 : Int32} (x b k : Nat) (e0 : p0 = nI x) (e1 : p1 = nI b) (e2 : p2 = nI k) (hb : 0 < b) (hb2 : b < 2 ^ 31) (hk : k < 2 ^ 31) (hx : x < 2 ^ 31) (h : post (nI (ck_dg b x k))) : wpX_digit post p0 p1 p2 := by
  subst e0 e1 e2
  by_cases z : b = 1
  · subst z
    refine br_f (nI_nlt (a := 1) (b := 1) (by omega) (by omega)) ?_
    rw [show ck_dg 1 x k = 0 from Nat.mod_one _] at h
    exact h
  · exact br_t (nI_lt (a := 1) (by omega) hb2) ⟨k + 1, cx_dig hb hb2 hk k 0 x (by omega) hx h⟩
theorem cy_dig {post : Int32 → Prop} {f1 f2 f3 : Int32} {a1 a2 a3 a4 a5 a6 : Nat → Int32} {b k : Nat} (hb : 0 < b) (hb2 : b < 2 ^ 31) (hk : k < 2 ^ 31) : ∀ d i x : Nat, i + d = k → x < 2 ^ 31 → post (nI (x / b ^ d % b)) → wY_digit_6 post (nI b) (nI k) f1 f2 f3 a1 a2 a3 a4 a5 a6 (d + 1) (nI x) (nI i) := by
  intro d
  induction d with
  | zero =>
    intro i x hi hx h
    refine br_t (nI_le (by omega) (by omega)) ⟨nI_ne0 hb hb2, ?_⟩
    rw [pk_rem hx hb hb2]
    rw [Nat.pow_zero, Nat.div_one] at h
    exact h
  | succ d ih =>
    intro i x hi hx h
    refine br_f (nI_ge (by omega) hk) ⟨nI_ne0 hb hb2, nm_r (pk_div hx hb hb2) (nm_r (nI_1 i) ?_)⟩
    refine ih (i + 1) (x / b) (by omega) (Nat.lt_of_le_of_lt (Nat.div_le_self x b) hx) ?_
    rw [cb_dd]
    exact h
theorem cy_digit {post : Int32 → Prop} {u : SY} {p0 p1 p2 : Int32} (x b k : Nat) (e0 : p0 = nI x) (e1 : p1 = nI b) (e2 : p2 = nI k) (hb : 0 < b) (hb2 : b < 2 ^ 31) (hk : k < 2 ^ 31) (hx : x < 2 ^ 31) (h : post (nI (ck_dg b x k))) : wpY_digit post u p0 p1 p2 := by
  subst e0 e1 e2
  obtain ⟨f1, f2, f3, a1, a2, a3, a4, a5, a6⟩ := u
  exact ⟨k + 1, cy_dig hb hb2 hk k 0 x (by omega) hx h⟩
theorem cx_pow {post : Int32 → Prop} {b k : Nat} (hk : k < 2 ^ 31) (h : post (nI (b ^ k))) : ∀ d i : Nat, i + d = k → wX_power_4 post (nI b) (nI k) (d + 1) (nI (b ^ i)) (nI i) := by
  intro d
  induction d with
  | zero =>
    intro i hi
    have e : i = k := by omega
    subst e
    exact br_t (nI_le (by omega) hk) h
  | succ d ih =>
    intro i hi
    refine br_f (nI_ge (by omega) hk) (nm_r (e' := nI (b ^ (i + 1))) ?_ (nm_r (nI_1 i) (ih (i + 1) (by omega))))
    rw [pk_mul, Nat.pow_succ]
theorem cx_power {post : Int32 → Prop} {p0 p1 : Int32} (b k : Nat) (e0 : p0 = nI b) (e1 : p1 = nI k) (hk : k < 2 ^ 31) (h : post (nI (b ^ k))) : wpX_power post p0 p1 := by
  subst e0 e1
  exact ⟨k + 1, cx_pow hk h k 0 (by omega)⟩
theorem cy_cols {post : Int32 → Prop} {f1 f2 f3 : Int32} {a1 a2 a3 a4 a5 a6 : Nat → Int32} {c : Nat} (e2 : f2 = nI c) (h : post (nI (c ^ 6))) : ∀ d i : Nat, i + d = 6 → wY_colourings_4 post f1 f2 f3 a1 a2 a3 a4 a5 a6 (d + 1) (nI (c ^ i)) (nI i) := by
  subst e2
  intro d
  induction d with
  | zero =>
    intro i hi
    have e : i = 6 := by omega
    subst e
    exact br_t (nI_le (a := 6) (b := 6) (by omega) (by omega)) h
  | succ d ih =>
    intro i hi
    refine br_f (nI_ge (b := 6) (by omega) (by omega)) (nm_r (e' := nI (c ^ (i + 1))) ?_ (nm_r (nI_1 i) (ih (i + 1) (by omega))))
    rw [pk_mul, Nat.pow_succ]
theorem cy_colourings {post : Int32 → Prop} {u : SY} (c : Nat) (e2 : u.2.1 = nI c) (h : post (nI (c ^ 6))) : wpY_colourings post u := by
  obtain ⟨f1, f2, f3, a1, a2, a3, a4, a5, a6⟩ := u
  exact ⟨7, cy_cols e2 h 6 0 (by omega)⟩
theorem cx_oat {post : Int32 → Prop} {a b : Nat} (ha : a < 46656) (hb : b < 46656) (h : post (nI (ck_cmp a b))) : ∀ d i : Nat, i + d = 6 → wX_oneAfterTheOther_4 post (nI a) (nI b) (d + 1) (nI (ck_enc 6 (fun p => ck_dg 6 b (ck_dg 6 a p)) i)) (nI i) := by
  intro d
  induction d with
  | zero =>
    intro i hi
    have e : i = 6 := by omega
    subst e
    exact br_t (nI_le (a := 6) (b := 6) (by omega) (by omega)) h
  | succ d ih =>
    intro i hi
    refine br_f (nI_ge (b := 6) (by omega) (by omega)) ?_
    refine cx_digit a 6 i rfl rfl rfl (by omega) (by omega) (by omega) (by omega) ?_
    refine cx_digit b 6 (ck_dg 6 a i) rfl rfl rfl (by omega) (by omega) (by have := ck_d6 a i; omega) (by omega) ?_
    refine cx_power 6 i rfl rfl (by omega) ?_
    refine nm_r (e' := nI (ck_enc 6 (fun p => ck_dg 6 b (ck_dg 6 a p)) (i + 1))) ?_ (nm_r (nI_1 i) (ih (i + 1) (by omega)))
    rw [pk_mul, nI_add]
    rfl
theorem cx_oneAfter {post : Int32 → Prop} {p0 p1 : Int32} (a b : Nat) (e0 : p0 = nI a) (e1 : p1 = nI b) (ha : a < 46656) (hb : b < 46656) (h : post (nI (ck_cmp a b))) : wpX_oneAfterTheOther post p0 p1 := by
  subst e0 e1
  exact ⟨7, cx_oat ha hb h 6 0 (by omega)⟩
/-! is it a rearrangement -/
def ck_sn (g : Nat) : Nat → Nat
  | 0 => 0
  | n + 1 => ck_sn g n ||| 2 ^ ck_dg 6 g n
theorem ck_sn_lt (g : Nat) : ∀ n, ck_sn g n < 64 := by
  intro n
  induction n with
  | zero => exact (by decide : 0 < 64)
  | succ n ih => exact cb_or_lt ih (ck_d6 g n)
theorem ck_sn_bit (g p : Nat) : ∀ n, (ck_sn g n).testBit p = true ↔ ∃ i, i < n ∧ ck_dg 6 g i = p := by
  intro n
  induction n with
  | zero =>
    constructor
    · intro h
      rw [show ck_sn g 0 = 0 from rfl, Nat.zero_testBit] at h
      exact absurd h (by decide)
    · rintro ⟨i, hi, _⟩
      omega
  | succ n ih =>
    rw [show ck_sn g (n + 1) = ck_sn g n ||| 2 ^ ck_dg 6 g n from rfl, Nat.testBit_or, Bool.or_eq_true, ih, Nat.testBit_two_pow]
    constructor
    · rintro (⟨i, hi, e⟩ | h)
      · exact ⟨i, by omega, e⟩
      · exact ⟨n, by omega, of_decide_eq_true h⟩
    · rintro ⟨i, hi, e⟩
      by_cases z : i = n
      · subst z
        exact Or.inr (decide_eq_true e)
      · exact Or.inl ⟨i, by omega, e⟩
theorem ck_sn_pm {g : Nat} (hg : g < 46656) (h : ck_sn g 6 = 63) : ck_pm g := by
  refine ⟨hg, fun i hi j hj e => ?_⟩
  have sur : ∀ p, p < 6 → ∃ i, i < 6 ∧ ck_dg 6 g i = p := by
    intro p hp
    refine (ck_sn_bit g p 6).mp ?_
    rw [h]
    exact (by decide : ∀ p, p < 6 → Nat.testBit 63 p = true) p hp
  apply Classical.byContradiction
  intro hij
  have k := List.Nodup.length_le_of_subset (List.nodup_range (n := 6)) (l₂ := ((List.range 6).erase j).map (ck_dg 6 g)) (fun p hp => by
    obtain ⟨q, hq, e2⟩ := sur p (List.mem_range.mp hp)
    refine List.mem_map.mpr ?_
    by_cases z : q = j
    · refine ⟨i, (List.mem_erase_of_ne hij).mpr (List.mem_range.mpr hi), ?_⟩
      rw [e, ← z, e2]
    · exact ⟨q, (List.mem_erase_of_ne z).mpr (List.mem_range.mpr hq), e2⟩)
  rw [List.length_map, List.length_erase_of_mem (List.mem_range.mpr hj), List.length_range] at k
  omega
theorem cx_isR {post : Int32 → Prop} {g : Nat} (hg : g < 46656) (h1 : ck_sn g 6 = 63 → post 1) (h0 : ck_sn g 6 ≠ 63 → post 0) : ∀ d i : Nat, i + d = 6 → wX_isRearrangement_16 post (nI g) (d + 1) (nI (ck_sn g i)) (nI i) := by
  intro d
  induction d with
  | zero =>
    intro i hi
    have e : i = 6 := by omega
    subst e
    have := ck_sn_lt g 6
    exact br_t (nI_le (a := 6) (b := 6) (by omega) (by omega)) (pk_eq (ck_sn g 6) 63 h1 h0)
  | succ d ih =>
    intro i hi
    refine br_f (nI_ge (b := 6) (by omega) (by omega)) ?_
    refine cx_digit g 6 i rfl rfl rfl (by omega) (by omega) (by omega) (by omega) ?_
    refine nm_r (e' := nI (ck_sn g (i + 1))) ?_ (nm_r (nI_1 i) (ih (i + 1) (by omega)))
    rw [cb_sh _ (ck_d6 g i), cb_or]
    rfl
theorem cx_isRear {post : Int32 → Prop} (p0 : Int32) (h1 : ∀ g, p0 = nI g → g < 46656 → ck_sn g 6 = 63 → post 1) (h0 : ¬ (∃ g, p0 = nI g ∧ g < 46656 ∧ ck_sn g 6 = 63) → post 0) : wpX_isRearrangement post p0 := by
  rcases pk_ix p0 (n := 46656) (by omega) with h | h | ⟨g, hg, rfl⟩
  · refine br_t h (h0 ?_)
    rintro ⟨g, rfl, hg, _⟩
    exact nI_pos (by omega) h
  · have hp : ¬ p0 < 0 := Int32.not_lt.mpr (Int32.le_trans (by decide) h)
    refine br_f hp (br_f (Int32.not_lt.mpr h) (h0 ?_))
    rintro ⟨g, rfl, hg, _⟩
    exact nI_ge (b := 46656) hg (by omega) h
  · refine br_f (nI_pos (by omega)) (br_t (nI_lt (b := 46656) hg (by omega)) ⟨7, cx_isR hg (fun z => h1 g rfl hg z) (fun z => h0 ?_) 6 0 (by omega)⟩)
    rintro ⟨g', e, hg', z'⟩
    rw [nI_eq (by omega) (by omega)] at e
    exact z (e ▸ z')
theorem cy_isRneg {post : Int32 → Prop} {f1 f2 f3 : Int32} {a1 a2 a3 a4 a5 a6 : Nat → Int32} {p0 : Int32} (hp : p0 < 0) (h0 : post 0) : ∀ d i : Nat, i + d = 6 → wY_isRearrangement_4 post p0 f1 f2 f3 a1 a2 a3 a4 a5 a6 (d + 1) 0 (nI i) := by
  have hn : ¬ (0 : Int32) ≤ p0 := Int32.not_le.mpr hp
  intro d
  induction d with
  | zero =>
    intro i hi
    have e : i = 6 := by omega
    subst e
    refine br_t (nI_le (a := 6) (b := 6) (by omega) (by omega)) (br_f ?_ (br_f (by decide) h0))
    exact fun z => hn (Int32.le_trans (by decide) z)
  | succ d ih =>
    intro i hi
    exact br_f (nI_ge (b := 6) (by omega) (by omega)) (br_f hn (nm_r (nI_1 i) (ih (i + 1) (by omega))))
theorem cy_isR {post : Int32 → Prop} {f1 f2 f3 : Int32} {a1 a2 a3 a4 a5 a6 : Nat → Int32} {g : Nat} (hg : g < 2 ^ 31) (h1 : g < 46656 → ck_sn g 6 = 63 → post 1) (h0 : ¬ (g < 46656 ∧ ck_sn g 6 = 63) → post 0) : ∀ d i : Nat, i + d = 6 → wY_isRearrangement_4 post (nI g) f1 f2 f3 a1 a2 a3 a4 a5 a6 (d + 1) (nI (ck_sn g i)) (nI i) := by
  intro d
  induction d with
  | zero =>
    intro i hi
    have e : i = 6 := by omega
    subst e
    have := ck_sn_lt g 6
    refine br_t (nI_le (a := 6) (b := 6) (by omega) (by omega)) (pk_le 46656 g (fun z => h0 fun w => by omega) (fun z => ?_))
    exact pk_eq (ck_sn g 6) 63 (h1 z) (fun w => h0 fun y => w y.2)
  | succ d ih =>
    intro i hi
    refine br_f (nI_ge (b := 6) (by omega) (by omega)) (br_t (nI_pos' hg) ?_)
    refine cy_digit g 6 i rfl rfl rfl (by omega) (by omega) (by omega) hg ?_
    refine nm_r (e' := nI (ck_sn g (i + 1))) ?_ (nm_r (nI_1 i) (ih (i + 1) (by omega)))
    rw [cb_sh _ (ck_d6 g i), cb_or]
    rfl
theorem cy_isRear {post : Int32 → Prop} {u : SY} (p0 : Int32) (h1 : ∀ g, p0 = nI g → g < 46656 → ck_sn g 6 = 63 → post 1) (h0 : ¬ (∃ g, p0 = nI g ∧ g < 46656 ∧ ck_sn g 6 = 63) → post 0) : wpY_isRearrangement post u p0 := by
  obtain ⟨f1, f2, f3, a1, a2, a3, a4, a5, a6⟩ := u
  by_cases hp : p0 < 0
  · refine ⟨7, cy_isRneg hp (h0 ?_) 6 0 (by omega)⟩
    rintro ⟨g, rfl, hg, _⟩
    exact nI_pos (by omega) hp
  · obtain ⟨g, hg, rfl⟩ := nI_of hp
    refine ⟨7, cy_isR hg (fun z w => h1 g rfl z w) (fun z => h0 ?_) 6 0 (by omega)⟩
    rintro ⟨g', e, hg', z'⟩
    rw [nI_eq hg (by omega)] at e
    subst e
    exact z ⟨hg', z'⟩
end
section
/-! X: the group is listed -/
/-- gr' goes on from gr -/
def ck_ext2 (gr : Nat → Nat) (n : Nat) (gr' : Nat → Nat) (n' : Nat) : Prop := n ≤ n' ∧ ∀ e, e < n → gr' e = gr e
theorem ck_ext2_rf (gr : Nat → Nat) (n : Nat) : ck_ext2 gr n gr n := ⟨Nat.le_refl n, fun _ _ => rfl⟩
theorem ck_ext2_app (gr : Nat → Nat) (n x : Nat) : ck_ext2 gr n (ck_app gr n x) (n + 1) := ⟨Nat.le_succ n, fun _ h => ck_app_n h⟩
theorem ck_ext2_has {gr gr' : Nat → Nat} {n n' x : Nat} (h : ck_ext2 gr n gr' n') (hx : ck_has gr n x) : ck_has gr' n' x := by
  obtain ⟨q, hq, e⟩ := hx
  exact ⟨q, Nat.lt_of_lt_of_le hq h.1, (h.2 q hq).trans e⟩
theorem ck_updA {A : Nat → Int32} {gr : Nat → Nat} {n x : Nat} (eA : ∀ e, e < n → A e = nI (gr e)) : ∀ e, e < n + 1 → upd A n (nI x) e = nI (ck_app gr n x e) := by
  intro e he
  by_cases z : e = n
  · subst z
    rw [pk_us, ck_app_s]
  · rw [pk_un z, ck_app_n (by omega), eA e (by omega)]
/-- places before e are worked off -/
def ck_wo (gen : Nat → Nat) (m : Nat) (gr : Nat → Nat) (n e : Nat) : Prop := ∀ e', e' < e → ∀ j, j < m → ck_has gr n (ck_cmp (gr e') (gen j))
theorem ck_wo_ext {gen : Nat → Nat} {m : Nat} {gr gr' : Nat → Nat} {n n' e : Nat} (h : ck_ext2 gr n gr' n') (he : e ≤ n) (w : ck_wo gen m gr n e) : ck_wo gen m gr' n' e := by
  intro e' he' j hj
  rw [h.2 e' (by omega)]
  exact ck_ext2_has h (w e' he' j hj)
section
variable {gc go cc cn : Int32} {ag A kn ks : Nat → Int32} {gen : Nat → Nat} {m : Nat}
theorem cx_inG {post : Int32 → Prop} {gr : Nat → Nat} {n x : Nat} (eo : go = nI n) (hn : n ≤ 720) (eA : ∀ e, e < n → A e = nI (gr e)) (hx : x < 2 ^ 31) (hb : ∀ e, e < n → gr e < 2 ^ 31) (h1 : ck_has gr n x → post 1) (h0 : ¬ ck_has gr n x → post 0) : ∀ d i : Nat, i + d = n → (∀ j, j < i → gr j ≠ x) → wX_isInGroup_2 post (nI x) gc go cc cn ag A kn ks (d + 1) (nI i) := by
  subst eo
  intro d
  induction d with
  | zero =>
    intro i hi hno
    refine br_t (nI_le (by omega) (by omega)) (h0 ?_)
    rintro ⟨q, hq, e⟩
    exact hno q (by omega) e
  | succ d ih =>
    intro i hi hno
    refine br_f (nI_ge (by omega) (by omega)) ⟨vp_in_nI (by omega) (by omega), ?_⟩
    have hbi := hb i (by omega)
    refine pk_eq (gr i) x (fun e => h1 ⟨i, by omega, e⟩) (fun e => nm_r (nI_1 i) (ih (i + 1) (by omega) ?_)) (by rw [nI_clamp (by omega), eA i (by omega)])
    intro j hj
    by_cases z : j = i
    · rw [z]; exact e
    · exact hno j (by omega)
theorem cx_enlist {post : SX → Prop} {gr : Nat → Nat} {n x : Nat} {p0 : Int32} (e0 : p0 = nI x) (hg : ck_gok gen m) (hB : ck_B gen m gr n) (hx : ck_G gen m x) (eo : go = nI n) (eA : ∀ e, e < n → A e = nI (gr e))
    (H : ∀ (go' : Int32) (A' : Nat → Int32) (gr' : Nat → Nat) (n' : Nat), ck_B gen m gr' n' → go' = nI n' → (∀ e, e < n' → A' e = nI (gr' e)) → ck_ext2 gr n gr' n' → ck_has gr' n' x → post (gc, go', cc, cn, ag, A', kn, ks)) :
    wpX_enlist post (gc, go, cc, cn, ag, A, kn, ks) p0 := by
  subst e0
  have hn := ck_B_le hg hB
  have hpx := (ck_G_pm hg hx).1
  have hb : ∀ e, e < n → gr e < 2 ^ 31 := fun e he => Nat.lt_trans (ck_G_pm hg (hB.2.2.1 e he)).1 (by decide)
  refine ⟨n + 1, cx_inG eo hn eA (by omega) hb ?_ ?_ n 0 (by omega) (fun j hj => by omega)⟩
  · intro hh
    exact br_f (by decide) (H go A gr n hB eo eA (ck_ext2_rf gr n) hh)
  · intro hh
    have hl := ck_B_lt hg hB hx hh
    subst eo
    refine br_t rfl (br_f (nI_ge (b := 720) hl (by omega)) ⟨vp_in_nI hl (by omega), ?_⟩)
    rw [nI_clamp (by omega)]
    refine nm_e (nm_r (nI_1 n) ?_)
    exact H _ _ _ _ (ck_B_app hB hx hh) rfl (ck_updA eA) (ck_ext2_app gr n x) ck_has_new
theorem cx_cl32 {post : SX → Prop} {J15 : Int32 → Int32 → Int32 → Int32 → Int32 → (Nat → Int32) → (Nat → Int32) → (Nat → Int32) → (Nat → Int32) → Prop} {e : Nat} (hg : ck_gok gen m) (hm : m ≤ 3) (eg : ∀ i, i < m → ag i = nI (gen i))
    (H : ∀ (go' : Int32) (A' : Nat → Int32) (gr' : Nat → Nat) (n' : Nat), ck_B gen m gr' n' → go' = nI n' → (∀ e, e < n' → A' e = nI (gr' e)) → e < n' → ck_wo gen m gr' n' (e + 1) → J15 (nI (e + 1)) (nI m) go' cc cn ag A' kn ks) :
    ∀ d i : Nat, i + d = m → ∀ (go : Int32) (A : Nat → Int32) (gr : Nat → Nat) (n : Nat), ck_B gen m gr n → go = nI n → (∀ e, e < n → A e = nI (gr e)) → e < n → ck_wo gen m gr n e → (∀ j, j < i → ck_has gr n (ck_cmp (gr e) (gen j))) → wX_closeGroup_32 post J15 (nI e) (d + 1) (nI i) (nI m) go cc cn ag A kn ks := by
  intro d
  induction d with
  | zero =>
    intro i hi go A gr n hB eo eA he hw hj
    refine br_t (nI_le (by omega) (by omega)) (nm_r (nI_1 e) (H go A gr n hB eo eA he ?_))
    intro e' he' j hjm
    by_cases z : e' = e
    · rw [z]; exact hj j (by omega)
    · exact hw e' (by omega) j hjm
  | succ d ih =>
    intro i hi go A gr n hB eo eA he hw hj
    have hn := ck_B_le hg hB
    refine br_f (nI_ge (by omega) (by omega)) ⟨vp_in_nI (by omega) (by omega), vp_in_nI (by omega) (by omega), ?_⟩
    have hG := hB.2.2.1 e he
    refine cx_oneAfter (gr e) (gen i) (by rw [nI_clamp (by omega), eA e he]) (by rw [nI_clamp (by omega), eg i (by omega)]) (ck_G_pm hg hG).1 (hg i (by omega)).1 ?_
    refine cx_enlist rfl hg hB (ck_G_step hG (by omega)) eo eA ?_
    intro go' A' gr' n' hB' eo' eA' hx' hh'
    refine nm_r (nI_1 i) (ih (i + 1) (by omega) go' A' gr' n' hB' eo' eA' (Nat.lt_of_lt_of_le he hx'.1) (ck_wo_ext hx' (by omega) hw) ?_)
    intro j hji
    rw [hx'.2 e he]
    by_cases z : j = i
    · rw [z]; exact hh'
    · exact ck_ext2_has hx' (hj j (by omega))
theorem cx_cl15 {post : SX → Prop} (hg : ck_gok gen m) (hm : m ≤ 3) (eg : ∀ i, i < m → ag i = nI (gen i))
    (H : ∀ (go' : Int32) (A' : Nat → Int32) (gr' : Nat → Nat) (n' : Nat), ck_En gr' n' (ck_G gen m) → n' ≤ 720 → go' = nI n' → (∀ e, e < n' → A' e = nI (gr' e)) → post (nI m, go', cc, cn, ag, A', kn, ks)) :
    ∀ d e : Nat, e + d = 720 → ∀ (go : Int32) (A : Nat → Int32) (gr : Nat → Nat) (n : Nat), ck_B gen m gr n → go = nI n → (∀ e, e < n → A e = nI (gr e)) → ck_wo gen m gr n e → wX_closeGroup_15 post (d + 1) (nI e) (nI m) go cc cn ag A kn ks := by
  intro d
  induction d with
  | zero =>
    intro e he go A gr n hB eo eA hw
    have hn := ck_B_le hg hB
    exact br_t (nI_le (a := 720) (by omega) (by omega)) (H go A gr n (ck_B_En hB fun q hq i hi => hw q (by omega) i hi) hn eo eA)
  | succ d ih =>
    intro e he go A gr n hB eo eA hw
    have hn := ck_B_le hg hB
    refine br_f (nI_ge (b := 720) (by omega) (by omega)) ?_
    by_cases z : e < n
    · refine br_f (by rw [eo]; exact nI_ge z (by omega)) ⟨m + 1, ?_⟩
      refine cx_cl32 hg hm eg ?_ m 0 (by omega) go A gr n hB eo eA z hw (fun j hj => by omega)
      intro go' A' gr' n' hB' eo' eA' _ hw'
      exact ih (e + 1) (by omega) go' A' gr' n' hB' eo' eA' hw'
    · exact br_t (by rw [eo]; exact nI_le (by omega) (by omega)) (H go A gr n (ck_B_En hB fun q hq i hi => hw q (by omega) i hi) hn eo eA)
theorem cx_close {post : SX → Prop} (hg : ck_gok gen m) (hm : m ≤ 3) (ec : gc = nI m) (eg : ∀ i, i < m → ag i = nI (gen i))
    (H : ∀ (go' : Int32) (A' : Nat → Int32) (gr' : Nat → Nat) (n' : Nat), ck_En gr' n' (ck_G gen m) → n' ≤ 720 → go' = nI n' → (∀ e, e < n' → A' e = nI (gr' e)) → post (gc, go', cc, cn, ag, A', kn, ks)) :
    wpX_closeGroup post (gc, go, cc, cn, ag, A, kn, ks) := by
  subst ec
  refine nm_e ⟨721, cx_cl15 hg hm eg H 720 0 (by omega) 1 _ (fun _ => 44790) 1 (ck_B_0 gen m rfl) rfl ?_ (fun e he => by omega)⟩
  intro e he
  have z : e = 0 := by omega
  subst z
  exact pk_us
end
end
section
/-! X: the kinds are gathered -/
theorem cb_m4 {t : Nat} (h : t < 2 ^ 31) : ¬ nI t = -4 := by
  intro e
  have k := nI_pos h
  rw [e] at k
  exact k (by decide)
section
variable {gc go cc cn : Int32} {ag A kn ks : Nat → Int32} {gen : Nat → Nat} {m c : Nat}
theorem cx_rea {post : Int32 → Prop} {x g : Nat} (ec : cc = nI c) (hc : 0 < c) (hc3 : c ≤ 3) (hx : x < 2 ^ 31) (hg : g < 46656) (h : post (nI (ck_act c g x))) : ∀ d i : Nat, i + d = 6 → wX_rearranged_5 post (nI x) (nI g) gc go cc cn ag A kn ks (d + 1) (nI (ck_sum (fun i => ck_dg c x i * c ^ ck_dg 6 g i) i)) (nI i) := by
  intro d
  induction d with
  | zero =>
    intro i hi
    have e : i = 6 := by omega
    subst e
    exact br_t (nI_le (a := 6) (b := 6) (by omega) (by omega)) h
  | succ d ih =>
    intro i hi
    refine br_f (nI_ge (b := 6) (by omega) (by omega)) ?_
    refine cx_digit g 6 i rfl rfl rfl (by omega) (by omega) (by omega) (by omega) ?_
    refine cx_digit x c i rfl ec rfl hc (by omega) (by omega) hx ?_
    have := ck_d6 g i
    refine cx_power c (ck_dg 6 g i) ec rfl (by omega) ?_
    refine nm_r (e' := nI (ck_sum (fun i => ck_dg c x i * c ^ ck_dg 6 g i) (i + 1))) ?_ (nm_r (nI_1 i) (ih (i + 1) (by omega)))
    rw [pk_mul, nI_add]
    rfl
theorem cx_rearr {post : Int32 → Prop} {p0 p1 : Int32} (x g : Nat) (e0 : p0 = nI x) (e1 : p1 = nI g) (ec : cc = nI c) (hc : 0 < c) (hc3 : c ≤ 3) (hx : x < 2 ^ 31) (hg : g < 46656) (h : post (nI (ck_act c g x))) : wpX_rearranged post (gc, go, cc, cn, ag, A, kn, ks) p0 p1 := by
  subst e0 e1
  exact ⟨7, cx_rea ec hc hc3 hx hg h 6 0 (by omega)⟩
theorem cx_isCol {post : Int32 → Prop} {N : Nat} {p0 : Int32} (en : cn = nI N) (hN : N < 2 ^ 31) (h1 : ∀ y, y < N → p0 = nI y → post 1) (h0 : ¬ (∃ y, y < N ∧ p0 = nI y) → post 0) : wpX_isColouring post (gc, go, cc, cn, ag, A, kn, ks) p0 := by
  subst en
  rcases pk_ix p0 (n := N) hN with h | h | ⟨y, hy, e⟩
  · refine br_t h (h0 ?_)
    rintro ⟨y, hy, rfl⟩
    exact nI_pos (by omega) h
  · have hp : ¬ p0 < 0 := Int32.not_lt.mpr (Int32.le_trans (nI_pos' hN) h)
    refine br_f hp (br_t h (h0 ?_))
    rintro ⟨y, hy, rfl⟩
    exact nI_ge hy hN h
  · subst e
    exact br_f (nI_pos (by omega)) (br_f (nI_ge hy hN) (h1 y hy rfl))
theorem cx_gk9 {post : SX → Prop} {gr : Nat → Nat} {n t : Nat} {kn0 ks0 : Nat → Int32} (hg : ck_gok gen m) (ec : cc = nI c) (hc : 0 < c) (hc3 : c ≤ 3) (en : cn = nI (c ^ 6)) (eo : go = nI n) (hn : n ≤ 720) (hE : ck_En gr n (ck_G gen m)) (eA : ∀ e, e < n → A e = nI (gr e)) (ht : t < c ^ 6) (hk0 : ∀ y, y < c ^ 6 → ck_R gen m c t y → kn0 y = -4)
    (H : ∀ kn' ks' : Nat → Int32, (∀ y, y < c ^ 6 → ck_R gen m c t y → kn' y = nI t) → (∀ y, y < c ^ 6 → ¬ ck_R gen m c t y → kn' y = kn0 y) → ks' t = nI (ck_ct (ck_R gen m c t) (c ^ 6)) → (∀ y, y ≠ t → ks' y = ks0 y) → post (gc, go, cc, cn, ag, A, kn', ks')) :
    ∀ d e : Nat, e + d = n → ∀ kn ks : Nat → Int32, (∀ y, y < c ^ 6 → (∃ q, q < e ∧ ck_act c (gr q) t = y) → kn y = nI t) → (∀ y, y < c ^ 6 → ¬ (∃ q, q < e ∧ ck_act c (gr q) t = y) → kn y = kn0 y) → ks t = nI (ck_ct (fun y => ∃ q, q < e ∧ ck_act c (gr q) t = y) (c ^ 6)) → (∀ y, y ≠ t → ks y = ks0 y) → wX_gatherKind_9 post (nI t) gc go cc cn (d + 1) (nI e) ag A kn ks := by
  have hN := cb_c6 hc3
  have hS : ∀ y, ck_R gen m c t y ↔ ∃ q, q < n ∧ ck_act c (gr q) t = y := by
    intro y
    constructor
    · rintro ⟨g, h1, rfl⟩
      obtain ⟨q, hq, e⟩ := (hE.1 g).mp h1
      exact ⟨q, hq, by rw [e]⟩
    · rintro ⟨q, hq, rfl⟩
      exact ⟨gr q, (hE.1 _).mpr ⟨q, hq, rfl⟩, rfl⟩
  intro d
  induction d with
  | zero =>
    intro e he kn ks h1 h2 h3 h4
    have z : e = n := by omega
    subst z
    refine br_t (by rw [eo]; exact nI_le (by omega) (by omega)) (H kn ks ?_ ?_ ?_ h4)
    · intro y hy hr
      exact h1 y hy ((hS y).mp hr)
    · intro y hy hr
      exact h2 y hy fun z => hr ((hS y).mpr z)
    · rw [h3]
      exact congrArg nI (ck_ct_congr fun y _ => (hS y).symm)
  | succ d ih =>
    intro e he kn ks h1 h2 h3 h4
    have hG : ck_G gen m (gr e) := (hE.1 _).mpr ⟨e, by omega, rfl⟩
    have hp := ck_G_pm hg hG
    have hlt := ck_act_lt t hc hp
    refine br_f (by rw [eo]; exact nI_ge (by omega) (by omega)) ⟨vp_in_nI (by omega) (by omega), ?_⟩
    refine cx_rearr t (gr e) rfl (by rw [nI_clamp (by omega), eA e (by omega)]) ec hc hc3 (by omega) hp.1 ?_
    refine cx_isCol en (by omega) ?_ (fun z => absurd ⟨_, hlt, rfl⟩ z)
    intro _ _ _
    refine br_f (by decide) ⟨vp_in_nI (by omega) (by omega), ?_⟩
    rw [nI_clamp (n := ck_act c (gr e) t) (by omega), nI_clamp (n := t) (by omega)]
    by_cases z : ∃ q, q < e ∧ ck_act c (gr q) t = ck_act c (gr e) t
    · have hk := h1 _ hlt z
      have iffS : ∀ y, (∃ q, q < e + 1 ∧ ck_act c (gr q) t = y) ↔ ∃ q, q < e ∧ ck_act c (gr q) t = y := by
        intro y
        constructor
        · rintro ⟨q, hq, rfl⟩
          by_cases w : q = e
          · rw [w]; exact z
          · exact ⟨q, by omega, rfl⟩
        · rintro ⟨q, hq, rfl⟩
          exact ⟨q, by omega, rfl⟩
      refine br_f (by rw [hk]; exact cb_m4 (by omega)) (nm_r (nI_1 e) (ih (e + 1) (by omega) kn ks ?_ ?_ ?_ h4))
      · intro y hy w
        exact h1 y hy ((iffS y).mp w)
      · intro y hy w
        exact h2 y hy fun w' => w ((iffS y).mpr w')
      · rw [h3]
        exact congrArg nI (ck_ct_congr fun y _ => (iffS y).symm)
    · have hk : kn (ck_act c (gr e) t) = -4 := by
        rw [h2 _ hlt z]
        exact hk0 _ hlt ⟨gr e, hG, rfl⟩
      have iffS : ∀ y, (∃ q, q < e + 1 ∧ ck_act c (gr q) t = y) ↔ (∃ q, q < e ∧ ck_act c (gr q) t = y) ∨ y = ck_act c (gr e) t := by
        intro y
        constructor
        · rintro ⟨q, hq, rfl⟩
          by_cases w : q = e
          · rw [w]; exact Or.inr rfl
          · exact Or.inl ⟨q, by omega, rfl⟩
        · rintro (⟨q, hq, rfl⟩ | rfl)
          · exact ⟨q, by omega, rfl⟩
          · exact ⟨e, by omega, rfl⟩
      refine br_t hk ⟨vp_in_nI (by omega) (by omega), nm_e ⟨vp_in_nI (by omega) (by omega), vp_in_nI (by omega) (by omega), nm_e (nm_r (nI_1 e) (ih (e + 1) (by omega) _ _ ?_ ?_ ?_ ?_))⟩⟩
      · intro y hy w
        by_cases v : y = ck_act c (gr e) t
        · rw [v]; exact pk_us
        · rw [pk_un v]
          exact h1 y hy (((iffS y).mp w).resolve_right v)
      · intro y hy w
        have v : y ≠ ck_act c (gr e) t := fun v => w ((iffS y).mpr (Or.inr v))
        rw [pk_un v]
        exact h2 y hy fun w' => w ((iffS y).mpr (Or.inl w'))
      · rw [pk_us, h3, nI_1]
        refine congrArg nI ?_
        rw [← ck_ct_ins z hlt]
        exact ck_ct_congr fun y _ => (iffS y).symm
      · intro y hy
        rw [pk_un hy]
        exact h4 y hy
theorem cx_gatherKind {post : SX → Prop} {gr : Nat → Nat} {n t : Nat} {p0 : Int32} (e0 : p0 = nI t) (hg : ck_gok gen m) (ec : cc = nI c) (hc : 0 < c) (hc3 : c ≤ 3) (en : cn = nI (c ^ 6)) (eo : go = nI n) (hn : n ≤ 720) (hE : ck_En gr n (ck_G gen m)) (eA : ∀ e, e < n → A e = nI (gr e)) (ht : t < c ^ 6) (hk0 : ∀ y, y < c ^ 6 → ck_R gen m c t y → kn y = -4)
    (H : ∀ kn' ks' : Nat → Int32, (∀ y, y < c ^ 6 → ck_R gen m c t y → kn' y = nI t) → (∀ y, y < c ^ 6 → ¬ ck_R gen m c t y → kn' y = kn y) → ks' t = nI (ck_ct (ck_R gen m c t) (c ^ 6)) → (∀ y, y ≠ t → ks' y = ks y) → post (gc, go, cc, cn, ag, A, kn', ks')) :
    wpX_gatherKind post (gc, go, cc, cn, ag, A, kn, ks) p0 := by
  subst e0
  have hN := cb_c6 hc3
  refine ⟨vp_in_nI (by omega) (by omega), ?_⟩
  rw [nI_clamp (n := t) (by omega)]
  refine nm_e ⟨n + 1, cx_gk9 (ks0 := ks) hg ec hc hc3 en eo hn hE eA ht hk0 H n 0 (by omega) _ _ ?_ ?_ ?_ ?_⟩
  · rintro y _ ⟨q, hq, _⟩
    omega
  · intro y _ _
    rfl
  · rw [pk_us]
    have e : ck_ct (fun y => ∃ q, q < 0 ∧ ck_act c (gr q) t = y) (c ^ 6) = 0 := ck_ct_no fun i _ => by
      rintro ⟨q, hq, _⟩
      omega
    rw [e]
    rfl
  · intro y hy
    exact pk_un hy
theorem cx_gks39 {post : SX → Prop} {gr : Nat → Nat} {n : Nat} (hg : ck_gok gen m) (ec : cc = nI c) (hc : 0 < c) (hc3 : c ≤ 3) (en : cn = nI (c ^ 6)) (eo : go = nI n) (hn : n ≤ 720) (hE : ck_En gr n (ck_G gen m)) (eA : ∀ e, e < n → A e = nI (gr e))
    (H : ∀ kn' ks' : Nat → Int32, (∀ y, y < c ^ 6 → kn' y = nI (ck_nm gen m c y)) → (∀ y, y < c ^ 6 → ck_nm gen m c y = y → ks' y = nI (ck_ct (ck_R gen m c y) (c ^ 6))) → post (gc, go, cc, cn, ag, A, kn', ks')) :
    ∀ d t : Nat, t + d = c ^ 6 → ∀ kn ks : Nat → Int32, (∀ y, y < c ^ 6 → ck_nm gen m c y < t → kn y = nI (ck_nm gen m c y)) → (∀ y, y < c ^ 6 → t ≤ ck_nm gen m c y → kn y = -4) → (∀ y, y < t → ck_nm gen m c y = y → ks y = nI (ck_ct (ck_R gen m c y) (c ^ 6))) → wX_gatherKinds_39 post (d + 1) (nI t) gc go cc cn ag A kn ks := by
  have hN := cb_c6 hc3
  intro d
  induction d with
  | zero =>
    intro t ht kn ks h1 h2 h3
    refine br_t (by rw [en]; exact nI_le (by omega) (by omega)) (H kn ks ?_ ?_)
    · intro y hy
      have := ck_nm_lt (gen := gen) (m := m) hc hy
      exact h1 y hy (by omega)
    · intro y hy
      exact h3 y (by omega)
  | succ d ih =>
    intro t ht kn ks h1 h2 h3
    have htN : t < c ^ 6 := by omega
    refine br_f (by rw [en]; exact nI_ge (by omega) (by omega)) ⟨vp_in_nI (by omega) (by omega), ?_⟩
    rw [nI_clamp (n := t) (by omega)]
    have hle := ck_nm_le (gen := gen) (m := m) hc htN
    by_cases z : ck_nm gen m c t < t
    · have hne : ∀ y, y < c ^ 6 → ck_nm gen m c y ≠ t := by
        intro y hy w
        have := ck_nm_nm hg hc hy
        rw [w] at this
        omega
      refine br_f (by rw [h1 t htN z]; exact cb_m4 (by omega)) (nm_r (nI_1 t) (ih (t + 1) (by omega) kn ks ?_ ?_ ?_))
      · intro y hy w
        have := hne y hy
        exact h1 y hy (by omega)
      · intro y hy w
        exact h2 y hy (by omega)
      · intro y hy w
        by_cases v : y = t
        · rw [v] at w
          omega
        · exact h3 y (by omega) w
    · have hnt : ck_nm gen m c t = t := by omega
      have iffR : ∀ y, y < c ^ 6 → (ck_R gen m c t y ↔ ck_nm gen m c y = t) := by
        intro y hy
        rw [← ck_nm_iff hg hc htN hy, hnt]
        exact ⟨Eq.symm, Eq.symm⟩
      refine br_t (h2 t htN (by omega)) ?_
      refine cx_gatherKind rfl hg ec hc hc3 en eo hn hE eA htN (fun y hy w => h2 y hy (by have := (iffR y hy).mp w; omega)) ?_
      intro kn' ks' k1 k2 k3 k4
      refine nm_r (nI_1 t) (ih (t + 1) (by omega) kn' ks' ?_ ?_ ?_)
      · intro y hy w
        by_cases v : ck_nm gen m c y = t
        · rw [k1 y hy ((iffR y hy).mpr v), v]
        · rw [k2 y hy fun w' => v ((iffR y hy).mp w')]
          exact h1 y hy (by omega)
      · intro y hy w
        rw [k2 y hy fun w' => by have := (iffR y hy).mp w'; omega]
        exact h2 y hy (by omega)
      · intro y hy w
        by_cases v : y = t
        · rw [v]; exact k3
        · rw [k4 y v]
          exact h3 y (by omega) w
theorem cx_gks15 {post : SX → Prop} (en : cn = nI (c ^ 6)) (hc3 : c ≤ 3)
    (H : ∀ kn' : Nat → Int32, (∀ y, y < c ^ 6 → kn' y = -4) → ∃ n39 : Nat, wX_gatherKinds_39 post n39 0 gc go cc cn ag A kn' ks) :
    ∀ d t : Nat, t + d = c ^ 6 → ∀ kn : Nat → Int32, (∀ y, y < t → kn y = -4) → wX_gatherKinds_15 post gc go cc cn (d + 1) (nI t) ag A kn ks := by
  have hN := cb_c6 hc3
  intro d
  induction d with
  | zero =>
    intro t ht kn h1
    exact br_t (by rw [en]; exact nI_le (by omega) (by omega)) (H kn fun y hy => h1 y (by omega))
  | succ d ih =>
    intro t ht kn h1
    refine br_f (by rw [en]; exact nI_ge (by omega) (by omega)) ⟨vp_in_nI (by omega) (by omega), ?_⟩
    rw [nI_clamp (n := t) (by omega)]
    refine nm_e (nm_r (nI_1 t) (ih (t + 1) (by omega) _ ?_))
    intro y hy
    by_cases v : y = t
    · rw [v]; exact pk_us
    · rw [pk_un v]
      exact h1 y (by omega)
theorem cx_gather {post : SX → Prop} {gr : Nat → Nat} {n : Nat} (hg : ck_gok gen m) (ec : cc = nI c) (hc : 0 < c) (hc3 : c ≤ 3) (eo : go = nI n) (hn : n ≤ 720) (hE : ck_En gr n (ck_G gen m)) (eA : ∀ e, e < n → A e = nI (gr e))
    (H : ∀ kn' ks' : Nat → Int32, (∀ y, y < c ^ 6 → kn' y = nI (ck_nm gen m c y)) → (∀ y, y < c ^ 6 → ck_nm gen m c y = y → ks' y = nI (ck_ct (ck_R gen m c y) (c ^ 6))) → post (gc, go, cc, nI (c ^ 6), ag, A, kn', ks')) :
    wpX_gatherKinds post (gc, go, cc, cn, ag, A, kn, ks) := by
  refine cx_power c 6 ec rfl (by omega) ⟨c ^ 6 + 1, cx_gks15 rfl hc3 ?_ (c ^ 6) 0 (by omega) kn (fun y hy => by omega)⟩
  intro kn' h
  exact ⟨c ^ 6 + 1, cx_gks39 hg ec hc hc3 rfl eo hn hE eA H (c ^ 6) 0 (by omega) kn' ks (fun y _ w => by omega) (fun y hy _ => h y hy) (fun y hy => by omega)⟩
end
end
section
/-! X: the questions -/
theorem cl_cnt (W : Nat → Int32 → Int32 → Prop) (p : Nat → Prop) (N : Nat) (hend : W 1 (nI (ck_ct p N)) (nI N)) (hstep : ∀ n i r, i < N → (p i → W n (nI (r + 1)) (nI (i + 1))) → (¬ p i → W n (nI r) (nI (i + 1))) → W (n + 1) (nI r) (nI i)) : W (N + 1) 0 0 := by
  have key : ∀ d i : Nat, i + d = N → W (d + 1) (nI (ck_ct p i)) (nI i) := by
    intro d
    induction d with
    | zero =>
      intro i hi
      have e : i = N := by omega
      subst e
      exact hend
    | succ d ih =>
      intro i hi
      refine hstep (d + 1) i _ (by omega) (fun h => ?_) (fun h => ?_)
      · rw [← ck_ct_t h]
        exact ih (i + 1) (by omega)
      · rw [← ck_ct_f h]
        exact ih (i + 1) (by omega)
  exact key N 0 (by omega)
def ck_lc (g p : Nat) : Nat → Nat → Bool
  | 0, _ => true
  | d + 1, q => if ck_dg 6 g q < p then false else ck_lc g p d (ck_dg 6 g q)
def ck_cy (g : Nat) : Nat → Nat
  | 0 => 0
  | n + 1 => ck_cy g n + if ck_lc g n 6 n then 1 else 0
theorem ck_cy_le (g : Nat) : ∀ n, ck_cy g n ≤ n := by
  intro n
  induction n with
  | zero => exact Nat.le_refl 0
  | succ n ih =>
    show ck_cy g n + (if ck_lc g n 6 n then 1 else 0) ≤ n + 1
    split <;> omega
theorem cx_lc {post : Int32 → Prop} {g p : Nat} (hg : g < 46656) (hp : p < 6) : ∀ d i q : Nat, i + d = 6 → q < 6 → (ck_lc g p d q = true → post 1) → (ck_lc g p d q = false → post 0) → wX_isLeastOfCycle_4 post (nI g) (nI p) (d + 1) (nI q) (nI i) := by
  intro d
  induction d with
  | zero =>
    intro i q hi hq h1 _
    exact br_t (nI_le (a := 6) (by omega) (by omega)) (h1 rfl)
  | succ d ih =>
    intro i q hi hq h1 h0
    refine br_f (nI_ge (b := 6) (by omega) (by omega)) ?_
    refine cx_digit g 6 q rfl rfl rfl (by omega) (by omega) (by omega) (by omega) ?_
    have := ck_d6 g q
    have e : ck_lc g p (d + 1) q = if ck_dg 6 g q < p then false else ck_lc g p d (ck_dg 6 g q) := rfl
    refine pk_le p (ck_dg 6 g q) (fun z => nm_r (nI_1 i) ?_) (fun z => ?_)
    · rw [if_neg (by omega)] at e
      rw [e] at h1 h0
      exact ih (i + 1) _ (by omega) this h1 h0
    · rw [if_pos z] at e
      exact h0 e
theorem cx_cyc {post : Int32 → Prop} {g : Nat} (hg : g < 46656) (h : post (nI (ck_cy g 6))) : ∀ d i : Nat, i + d = 6 → wX_cycleCount_4 post (nI g) (d + 1) (nI (ck_cy g i)) (nI i) := by
  intro d
  induction d with
  | zero =>
    intro i hi
    have e : i = 6 := by omega
    subst e
    exact br_t (nI_le (a := 6) (b := 6) (by omega) (by omega)) h
  | succ d ih =>
    intro i hi
    refine br_f (nI_ge (b := 6) (by omega) (by omega)) ⟨7, ?_⟩
    have e : ck_cy g (i + 1) = ck_cy g i + if ck_lc g i 6 i then 1 else 0 := rfl
    refine cx_lc hg (by omega) 6 0 i (by omega) (by omega) (fun z => br_f (by decide) ?_) (fun z => br_t rfl ?_)
    · rw [z] at e
      refine nm_r (e' := nI (ck_cy g (i + 1))) (by rw [nI_1, e]; rfl) (nm_r (nI_1 i) (ih (i + 1) (by omega)))
    · rw [z] at e
      have k := ih (i + 1) (by omega)
      rw [e] at k
      exact nm_r (nI_1 i) k
section
variable {gc go cc cn : Int32} {ag A kn ks : Nat → Int32} {gen : Nat → Nat} {m c : Nat}
theorem cx_withCycles {post : Int32 → Prop} {gr : Nat → Nat} {n : Nat} {p0 : Int32} (eo : go = nI n) (hn : n ≤ 720) (hb : ∀ e, e < n → gr e < 46656) (eA : ∀ e, e < n → A e = nI (gr e)) (h : post (nI (ck_ct (fun e => nI (ck_cy (gr e) 6) = p0) n))) : wpX_withCycles post (gc, go, cc, cn, ag, A, kn, ks) p0 := by
  refine ⟨n + 1, cl_cnt (fun f r i => wX_withCycles_4 post p0 gc go cc cn ag A kn ks f r i) (fun e => nI (ck_cy (gr e) 6) = p0) n ?_ ?_⟩
  · exact br_t (by rw [eo]; exact nI_le (by omega) (by omega)) h
  · intro f i r hi ht hf
    refine br_f (by rw [eo]; exact nI_ge (by omega) (by omega)) ⟨vp_in_nI (by omega) (by omega), ?_⟩
    rw [nI_clamp (n := i) (by omega), eA i hi]
    refine ⟨7, cx_cyc (hb i hi) ?_ 6 0 (by omega)⟩
    exact br_c (fun z => nm_r (nI_1 r) (nm_r (nI_1 i) (ht z))) (fun z => nm_r (nI_1 i) (hf z))
theorem cx_isName {post : Int32 → Prop} (x : Nat) {p0 : Int32} (e0 : p0 = nI x) (hc3 : c ≤ 3) (hx : x < c ^ 6) (ek : ∀ y, y < c ^ 6 → kn y = nI (ck_nm gen m c y)) (hc : 0 < c) (h1 : ck_nm gen m c x = x → post 1) (h0 : ck_nm gen m c x ≠ x → post 0) : wpX_isName post (gc, go, cc, cn, ag, A, kn, ks) p0 := by
  subst e0
  have hN := cb_c6 hc3
  have hl := ck_nm_lt (gen := gen) (m := m) hc hx
  exact ⟨vp_in_nI (by omega) (by omega), pk_eq (ck_nm gen m c x) x h1 h0 (by rw [nI_clamp (by omega), ek x hx])⟩
theorem cx_kinds {post : Int32 → Prop} (hc : 0 < c) (hc3 : c ≤ 3) (en : cn = nI (c ^ 6)) (ek : ∀ y, y < c ^ 6 → kn y = nI (ck_nm gen m c y)) (h : post (nI (ck_ct (fun x => ck_nm gen m c x = x) (c ^ 6)))) : wpX_kinds post (gc, go, cc, cn, ag, A, kn, ks) := by
  have hN := cb_c6 hc3
  refine ⟨c ^ 6 + 1, cl_cnt (fun f r i => wX_kinds_4 post gc go cc cn ag A kn ks f r i) (fun x => ck_nm gen m c x = x) (c ^ 6) ?_ ?_⟩
  · exact br_t (by rw [en]; exact nI_le (by omega) (by omega)) h
  · intro f i r hi ht hf
    refine br_f (by rw [en]; exact nI_ge (by omega) (by omega)) (cx_isName i rfl hc3 hi ek hc (fun z => br_f (by decide) ?_) (fun z => br_t rfl ?_))
    · exact nm_r (nI_1 r) (nm_r (nI_1 i) (ht z))
    · exact nm_r (nI_1 i) (hf z)
end
/-- how many places of x have the colour k -/
noncomputable def ck_pl (c x : Nat) (k : Int32) : Nat := ck_ct (fun i => nI (ck_dg c x i) = k) 6
theorem ck_pl_le (c x : Nat) (k : Int32) : ck_pl c x k ≤ 6 := ck_ct_le _ 6
def ck_sw (c d : Nat) : Nat := if c = 1 then d else if d = 0 then 1 else if d = 1 then 0 else d
def ck_xc (c x : Nat) : Nat := ck_enc c (fun i => ck_sw c (ck_dg c x i)) 6
theorem ck_sw_lt {c d : Nat} (hc : 0 < c) (hd : d < c) : ck_sw c d < c := by
  unfold ck_sw
  split
  · exact hd
  · split
    · omega
    · split <;> omega
theorem ck_xc_lt {c : Nat} (x : Nat) (hc : 0 < c) : ck_xc c x < c ^ 6 := ck_enc_lt fun i _ => ck_sw_lt hc (ck_dg_lt hc x i)
def ck_pn (a b : Nat) : Nat := if b ≤ a then b * 6 + a else a * 6 + b
section
variable {gc go cc cn : Int32} {ag A kn ks : Nat → Int32} {gen : Nat → Nat} {m c : Nat}
theorem cx_places {post : Int32 → Prop} (x : Nat) {p0 p1 : Int32} (e0 : p0 = nI x) (ec : cc = nI c) (hc : 0 < c) (hc3 : c ≤ 3) (hx : x < 2 ^ 31) (h : post (nI (ck_pl c x p1))) : wpX_placesWith post (gc, go, cc, cn, ag, A, kn, ks) p0 p1 := by
  subst e0
  refine ⟨6 + 1, cl_cnt (fun f r i => wX_placesWith_5 post (nI x) p1 gc go cc cn ag A kn ks f r i) (fun i => nI (ck_dg c x i) = p1) 6 ?_ ?_⟩
  · exact br_t (nI_le (a := 6) (b := 6) (by omega) (by omega)) h
  · intro f i r hi ht hf
    refine br_f (nI_ge (b := 6) (by omega) (by omega)) (cx_digit x c i rfl ec rfl hc (by omega) (by omega) hx ?_)
    exact br_c (fun z => nm_r (nI_1 r) (nm_r (nI_1 i) (ht z))) (fun z => nm_r (nI_1 i) (hf z))
theorem cx_kindsWith {post : Int32 → Prop} {v1 v2 : Int32} (ec : cc = nI c) (hc : 0 < c) (hc3 : c ≤ 3) (en : cn = nI (c ^ 6)) (ek : ∀ y, y < c ^ 6 → kn y = nI (ck_nm gen m c y)) (h : post (nI (ck_ct (fun x => ck_nm gen m c x = x ∧ nI (ck_pl c x 0) = v1 ∧ nI (ck_pl c x 1) = v2) (c ^ 6)))) : wpX_kindsWith post (gc, go, cc, cn, ag, A, kn, ks) v1 v2 := by
  have hN := cb_c6 hc3
  refine ⟨c ^ 6 + 1, cl_cnt (fun f r i => wX_kindsWith_5 post v1 v2 gc go cc cn ag A kn ks f r i) (fun x => ck_nm gen m c x = x ∧ nI (ck_pl c x 0) = v1 ∧ nI (ck_pl c x 1) = v2) (c ^ 6) ?_ ?_⟩
  · exact br_t (by rw [en]; exact nI_le (by omega) (by omega)) h
  · intro f i r hi ht hf
    refine br_f (by rw [en]; exact nI_ge (by omega) (by omega)) (cx_isName i rfl hc3 hi ek hc (fun z => br_f (by decide) ?_) (fun z => br_t rfl ?_))
    · refine cx_places i rfl ec hc hc3 (by omega) (br_c (fun z1 => ?_) (fun z1 => ?_))
      · refine cx_places i rfl ec hc hc3 (by omega) (br_c (fun z2 => ?_) (fun z2 => ?_))
        · exact nm_r (nI_1 r) (nm_r (nI_1 i) (ht ⟨z, z1, z2⟩))
        · exact nm_r (nI_1 i) (hf fun w => z2 w.2.2)
      · exact nm_r (nI_1 i) (hf fun w => z1 w.2.1)
    · exact nm_r (nI_1 i) (hf fun w => z w.1)
theorem cx_hasEvery {post : Int32 → Prop} (x : Nat) {p0 : Int32} (e0 : p0 = nI x) (ec : cc = nI c) (hc : 0 < c) (hc3 : c ≤ 3) (hx : x < 2 ^ 31) (h1 : (∀ k, k < c → ck_pl c x (nI k) ≠ 0) → post 1) (h0 : ¬ (∀ k, k < c → ck_pl c x (nI k) ≠ 0) → post 0) : wpX_hasEveryColour post (gc, go, cc, cn, ag, A, kn, ks) p0 := by
  subst e0
  have key : ∀ d i : Nat, i + d = c → (∀ k, k < i → ck_pl c x (nI k) ≠ 0) → wX_hasEveryColour_2 post (nI x) gc go cc cn ag A kn ks (d + 1) (nI i) := by
    intro d
    induction d with
    | zero =>
      intro i hi hk
      exact br_t (by rw [ec]; exact nI_le (by omega) (by omega)) (h1 fun k hk' => hk k (by omega))
    | succ d ih =>
      intro i hi hk
      have hp := ck_pl_le c x (nI i)
      refine br_f (by rw [ec]; exact nI_ge (by omega) (by omega)) (cx_places x rfl ec hc hc3 hx (pk_eq (ck_pl c x (nI i)) 0 (fun z => h0 fun w => w i (by omega) z) (fun z => nm_r (nI_1 i) (ih (i + 1) (by omega) ?_))))
      intro k hk'
      by_cases w : k = i
      · rw [w]; exact z
      · exact hk k (by omega)
  exact ⟨c + 1, key c 0 (by omega) fun k hk => by omega⟩
theorem cx_kindsWithAll {post : Int32 → Prop} (ec : cc = nI c) (hc : 0 < c) (hc3 : c ≤ 3) (en : cn = nI (c ^ 6)) (ek : ∀ y, y < c ^ 6 → kn y = nI (ck_nm gen m c y)) (h : post (nI (ck_ct (fun x => ck_nm gen m c x = x ∧ ∀ k, k < c → ck_pl c x (nI k) ≠ 0) (c ^ 6)))) : wpX_kindsWithAll post (gc, go, cc, cn, ag, A, kn, ks) := by
  have hN := cb_c6 hc3
  refine ⟨c ^ 6 + 1, cl_cnt (fun f r i => wX_kindsWithAll_4 post gc go cc cn ag A kn ks f r i) (fun x => ck_nm gen m c x = x ∧ ∀ k, k < c → ck_pl c x (nI k) ≠ 0) (c ^ 6) ?_ ?_⟩
  · exact br_t (by rw [en]; exact nI_le (by omega) (by omega)) h
  · intro f i r hi ht hf
    refine br_f (by rw [en]; exact nI_ge (by omega) (by omega)) (cx_isName i rfl hc3 hi ek hc (fun z => br_f (by decide) ?_) (fun z => br_t rfl ?_))
    · refine cx_hasEvery i rfl ec hc hc3 (by omega) (fun w => br_f (by decide) ?_) (fun w => br_t rfl ?_)
      · exact nm_r (nI_1 r) (nm_r (nI_1 i) (ht ⟨z, w⟩))
      · exact nm_r (nI_1 i) (hf fun y => w y.2)
    · exact nm_r (nI_1 i) (hf fun w => z w.1)
theorem cx_name {post : Int32 → Prop} {p0 : Int32} (hc3 : c ≤ 3) (en : cn = nI (c ^ 6)) (ek : ∀ y, y < c ^ 6 → kn y = nI (ck_nm gen m c y)) (h1 : ∀ y, y < c ^ 6 → p0 = nI y → post (nI (ck_nm gen m c y))) (h0 : ¬ (∃ y, y < c ^ 6 ∧ p0 = nI y) → post (-4)) : wpX_name post (gc, go, cc, cn, ag, A, kn, ks) p0 := by
  have hN := cb_c6 hc3
  unfold wpX_name
  refine cx_isCol en (by omega) (fun y hy e => br_f (by decide) ?_) (fun z => br_t rfl (h0 z))
  have k := h1 y hy e
  subst e
  refine ⟨vp_in_nI (by omega) (by omega), ?_⟩
  rw [nI_clamp (by omega), ek y hy]
  exact k
theorem cx_size {post : Int32 → Prop} {p0 : Int32} (hc : 0 < c) (hg : ck_gok gen m) (hc3 : c ≤ 3) (en : cn = nI (c ^ 6)) (ek : ∀ y, y < c ^ 6 → kn y = nI (ck_nm gen m c y)) (es : ∀ y, y < c ^ 6 → ck_nm gen m c y = y → ks y = nI (ck_ct (ck_R gen m c y) (c ^ 6))) (h1 : ∀ y, y < c ^ 6 → p0 = nI y → post (nI (ck_ct (ck_R gen m c (ck_nm gen m c y)) (c ^ 6)))) (h0 : ¬ (∃ y, y < c ^ 6 ∧ p0 = nI y) → post (-4)) : wpX_size post (gc, go, cc, cn, ag, A, kn, ks) p0 := by
  have hN := cb_c6 hc3
  unfold wpX_size
  refine cx_name hc3 en ek (fun y hy e => ?_) (fun z => ?_)
  · have hl := ck_nm_lt (gen := gen) (m := m) hc hy
    refine cx_isCol en (by omega) (fun _ _ _ => br_f (by decide) ⟨vp_in_nI (by omega) (by omega), ?_⟩) (fun z => absurd ⟨_, hl, rfl⟩ z)
    rw [nI_clamp (by omega), es _ hl (ck_nm_nm hg hc hy)]
    exact h1 y hy e
  · refine cx_isCol en (by omega) (fun y hy e => ?_) (fun _ => br_t rfl (h0 z))
    exact absurd e.symm (cb_m4 (by omega))
theorem cx_alike {post : Int32 → Prop} {p0 p1 : Int32} (hc : 0 < c) (hc3 : c ≤ 3) (en : cn = nI (c ^ 6)) (ek : ∀ y, y < c ^ 6 → kn y = nI (ck_nm gen m c y)) (h1 : ∀ y z, y < c ^ 6 → z < c ^ 6 → p0 = nI y → p1 = nI z → ck_nm gen m c y = ck_nm gen m c z → post 1) (h2 : ∀ y z, y < c ^ 6 → z < c ^ 6 → p0 = nI y → p1 = nI z → ck_nm gen m c y ≠ ck_nm gen m c z → post 0) (h0 : ¬ ((∃ y, y < c ^ 6 ∧ p0 = nI y) ∧ ∃ z, z < c ^ 6 ∧ p1 = nI z) → post 0) : wpX_alike post (gc, go, cc, cn, ag, A, kn, ks) p0 p1 := by
  have hN := cb_c6 hc3
  unfold wpX_alike
  refine cx_isCol en (by omega) (fun y hy e => br_f (by decide) ?_) (fun z => br_t rfl (h0 fun w => z w.1))
  refine cx_isCol en (by omega) (fun y' hy' e' => br_f (by decide) ?_) (fun z => br_t rfl (h0 fun w => z w.2))
  have k1 := h1 y y' hy hy' e e'
  have k2 := h2 y y' hy hy' e e'
  subst e e'
  have l1 := ck_nm_lt (gen := gen) (m := m) hc hy
  have l2 := ck_nm_lt (gen := gen) (m := m) hc hy'
  exact ⟨vp_in_nI (by omega) (by omega), vp_in_nI (by omega) (by omega), pk_eq (ck_nm gen m c y) (ck_nm gen m c y') k1 k2 (by rw [nI_clamp (by omega), ek y hy]) (by rw [nI_clamp (by omega), ek y' hy'])⟩
theorem cx_still {post : Int32 → Prop} (hc : 0 < c) (hc3 : c ≤ 3) (en : cn = nI (c ^ 6)) (ek : ∀ y, y < c ^ 6 → kn y = nI (ck_nm gen m c y)) (es : ∀ y, y < c ^ 6 → ck_nm gen m c y = y → ks y = nI (ck_ct (ck_R gen m c y) (c ^ 6))) (h : post (nI (ck_ct (fun x => ck_nm gen m c x = x ∧ ck_ct (ck_R gen m c x) (c ^ 6) = 1) (c ^ 6)))) : wpX_still post (gc, go, cc, cn, ag, A, kn, ks) := by
  have hN := cb_c6 hc3
  refine ⟨c ^ 6 + 1, cl_cnt (fun f r i => wX_still_4 post gc go cc cn ag A kn ks f r i) (fun x => ck_nm gen m c x = x ∧ ck_ct (ck_R gen m c x) (c ^ 6) = 1) (c ^ 6) ?_ ?_⟩
  · exact br_t (by rw [en]; exact nI_le (by omega) (by omega)) h
  · intro f i r hi ht hf
    refine br_f (by rw [en]; exact nI_ge (by omega) (by omega)) (cx_isName i rfl hc3 hi ek hc (fun z => br_f (by decide) ⟨vp_in_nI (by omega) (by omega), ?_⟩) (fun z => br_t rfl ?_))
    · have hl := ck_ct_le (ck_R gen m c i) (c ^ 6)
      refine pk_eq (ck_ct (ck_R gen m c i) (c ^ 6)) 1 (fun w => nm_r (nI_1 r) (nm_r (nI_1 i) (ht ⟨z, w⟩))) (fun w => nm_r (nI_1 i) (hf fun y => w y.2)) (by rw [nI_clamp (by omega), es i hi z])
    · exact nm_r (nI_1 i) (hf fun w => z w.1)
theorem cx_exch {post : Int32 → Prop} (x : Nat) {p0 : Int32} (e0 : p0 = nI x) (ec : cc = nI c) (hc : 1 < c) (hc3 : c ≤ 3) (hx : x < 2 ^ 31) (h : post (nI (ck_xc c x))) : wpX_exchanged post (gc, go, cc, cn, ag, A, kn, ks) p0 := by
  subst e0
  have key : ∀ d i : Nat, i + d = 6 → wX_exchanged_4 post (nI x) gc go cc cn ag A kn ks (d + 1) (nI (ck_enc c (fun i => ck_sw c (ck_dg c x i)) i)) (nI i) := by
    intro d
    induction d with
    | zero =>
      intro i hi
      have e : i = 6 := by omega
      subst e
      exact br_t (nI_le (a := 6) (b := 6) (by omega) (by omega)) h
    | succ d ih =>
      intro i hi
      refine br_f (nI_ge (b := 6) (by omega) (by omega)) (cx_digit x c i rfl ec rfl (by omega) (by omega) (by omega) hx ?_)
      have hd := ck_dg_lt (b := c) (by omega) x i
      have k : ∀ z0 : Int32, z0 = nI (ck_sw c (ck_dg c x i)) → wX_exchanged_42 post (wX_exchanged_4 post (nI x) gc go cc cn ag A kn ks (d + 1)) (nI x) (nI (ck_enc c (fun i => ck_sw c (ck_dg c x i)) i)) (nI i) z0 gc go cc cn ag A kn ks := by
        intro z0 ez
        subst ez
        refine cx_power c i ec rfl (by omega) (nm_r (e' := nI (ck_enc c (fun i => ck_sw c (ck_dg c x i)) (i + 1))) ?_ (nm_r (nI_1 i) (ih (i + 1) (by omega))))
        rw [pk_mul, nI_add]
        rfl
      have hc1 : ¬ c = 1 := by omega
      refine pk_eq (ck_dg c x i) 0 (fun z => k 1 ?_) (fun z => pk_eq (ck_dg c x i) 1 (fun w => k 0 ?_) (fun w => k _ ?_))
      · unfold ck_sw
        rw [if_neg hc1, if_pos z]
        rfl
      · unfold ck_sw
        rw [if_neg hc1, if_neg z, if_pos w]
        rfl
      · unfold ck_sw
        rw [if_neg hc1, if_neg z, if_neg w]
  exact ⟨7, key 6 0 (by omega)⟩
theorem cx_isSelf {post : Int32 → Prop} (x : Nat) {p0 : Int32} (e0 : p0 = nI x) (ec : cc = nI c) (hc : 0 < c) (hc3 : c ≤ 3) (hx : x < c ^ 6) (hnx : ck_nm gen m c x = x) (en : cn = nI (c ^ 6)) (ek : ∀ y, y < c ^ 6 → kn y = nI (ck_nm gen m c y)) (h1 : ck_nm gen m c (ck_xc c x) = x → post 1) (h0 : ck_nm gen m c (ck_xc c x) ≠ x → post 0) : wpX_isSelfExchanged post (gc, go, cc, cn, ag, A, kn, ks) p0 := by
  subst e0
  have hN := cb_c6 hc3
  have hl := ck_xc_lt (c := c) x hc
  refine pk_eq c 1 (fun z => h1 ?_) (fun z => ?_) ec
  · subst z
    have e1 : ck_xc 1 x = 0 := by omega
    have e2 : x = 0 := by omega
    rw [e1]
    rw [e2] at hnx ⊢
    exact hnx
  · refine cx_exch x rfl ec (by omega) hc3 (by omega) (cx_isCol en (by omega) (fun _ _ _ => br_f (by decide) ⟨vp_in_nI (by omega) (by omega), ?_⟩) (fun w => absurd ⟨_, hl, rfl⟩ w))
    have hl2 := ck_nm_lt (gen := gen) (m := m) hc hl
    exact pk_eq (ck_nm gen m c (ck_xc c x)) x h1 h0 (by rw [nI_clamp (by omega), ek _ hl])
theorem cx_self {post : Int32 → Prop} (ec : cc = nI c) (hc : 0 < c) (hc3 : c ≤ 3) (en : cn = nI (c ^ 6)) (ek : ∀ y, y < c ^ 6 → kn y = nI (ck_nm gen m c y)) (h : post (nI (ck_ct (fun x => ck_nm gen m c x = x ∧ ck_nm gen m c (ck_xc c x) = x) (c ^ 6)))) : wpX_selfExchanged post (gc, go, cc, cn, ag, A, kn, ks) := by
  have hN := cb_c6 hc3
  refine ⟨c ^ 6 + 1, cl_cnt (fun f r i => wX_selfExchanged_4 post gc go cc cn ag A kn ks f r i) (fun x => ck_nm gen m c x = x ∧ ck_nm gen m c (ck_xc c x) = x) (c ^ 6) ?_ ?_⟩
  · exact br_t (by rw [en]; exact nI_le (by omega) (by omega)) h
  · intro f i r hi ht hf
    refine br_f (by rw [en]; exact nI_ge (by omega) (by omega)) (cx_isName i rfl hc3 hi ek hc (fun z => br_f (by decide) ?_) (fun z => br_t rfl ?_))
    · refine cx_isSelf i rfl ec hc hc3 hi z en ek (fun w => br_f (by decide) ?_) (fun w => br_t rfl ?_)
      · exact nm_r (nI_1 r) (nm_r (nI_1 i) (ht ⟨z, w⟩))
      · exact nm_r (nI_1 i) (hf fun y => w y.2)
    · exact nm_r (nI_1 i) (hf fun w => z w.1)
end
end
section
/-! X: orbits and kinds of pairs -/
noncomputable def ck_pc (Q : Nat → Nat → Prop) (l : Nat) : Nat := ck_sum (fun a => ck_ct (fun b => a < b ∧ Q a b) 6) l
theorem cl_pair (Q : Nat → Nat → Prop) (W4 : Nat → Int32 → Int32 → Prop) (W14 : (Int32 → Int32 → Prop) → Int32 → Nat → Int32 → Int32 → Prop)
    (hend : W4 1 (nI (ck_pc Q 6)) (nI 6))
    (hout : ∀ n a r, a < 6 → (∃ n14 : Nat, W14 (W4 n) (nI a) n14 (nI r) (nI (a + 1))) → W4 (n + 1) (nI r) (nI a))
    (hinend : ∀ (J : Int32 → Int32 → Prop) a r, J (nI r) (nI (a + 1)) → W14 J (nI a) 1 (nI r) (nI 6))
    (hinstep : ∀ (J : Int32 → Int32 → Prop) n a b r, a < b → b < 6 → (Q a b → W14 J (nI a) n (nI (r + 1)) (nI (b + 1))) → (¬ Q a b → W14 J (nI a) n (nI r) (nI (b + 1))) → W14 J (nI a) (n + 1) (nI r) (nI b)) : W4 7 0 0 := by
  have inner : ∀ (J : Int32 → Int32 → Prop) (a r : Nat), J (nI (r + ck_ct (fun b => a < b ∧ Q a b) 6)) (nI (a + 1)) → ∀ d b : Nat, b + d = 6 → a < b → W14 J (nI a) (d + 1) (nI (r + ck_ct (fun b => a < b ∧ Q a b) b)) (nI b) := by
    intro J a r hJ d
    induction d with
    | zero =>
      intro b hb hab
      have e : b = 6 := by omega
      subst e
      exact hinend J a _ hJ
    | succ d ih =>
      intro b hb hab
      refine hinstep J (d + 1) a b _ hab (by omega) (fun z => ?_) (fun z => ?_)
      · have k := ih (b + 1) (by omega) (by omega)
        rw [ck_ct_t (p := fun b => a < b ∧ Q a b) ⟨hab, z⟩] at k
        exact k
      · have k := ih (b + 1) (by omega) (by omega)
        rw [ck_ct_f (p := fun b => a < b ∧ Q a b) (fun w => z w.2)] at k
        exact k
  have outer : ∀ d a : Nat, a + d = 6 → W4 (d + 1) (nI (ck_pc Q a)) (nI a) := by
    intro d
    induction d with
    | zero =>
      intro a ha
      have e : a = 6 := by omega
      subst e
      exact hend
    | succ d ih =>
      intro a ha
      refine hout (d + 1) a _ (by omega) ?_
      by_cases z : a = 5
      · subst z
        refine ⟨1, hinend _ 5 _ ?_⟩
        have k := ih 6 (by omega)
        have e : ck_pc Q 6 = ck_pc Q 5 := by
          show ck_pc Q 5 + ck_ct (fun b => 5 < b ∧ Q 5 b) 6 = ck_pc Q 5
          rw [ck_ct_no (p := fun b => 5 < b ∧ Q 5 b) (fun i hi w => by have := w.1; omega)]
          rfl
        rw [e] at k
        exact k
      · have e0 : ck_ct (fun b => a < b ∧ Q a b) (a + 1) = 0 := ck_ct_no fun i hi w => by have := w.1; omega
        have k := inner (W4 (d + 1)) a (ck_pc Q a) (ih (a + 1) (by omega)) (5 - a) (a + 1) (by omega) (by omega)
        rw [e0] at k
        exact ⟨_, k⟩
  exact outer 6 0 (by omega)
theorem cx_pairN {post : Int32 → Prop} {p0 p1 : Int32} (a b : Nat) (e0 : p0 = nI a) (e1 : p1 = nI b) (ha : a < 6) (hb : b < 6) (h : post (nI (ck_pn a b))) : wpX_pairNumber post p0 p1 := by
  subst e0 e1
  have k6 : ∀ x y : Nat, nI x * 6 + nI y = nI (x * 6 + y) := fun x y => by
    show nI x * nI 6 + nI y = _
    rw [pk_mul, nI_add]
  refine pk_le b a (fun z => ?_) (fun z => ?_)
  · rw [k6]
    rw [show ck_pn a b = b * 6 + a from if_pos z] at h
    exact h
  · rw [k6]
    rw [show ck_pn a b = a * 6 + b from if_neg (by omega)] at h
    exact h
theorem ck_pn_lt {a b : Nat} (ha : a < 6) (hb : b < 6) : ck_pn a b < 36 := by
  unfold ck_pn
  split <;> omega
section
variable {gc go cc cn : Int32} {ag A kn ks : Nat → Int32} {gen : Nat → Nat} {m c : Nat}
theorem cx_leastOrbit {post : Int32 → Prop} {gr : Nat → Nat} {n : Nat} (p : Nat) {p0 : Int32} (e0 : p0 = nI p) (hp : p < 6) (eo : go = nI n) (hn : n ≤ 720) (hb : ∀ e, e < n → gr e < 46656) (eA : ∀ e, e < n → A e = nI (gr e)) (h1 : (∀ e, e < n → p ≤ ck_dg 6 (gr e) p) → post 1) (h0 : ¬ (∀ e, e < n → p ≤ ck_dg 6 (gr e) p) → post 0) : wpX_isLeastOfOrbit post (gc, go, cc, cn, ag, A, kn, ks) p0 := by
  subst e0
  have key : ∀ d i : Nat, i + d = n → (∀ e, e < i → p ≤ ck_dg 6 (gr e) p) → wX_isLeastOfOrbit_2 post (nI p) gc go cc cn ag A kn ks (d + 1) (nI i) := by
    intro d
    induction d with
    | zero =>
      intro i hi hk
      exact br_t (by rw [eo]; exact nI_le (by omega) (by omega)) (h1 fun e he => hk e (by omega))
    | succ d ih =>
      intro i hi hk
      have := hb i (by omega)
      have hd := ck_d6 (gr i) p
      refine br_f (by rw [eo]; exact nI_ge (by omega) (by omega)) ⟨vp_in_nI (by omega) (by omega), ?_⟩
      refine cx_digit (gr i) 6 p (by rw [nI_clamp (by omega), eA i (by omega)]) rfl rfl (by omega) (by omega) (by omega) (by omega) ?_
      refine pk_le p (ck_dg 6 (gr i) p) (fun z => nm_r (nI_1 i) (ih (i + 1) (by omega) ?_)) (fun z => h0 fun w => by have := w i (by omega); omega)
      intro e he
      by_cases w : e = i
      · rw [w]; exact z
      · exact hk e (by omega)
  exact ⟨n + 1, key n 0 (by omega) fun e he => by omega⟩
theorem cx_orbits {post : Int32 → Prop} {gr : Nat → Nat} {n : Nat} (hg : ck_gok gen m) (hE : ck_En gr n (ck_G gen m)) (eo : go = nI n) (hn : n ≤ 720) (eA : ∀ e, e < n → A e = nI (gr e)) (h : post (nI (ck_ct (fun p => ∀ g, ck_G gen m g → p ≤ ck_dg 6 g p) 6))) : wpX_orbits post (gc, go, cc, cn, ag, A, kn, ks) := by
  have hb : ∀ e, e < n → gr e < 46656 := fun e he => (ck_G_pm hg ((hE.1 _).mpr ⟨e, he, rfl⟩)).1
  refine ⟨6 + 1, cl_cnt (fun f r i => wX_orbits_4 post gc go cc cn ag A kn ks f r i) (fun p => ∀ g, ck_G gen m g → p ≤ ck_dg 6 g p) 6 ?_ ?_⟩
  · exact br_t (nI_le (a := 6) (b := 6) (by omega) (by omega)) h
  · intro f i r hi ht hf
    refine br_f (nI_ge (b := 6) (by omega) (by omega)) (cx_leastOrbit i rfl hi eo hn hb eA (fun z => br_f (by decide) ?_) (fun z => br_t rfl ?_))
    · refine nm_r (nI_1 r) (nm_r (nI_1 i) (ht ?_))
      intro g hG
      obtain ⟨e, he, rfl⟩ := (hE.1 g).mp hG
      exact z e he
    · refine nm_r (nI_1 i) (hf fun w => z ?_)
      intro e he
      exact w _ ((hE.1 _).mpr ⟨e, he, rfl⟩)
theorem cx_leastPair {post : Int32 → Prop} {gr : Nat → Nat} {n : Nat} (a b : Nat) {p0 p1 : Int32} (e0 : p0 = nI a) (e1 : p1 = nI b) (ha : a < 6) (hb6 : b < 6) (eo : go = nI n) (hn : n ≤ 720) (hb : ∀ e, e < n → gr e < 46656) (eA : ∀ e, e < n → A e = nI (gr e)) (h1 : (∀ e, e < n → ck_pn a b ≤ ck_pn (ck_dg 6 (gr e) a) (ck_dg 6 (gr e) b)) → post 1) (h0 : ¬ (∀ e, e < n → ck_pn a b ≤ ck_pn (ck_dg 6 (gr e) a) (ck_dg 6 (gr e) b)) → post 0) : wpX_isLeastOfPairKind post (gc, go, cc, cn, ag, A, kn, ks) p0 p1 := by
  subst e0 e1
  have hl := ck_pn_lt ha hb6
  have key : ∀ d i : Nat, i + d = n → (∀ e, e < i → ck_pn a b ≤ ck_pn (ck_dg 6 (gr e) a) (ck_dg 6 (gr e) b)) → wX_isLeastOfPairKind_9 post (nI a) (nI b) (nI (ck_pn a b)) gc go cc cn ag A kn ks (d + 1) (nI i) := by
    intro d
    induction d with
    | zero =>
      intro i hi hk
      exact br_t (by rw [eo]; exact nI_le (by omega) (by omega)) (h1 fun e he => hk e (by omega))
    | succ d ih =>
      intro i hi hk
      have := hb i (by omega)
      have hd1 := ck_d6 (gr i) a
      have hd2 := ck_d6 (gr i) b
      have hl2 := ck_pn_lt hd1 hd2
      refine br_f (by rw [eo]; exact nI_ge (by omega) (by omega)) ⟨vp_in_nI (by omega) (by omega), ?_⟩
      refine cx_digit (gr i) 6 a (by rw [nI_clamp (by omega), eA i (by omega)]) rfl rfl (by omega) (by omega) (by omega) (by omega) ⟨vp_in_nI (by omega) (by omega), ?_⟩
      refine cx_digit (gr i) 6 b (by rw [nI_clamp (by omega), eA i (by omega)]) rfl rfl (by omega) (by omega) (by omega) (by omega) ?_
      refine cx_pairN _ _ rfl rfl hd1 hd2 ?_
      refine pk_le (ck_pn a b) (ck_pn (ck_dg 6 (gr i) a) (ck_dg 6 (gr i) b)) (fun z => nm_r (nI_1 i) (ih (i + 1) (by omega) ?_)) (fun z => h0 fun w => by have := w i (by omega); omega)
      intro e he
      by_cases w : e = i
      · rw [w]; exact z
      · exact hk e (by omega)
  unfold wpX_isLeastOfPairKind
  exact cx_pairN a b rfl rfl ha hb6 ⟨n + 1, key n 0 (by omega) fun e he => by omega⟩
theorem cx_pairKinds {post : Int32 → Prop} {gr : Nat → Nat} {n : Nat} (hg : ck_gok gen m) (hE : ck_En gr n (ck_G gen m)) (eo : go = nI n) (hn : n ≤ 720) (eA : ∀ e, e < n → A e = nI (gr e)) (h : post (nI (ck_pc (fun a b => ∀ g, ck_G gen m g → ck_pn a b ≤ ck_pn (ck_dg 6 g a) (ck_dg 6 g b)) 6))) : wpX_pairKinds post (gc, go, cc, cn, ag, A, kn, ks) := by
  have hb : ∀ e, e < n → gr e < 46656 := fun e he => (ck_G_pm hg ((hE.1 _).mpr ⟨e, he, rfl⟩)).1
  refine ⟨7, cl_pair (fun a b => ∀ g, ck_G gen m g → ck_pn a b ≤ ck_pn (ck_dg 6 g a) (ck_dg 6 g b)) (fun f r i => wX_pairKinds_4 post gc go cc cn ag A kn ks f r i) (fun J x2 f r i => wX_pairKinds_14 post J x2 gc go cc cn ag A kn ks f r i) ?_ ?_ ?_ ?_⟩
  · exact br_t (nI_le (a := 6) (b := 6) (by omega) (by omega)) h
  · intro f a r ha k
    exact br_f (nI_ge (b := 6) (by omega) (by omega)) (nm_r (nI_1 a) k)
  · intro J a r k
    exact br_t (nI_le (a := 6) (b := 6) (by omega) (by omega)) (nm_r (nI_1 a) k)
  · intro J f a b r hab hb6 ht hf
    refine br_f (nI_ge (b := 6) (by omega) (by omega)) (cx_leastPair a b rfl rfl (by omega) hb6 eo hn hb eA (fun z => br_f (by decide) ?_) (fun z => br_t rfl ?_))
    · refine nm_r (nI_1 r) (nm_r (nI_1 b) (ht ?_))
      intro g hG
      obtain ⟨e, he, rfl⟩ := (hE.1 g).mp hG
      exact z e he
    · refine nm_r (nI_1 b) (hf fun w => z ?_)
      intro e he
      exact w _ ((hE.1 _).mpr ⟨e, he, rfl⟩)
end
end
section
/-! Y: the group is listed -/
def ck_ls (g i : Nat) : Nat → Nat → Nat
  | 0, _ => 0
  | d + 1, k => (if ck_dg 6 g k < ck_dg 6 g i then 1 else 0) + ck_ls g i d (k + 1)
def ck_pla (g : Nat) : Nat → Nat
  | 0 => 0
  | i + 1 => ck_pla g i * (6 - i) + ck_ls g i (5 - i) (i + 1)
theorem ck_pla_L : ck_L.map (fun g => ck_pla g 6) = List.range 720 := by decide +kernel
theorem ck_pla_at {i : Nat} (hi : i < ck_L.length) : ck_pla (ck_L[i]) 6 = i := by
  have h7 : i < 720 := by rw [← ck_L_len]; exact hi
  have k := congrArg (fun l : List Nat => l[i]?) ck_pla_L
  rw [List.getElem?_map, List.getElem?_eq_getElem hi, List.getElem?_range h7] at k
  exact Option.some.inj k
theorem ck_pla_lt {g : Nat} (h : ck_pm g) : ck_pla g 6 < 720 := by
  obtain ⟨i, hi, rfl⟩ := List.mem_iff_getElem.mp (ck_memL h)
  rw [ck_pla_at hi, ← ck_L_len]
  exact hi
theorem ck_pla_inj {g h : Nat} (hg : ck_pm g) (hh : ck_pm h) (e : ck_pla g 6 = ck_pla h 6) : g = h := by
  obtain ⟨i, hi, rfl⟩ := List.mem_iff_getElem.mp (ck_memL hg)
  obtain ⟨j, hj, rfl⟩ := List.mem_iff_getElem.mp (ck_memL hh)
  rw [ck_pla_at hi, ck_pla_at hj] at e
  subst e
  rfl
/-- Horner: the digits from i on, d of them -/
def ck_hr (b : Nat) (f : Nat → Nat) : Nat → Nat → Nat
  | 0, _ => 0
  | d + 1, i => b * ck_hr b f d (i + 1) + f i
theorem ck_hr_enc (b : Nat) (f : Nat → Nat) : ∀ d k : Nat, ck_enc b f k + b ^ k * ck_hr b f d k = ck_enc b f (k + d) := by
  intro d
  induction d with
  | zero => intro k; rfl
  | succ d ih =>
    intro k
    have e := ih (k + 1)
    rw [show k + 1 + d = k + (d + 1) from by omega] at e
    rw [← e]
    show ck_enc b f k + b ^ k * (b * ck_hr b f d (k + 1) + f k) = ck_enc b f k + f k * b ^ k + b ^ (k + 1) * ck_hr b f d (k + 1)
    rw [Nat.mul_add, ← Nat.mul_assoc, ← Nat.pow_succ, Nat.mul_comm (f k), Nat.add_right_comm, Nat.add_assoc]
theorem ck_hr_6 (b : Nat) (f : Nat → Nat) : ck_hr b f 6 0 = ck_enc b f 6 := by
  have e := ck_hr_enc b f 6 0
  rw [Nat.pow_zero, Nat.one_mul] at e
  rw [show ck_enc b f 0 = 0 from rfl, Nat.zero_add, Nat.zero_add] at e
  exact e
theorem cb_ix {y r : Int32} (n p : Nat) (ey : y = nI n) (er : r = nI p) : 6 * y + r = nI (6 * n + p) := by
  subst ey er
  show nI 6 * nI n + nI p = _
  rw [pk_mul, nI_add]
def ck_car (gen : Nat → Nat) (m : Nat) (car : Nat → Int32) : Prop := ∀ i, i < m → ∀ p, p < 6 → car (6 * i + p) = nI (ck_dg 6 (gen i) p)
/-- what is listed -/
def ck_LI (lis : Nat → Int32) (gr : Nat → Nat) (n : Nat) : Prop := ∀ g, ck_pm g → (lis (ck_pla g 6) = 0 ↔ ¬ ck_has gr n g)
theorem cb_b1 : vp_nar .boolean 1 = 1 := by rfl
theorem cb_b0 : vp_nar .boolean 0 = 0 := by rfl
theorem ck_LI_app {lis : Nat → Int32} {gr : Nat → Nat} {n x : Nat} (h : ck_LI lis gr n) (hx : ck_pm x) : ck_LI (upd lis (ck_pla x 6) 1) (ck_app gr n x) (n + 1) := by
  intro g hg
  by_cases z : g = x
  · subst z
    rw [pk_us]
    exact ⟨fun e => absurd e (by decide), fun w => absurd ck_has_new w⟩
  · rw [pk_un (fun e => z (ck_pla_inj hg hx e)), h g hg]
    constructor
    · rintro w ⟨q, hq, e⟩
      by_cases v : q = n
      · rw [v, ck_app_s] at e
        exact z e.symm
      · rw [ck_app_n (by omega)] at e
        exact w ⟨q, by omega, e⟩
    · intro w v
      exact w (ck_has_app v)
section
variable {mm cl sz : Int32} {car cod nam wai grp lis : Nat → Int32} {gen : Nat → Nat} {m c : Nat}
theorem cy_pl18 {post : Int32 → Prop} {J4 : Int32 → Int32 → Prop} {g num i : Nat} (hg : g < 46656) (hi : i < 6) : ∀ d k acc : Nat, k + d = 6 → J4 (nI (num * (6 - i) + (acc + ck_ls g i d k))) (nI (i + 1)) → wY_place_18 post J4 (nI g) (nI num) (nI i) mm cl sz car cod nam wai grp lis (d + 1) (nI acc) (nI k) := by
  intro d
  induction d with
  | zero =>
    intro k acc hk hJ
    refine br_t (nI_le (a := 6) (by omega) (by omega)) (nm_r (e' := nI (num * (6 - i) + acc)) ?_ (nm_r (nI_1 i) hJ))
    rw [show (6 : Int32) - nI i = nI (6 - i) from pk_sub (a := 6) (by omega), pk_mul, nI_add]
  | succ d ih =>
    intro k acc hk hJ
    have h1 := ck_d6 g k
    have h2 := ck_d6 g i
    have e : ck_ls g i (d + 1) k = (if ck_dg 6 g k < ck_dg 6 g i then 1 else 0) + ck_ls g i d (k + 1) := rfl
    refine br_f (nI_ge (b := 6) (by omega) (by omega)) ?_
    refine cy_digit g 6 k rfl rfl rfl (by omega) (by omega) (by omega) (by omega) ?_
    refine cy_digit g 6 i rfl rfl rfl (by omega) (by omega) (by omega) (by omega) ?_
    refine pk_le (ck_dg 6 g i) (ck_dg 6 g k) (fun z => nm_r (nI_1 k) (ih (k + 1) acc (by omega) ?_)) (fun z => nm_r (nI_1 acc) (nm_r (nI_1 k) (ih (k + 1) (acc + 1) (by omega) ?_)))
    · rw [if_neg (by omega), Nat.zero_add] at e
      rw [e] at hJ
      exact hJ
    · rw [if_pos z] at e
      rw [e, ← Nat.add_assoc acc] at hJ
      exact hJ
theorem cy_place {post : Int32 → Prop} (g : Nat) {p0 : Int32} (e0 : p0 = nI g) (hg : g < 46656) (h : post (nI (ck_pla g 6))) : wpY_place post (mm, cl, sz, car, cod, nam, wai, grp, lis) p0 := by
  subst e0
  have key : ∀ d i : Nat, i + d = 6 → wY_place_4 post (nI g) mm cl sz car cod nam wai grp lis (d + 1) (nI (ck_pla g i)) (nI i) := by
    intro d
    induction d with
    | zero =>
      intro i hi
      have e : i = 6 := by omega
      subst e
      exact br_t (nI_le (a := 6) (b := 6) (by omega) (by omega)) h
    | succ d ih =>
      intro i hi
      refine br_f (nI_ge (b := 6) (by omega) (by omega)) (nm_r (nI_1 i) ⟨5 - i + 1, ?_⟩)
      refine cy_pl18 hg (by omega) (5 - i) (i + 1) 0 (by omega) ?_
      rw [Nat.zero_add]
      exact ih (i + 1) (by omega)
  exact ⟨7, key 6 0 (by omega)⟩
theorem cy_followed {post : Int32 → Prop} (g n : Nat) {p0 p1 : Int32} (e0 : p0 = nI g) (e1 : p1 = nI n) (hg : g < 46656) (hn : n < m) (hm : m ≤ 3) (hcar : ck_car gen m car) (h : post (nI (ck_cmp g (gen n)))) : wpY_followed post (mm, cl, sz, car, cod, nam, wai, grp, lis) p0 p1 := by
  subst e0 e1
  have key : ∀ j : Nat, j ≤ 6 → wY_followed_5 post (nI g) (nI n) mm cl sz car cod nam wai grp lis (j + 1) (nI (ck_hr 6 (fun p => ck_dg 6 (gen n) (ck_dg 6 g p)) (6 - j) j)) (nI j + (-1)) := by
    intro j
    induction j with
    | zero =>
      intro _
      refine br_t (by decide) ?_
      rw [ck_hr_6]
      exact h
    | succ j ih =>
      intro hj
      rw [pk_m1]
      have hd := ck_d6 g j
      refine br_f (nI_pos (by omega)) (cy_digit g 6 j rfl rfl rfl (by omega) (by omega) (by omega) (by omega) ?_)
      rw [cb_ix n (ck_dg 6 g j) rfl rfl]
      refine ⟨vp_in_nI (by omega) (by omega), ?_⟩
      rw [nI_clamp (by omega), hcar n hn _ hd]
      refine nm_r (e' := nI (ck_hr 6 (fun p => ck_dg 6 (gen n) (ck_dg 6 g p)) (6 - j) j)) ?_ (nm_e (ih (by omega)))
      rw [show (6 : Nat) - j = (6 - (j + 1)) + 1 from by omega]
      exact cb_ix _ _ rfl rfl
  exact ⟨7, key 6 (by omega)⟩
theorem cy_list {post : SY → Prop} (x : Nat) {n : Nat} {p0 : Int32} (e0 : p0 = nI x) (hx : ck_pm x) (eo : sz = nI n) (h1 : ¬ lis (ck_pla x 6) = 0 → post (mm, cl, sz, car, cod, nam, wai, grp, lis)) (h0 : lis (ck_pla x 6) = 0 → n < 720 ∧ post (mm, cl, nI (n + 1), car, cod, nam, wai, upd grp n (nI x), upd lis (ck_pla x 6) 1)) : wpY_list post (mm, cl, sz, car, cod, nam, wai, grp, lis) p0 := by
  subst e0
  have hl := ck_pla_lt hx
  unfold wpY_list
  refine cy_place x rfl hx.1 ⟨vp_in_nI hl (by omega), ?_⟩
  rw [nI_clamp (n := ck_pla x 6) (by omega)]
  refine br_c (fun z => ⟨vp_in_nI hl (by omega), ?_⟩) h1
  obtain ⟨hn, k⟩ := h0 z
  subst eo
  rw [cb_b1]
  refine nm_e ⟨vp_in_nI hn (by omega), ?_⟩
  rw [nI_clamp (n := n) (by omega)]
  exact nm_e (nm_r (nI_1 n) k)
theorem cy_lg45 {post : SY → Prop} {J35 : Int32 → Int32 → Int32 → Int32 → (Nat → Int32) → (Nat → Int32) → (Nat → Int32) → (Nat → Int32) → (Nat → Int32) → (Nat → Int32) → Prop} {e : Nat} (hg : ck_gok gen m) (hm : m ≤ 3) (hcar : ck_car gen m car)
    (H : ∀ (sz' : Int32) (grp' lis' : Nat → Int32) (gr' : Nat → Nat) (n' : Nat), ck_B gen m gr' n' → sz' = nI n' → (∀ e, e < n' → grp' e = nI (gr' e)) → ck_LI lis' gr' n' → e < n' → ck_wo gen m gr' n' (e + 1) → J35 (nI (e + 1)) (nI m) cl sz' car cod nam wai grp' lis') :
    ∀ d i : Nat, i + d = m → ∀ (sz : Int32) (grp lis : Nat → Int32) (gr : Nat → Nat) (n : Nat), ck_B gen m gr n → sz = nI n → (∀ e, e < n → grp e = nI (gr e)) → ck_LI lis gr n → e < n → ck_wo gen m gr n e → (∀ j, j < i → ck_has gr n (ck_cmp (gr e) (gen j))) → wY_listGroup_45 post J35 (nI e) (d + 1) (nI i) (nI m) cl sz car cod nam wai grp lis := by
  intro d
  induction d with
  | zero =>
    intro i hi sz grp lis gr n hB eo eA hL he hw hj
    refine br_t (nI_le (by omega) (by omega)) (nm_r (nI_1 e) (H sz grp lis gr n hB eo eA hL he ?_))
    intro e' he' j hjm
    by_cases z : e' = e
    · rw [z]; exact hj j (by omega)
    · exact hw e' (by omega) j hjm
  | succ d ih =>
    intro i hi sz grp lis gr n hB eo eA hL he hw hj
    have hn := ck_B_le hg hB
    refine br_f (nI_ge (by omega) (by omega)) ⟨vp_in_nI (by omega) (by omega), ?_⟩
    have hG := hB.2.2.1 e he
    have hGx := ck_G_step hG (show i < m by omega)
    refine cy_followed (gr e) i (by rw [nI_clamp (by omega), eA e he]) rfl (ck_G_pm hg hG).1 (by omega) hm hcar ?_
    refine cy_list (ck_cmp (gr e) (gen i)) rfl (ck_G_pm hg hGx) eo (fun z => ?_) (fun z => ?_)
    · have hh : ck_has gr n (ck_cmp (gr e) (gen i)) := Classical.byContradiction fun w => z ((hL _ (ck_G_pm hg hGx)).mpr w)
      refine nm_r (nI_1 i) (ih (i + 1) (by omega) sz grp lis gr n hB eo eA hL he hw ?_)
      intro j hji
      by_cases w : j = i
      · rw [w]; exact hh
      · exact hj j (by omega)
    · have hh := (hL _ (ck_G_pm hg hGx)).mp z
      refine ⟨ck_B_lt hg hB hGx hh, ?_⟩
      have hx' := ck_ext2_app gr n (ck_cmp (gr e) (gen i))
      refine nm_r (nI_1 i) (ih (i + 1) (by omega) _ _ _ _ (n + 1) (ck_B_app hB hGx hh) rfl (ck_updA eA) (ck_LI_app hL (ck_G_pm hg hGx)) (by omega) (ck_wo_ext hx' (by omega) hw) ?_)
      intro j hji
      rw [hx'.2 e he]
      by_cases w : j = i
      · rw [w]; exact ck_has_new
      · exact ck_ext2_has hx' (hj j (by omega))
theorem cy_lg35 {post : SY → Prop} (hg : ck_gok gen m) (hm : m ≤ 3) (hcar : ck_car gen m car)
    (H : ∀ (sz' : Int32) (grp' lis' : Nat → Int32) (gr' : Nat → Nat) (n' : Nat), ck_En gr' n' (ck_G gen m) → n' ≤ 720 → sz' = nI n' → (∀ e, e < n' → grp' e = nI (gr' e)) → post (nI m, cl, sz', car, cod, nam, wai, grp', lis')) :
    ∀ d e : Nat, e + d = 720 → ∀ (sz : Int32) (grp lis : Nat → Int32) (gr : Nat → Nat) (n : Nat), ck_B gen m gr n → sz = nI n → (∀ e, e < n → grp e = nI (gr e)) → ck_LI lis gr n → ck_wo gen m gr n e → wY_listGroup_35 post (d + 1) (nI e) (nI m) cl sz car cod nam wai grp lis := by
  intro d
  induction d with
  | zero =>
    intro e he sz grp lis gr n hB eo eA hL hw
    have hn := ck_B_le hg hB
    exact br_t (by rw [eo]; exact nI_le (by omega) (by omega)) (H sz grp lis gr n (ck_B_En hB fun q hq i hi => hw q (by omega) i hi) hn eo eA)
  | succ d ih =>
    intro e he sz grp lis gr n hB eo eA hL hw
    have hn := ck_B_le hg hB
    by_cases z : e < n
    · refine br_f (by rw [eo]; exact nI_ge z (by omega)) ⟨m + 1, ?_⟩
      refine cy_lg45 hg hm hcar ?_ m 0 (by omega) sz grp lis gr n hB eo eA hL z hw (fun j hj => by omega)
      intro sz' grp' lis' gr' n' hB' eo' eA' hL' _ hw'
      exact ih (e + 1) (by omega) sz' grp' lis' gr' n' hB' eo' eA' hL' hw'
    · exact br_t (by rw [eo]; exact nI_le (by omega) (by omega)) (H sz grp lis gr n (ck_B_En hB fun q hq i hi => hw q (by omega) i hi) hn eo eA)
theorem cy_lg2 {post : SY → Prop} (em : mm = nI m) (hg : ck_gok gen m) (hm : m ≤ 3) (hcar : ck_car gen m car)
    (H : ∀ (sz' : Int32) (grp' lis' : Nat → Int32) (gr' : Nat → Nat) (n' : Nat), ck_En gr' n' (ck_G gen m) → n' ≤ 720 → sz' = nI n' → (∀ e, e < n' → grp' e = nI (gr' e)) → post (mm, cl, sz', car, cod, nam, wai, grp', lis')) :
    ∀ d i : Nat, i + d = 720 → ∀ lis : Nat → Int32, (∀ j, j < i → lis j = 0) → wY_listGroup_2 post mm cl sz (d + 1) (nI i) car cod nam wai grp lis := by
  subst em
  intro d
  induction d with
  | zero =>
    intro i hi lis h
    refine br_t (nI_le (a := 720) (by omega) (by omega)) ?_
    have hz : ∀ g, ck_pm g → lis (ck_pla g 6) = 0 := fun g hg => h _ (by have := ck_pla_lt hg; omega)
    refine cy_list (n := 0) 44790 rfl ck_pm_id rfl (fun z => absurd (hz _ ck_pm_id) z) (fun _ => ⟨by omega, ?_⟩)
    have hL0 : ck_LI lis (fun _ => 44790) 0 := fun g hg => ⟨fun _ => by rintro ⟨q, hq, _⟩; omega, fun _ => hz g hg⟩
    have e1 : ck_app (fun _ => 44790) 0 44790 = fun _ => 44790 := by
      funext j
      unfold ck_app
      split <;> rfl
    refine ⟨721, cy_lg35 hg hm hcar H 720 0 (by omega) _ _ _ (fun _ => 44790) 1 (ck_B_0 gen m rfl) rfl ?_ ?_ (fun e he => by omega)⟩
    · intro e he
      have z : e = 0 := by omega
      subst z
      exact pk_us
    · have k := ck_LI_app hL0 ck_pm_id
      rw [e1] at k
      exact k
  | succ d ih =>
    intro i hi lis h
    refine br_f (nI_ge (b := 720) (by omega) (by omega)) ⟨vp_in_nI (by omega) (by omega), ?_⟩
    rw [nI_clamp (n := i) (by omega), cb_b0]
    refine nm_e (nm_r (nI_1 i) (ih (i + 1) (by omega) _ ?_))
    intro j hj
    by_cases z : j = i
    · rw [z]; exact pk_us
    · rw [pk_un z]
      exact h j (by omega)
theorem cy_listGroup {post : SY → Prop} (em : mm = nI m) (hg : ck_gok gen m) (hm : m ≤ 3) (hcar : ck_car gen m car)
    (H : ∀ (sz' : Int32) (grp' lis' : Nat → Int32) (gr' : Nat → Nat) (n' : Nat), ck_En gr' n' (ck_G gen m) → n' ≤ 720 → sz' = nI n' → (∀ e, e < n' → grp' e = nI (gr' e)) → post (mm, cl, sz', car, cod, nam, wai, grp', lis')) :
    wpY_listGroup post (mm, cl, sz, car, cod, nam, wai, grp, lis) :=
  ⟨721, cy_lg2 em hg hm hcar H 720 0 (by omega) lis (fun j hj => by omega)⟩
end
end
section
/-! Y: order and withCycles -/
def ck_wk (g : Nat) : Nat → Nat → Nat → Option Nat
  | 0, _, _ => none
  | f + 1, s, q => if s.testBit q then some s else ck_wk g f (s ||| 2 ^ q) (ck_dg 6 g q)
def ck_cyY (g : Nat) : Nat → Option (Nat × Nat)
  | 0 => some (0, 0)
  | i + 1 => match ck_cyY g i with
    | none => none
    | some (s, n) => match ck_wk g 7 s i with
      | none => none
      | some s' => some (s', n + if s.testBit i then 0 else 1)
theorem ck_cyY_L : ∀ g, g ∈ ck_L → (∀ i, i < 7 → (ck_cyY g i).isSome = true) ∧ (ck_cyY g 6).map Prod.snd = some (ck_cy g 6) := by decide +kernel
theorem ck_wk_lt (g : Nat) : ∀ f s q s' : Nat, s < 64 → q < 6 → ck_wk g f s q = some s' → s' < 64 := by
  intro f
  induction f with
  | zero => intro s q s' _ _ h; exact absurd h (by intro z; cases z)
  | succ f ih =>
    intro s q s' hs hq h
    have e : ck_wk g (f + 1) s q = if s.testBit q then some s else ck_wk g f (s ||| 2 ^ q) (ck_dg 6 g q) := rfl
    rw [e] at h
    by_cases z : s.testBit q = true
    · rw [if_pos z] at h
      cases h
      exact hs
    · rw [if_neg z] at h
      exact ih _ _ _ (cb_or_lt hs hq) (ck_d6 g q) h
section
variable {mm cl sz : Int32} {car cod nam wai grp lis : Nat → Int32} {gen : Nat → Nat} {m c : Nat}
theorem cy_wk {post : Int32 → Prop} {J7 : Int32 → Int32 → Int32 → Prop} {g i s' : Nat} {x3 : Int32} (hg : g < 46656) (hJ : J7 (nI s') x3 (nI (i + 1))) : ∀ f s q : Nat, s < 64 → q < 6 → ck_wk g f s q = some s' → wY_cycles_35 post J7 (nI g) x3 (nI i) mm cl sz car cod nam wai grp lis f (nI s) (nI q) := by
  intro f
  induction f with
  | zero => intro s q _ _ h; exact absurd h (by intro z; cases z)
  | succ f ih =>
    intro s q hs hq h
    have e : ck_wk g (f + 1) s q = if s.testBit q then some s else ck_wk g f (s ||| 2 ^ q) (ck_dg 6 g q) := rfl
    rw [e] at h
    have eb := cb_bit s hs q hq
    by_cases z : s.testBit q = true
    · rw [if_pos z] at h
      cases h
      rw [if_pos z] at eb
      exact br_f (by rw [eb]; decide) (nm_r (nI_1 i) hJ)
    · rw [if_neg z] at h
      rw [if_neg z] at eb
      refine br_t (by rw [eb]; rfl) (nm_r (e' := nI (s ||| 2 ^ q)) (by rw [cb_sh q hq, cb_or]) ?_)
      exact cy_digit g 6 q rfl rfl rfl (by omega) (by omega) (by omega) (by omega) (ih _ _ (cb_or_lt hs hq) (ck_d6 g q) h)
theorem cy_cycles {post : Int32 → Prop} (g : Nat) {p0 : Int32} (e0 : p0 = nI g) (hg : ck_pm g) (h : post (nI (ck_cy g 6))) : wpY_cycles post (mm, cl, sz, car, cod, nam, wai, grp, lis) p0 := by
  subst e0
  obtain ⟨k1, k2⟩ := ck_cyY_L g (ck_memL hg)
  have key : ∀ d i s n : Nat, i + d = 6 → s < 64 → ck_cyY g i = some (s, n) → wY_cycles_7 post (nI g) mm cl sz car cod nam wai grp lis (d + 1) (nI s) (nI n) (nI i) := by
    intro d
    induction d with
    | zero =>
      intro i s n hi hs e
      have z : i = 6 := by omega
      subst z
      rw [e] at k2
      have k3 : n = ck_cy g 6 := Option.some.inj k2
      subst k3
      exact br_t (nI_le (a := 6) (b := 6) (by omega) (by omega)) h
    | succ d ih =>
      intro i s n hi hs e
      have kk := k1 (i + 1) (by omega)
      have e2 : ck_cyY g (i + 1) = match ck_wk g 7 s i with | none => none | some s' => some (s', n + if s.testBit i then 0 else 1) := by
        show (match ck_cyY g i with | none => none | some (s, n) => match ck_wk g 7 s i with | none => none | some s' => some (s', n + if s.testBit i then 0 else 1)) = _
        rw [e]
      cases w : ck_wk g 7 s i with
      | none =>
        rw [w] at e2
        rw [e2] at kk
        exact absurd (show false = true from kk) (by decide)
      | some s' =>
        rw [w] at e2
        have hs' := ck_wk_lt g 7 s i s' hs (by omega) w
        have kn := ih (i + 1) s' _ (by omega) hs' e2
        have eb := cb_bit s hs i (by omega)
        refine br_f (nI_ge (b := 6) (by omega) (by omega)) ?_
        by_cases z : s.testBit i = true
        · rw [if_pos z] at eb
          rw [if_pos z] at kn
          exact br_f (by rw [eb]; decide) ⟨7, cy_wk hg.1 kn 7 s i hs (by omega) w⟩
        · rw [if_neg z] at eb
          rw [if_neg z] at kn
          exact br_t (by rw [eb]; rfl) (nm_r (nI_1 n) ⟨7, cy_wk hg.1 kn 7 s i hs (by omega) w⟩)
  exact ⟨7, key 6 0 0 0 (by omega) (by omega) rfl⟩
theorem cy_order {post : Int32 → SY → Prop} (em : mm = nI m) (hg : ck_gok gen m) (hm : m ≤ 3) (hcar : ck_car gen m car)
    (H : ∀ (sz' : Int32) (grp' lis' : Nat → Int32) (gr' : Nat → Nat) (n' : Nat), ck_En gr' n' (ck_G gen m) → post (nI n') (mm, cl, sz', car, cod, nam, wai, grp', lis')) :
    wpY_order post (mm, cl, sz, car, cod, nam, wai, grp, lis) := by
  unfold wpY_order
  refine cy_listGroup em hg hm hcar ?_
  intro sz' grp' lis' gr' n' hE _ eo _
  have k := H sz' grp' lis' gr' n' hE
  rw [← eo] at k
  exact k
theorem cy_withCycles {post : Int32 → SY → Prop} {p0 : Int32} (em : mm = nI m) (hg : ck_gok gen m) (hm : m ≤ 3) (hcar : ck_car gen m car)
    (H : ∀ (sz' : Int32) (grp' lis' : Nat → Int32) (gr' : Nat → Nat) (n' : Nat), ck_En gr' n' (ck_G gen m) → post (nI (ck_ct (fun e => nI (ck_cy (gr' e) 6) = p0) n')) (mm, cl, sz', car, cod, nam, wai, grp', lis')) :
    wpY_withCycles post (mm, cl, sz, car, cod, nam, wai, grp, lis) p0 := by
  unfold wpY_withCycles
  refine cy_listGroup em hg hm hcar ?_
  intro sz' grp' lis' gr n hE hn eo eA
  refine ⟨n + 1, cl_cnt (fun f r i => wY_withCycles_8 post p0 mm cl sz' car cod nam wai grp' lis' f r i) (fun e => nI (ck_cy (gr e) 6) = p0) n ?_ ?_⟩
  · exact br_t (by rw [eo]; exact nI_le (by omega) (by omega)) (H sz' grp' lis' gr n hE)
  · intro f i r hi ht hf
    refine br_f (by rw [eo]; exact nI_ge (by omega) (by omega)) ⟨vp_in_nI (by omega) (by omega), ?_⟩
    refine cy_cycles (gr i) (by rw [nI_clamp (n := i) (by omega), eA i hi]) (ck_G_pm hg ((hE.1 _).mpr ⟨i, hi, rfl⟩)) ?_
    exact br_c (fun z => nm_r (nI_1 r) (nm_r (nI_1 i) (ht z))) (fun z => nm_r (nI_1 i) (hf z))
end
end
section
/-! Y: the kinds are found -/
def ck_SI (gen : Nat → Nat) (m c t : Nat) (nam0 : Nat → Int32) (S : Nat → Prop) (wt : Nat → Nat) (left : Nat) (nam wai : Nat → Int32) : Prop :=
  (∀ y, y < c ^ 6 → S y → nam y = nI t) ∧ (∀ y, y < c ^ 6 → ¬ S y → nam y = nam0 y) ∧ (∀ y, S y → ck_R gen m c t y) ∧ S t ∧ (∀ j, j < left → wai j = nI (wt j) ∧ S (wt j)) ∧ left ≤ ck_ct S (c ^ 6)
theorem ck_SI_push {gen : Nat → Nat} {m c t : Nat} {nam0 : Nat → Int32} {S : Nat → Prop} {wt : Nat → Nat} {left x : Nat} {nam wai : Nat → Int32} (h : ck_SI gen m c t nam0 S wt left nam wai) (hx : x < c ^ 6) (hS : ¬ S x) (hR : ck_R gen m c t x) : ck_SI gen m c t nam0 (fun y => S y ∨ y = x) (ck_app wt left x) (left + 1) (upd nam x (nI t)) (upd wai left (nI x)) := by
  obtain ⟨h1, h2, h3, h4, h5, h6⟩ := h
  refine ⟨?_, ?_, ?_, Or.inl h4, ?_, ?_⟩
  · intro y hy hs
    by_cases z : y = x
    · rw [z]; exact pk_us
    · rw [pk_un z]
      exact h1 y hy (hs.resolve_right z)
  · intro y hy hs
    have z : y ≠ x := fun z => hs (Or.inr z)
    rw [pk_un z]
    exact h2 y hy fun w => hs (Or.inl w)
  · intro y hs
    rcases hs with hs | rfl
    · exact h3 y hs
    · exact hR
  · intro j hj
    by_cases z : j = left
    · rw [z, ck_app_s]
      exact ⟨pk_us, Or.inr rfl⟩
    · rw [pk_un z, ck_app_n (by omega)]
      exact ⟨(h5 j (by omega)).1, Or.inl (h5 j (by omega)).2⟩
  · rw [ck_ct_ins hS hx]
    omega
section
variable {mm cl sz : Int32} {car cod nam wai grp lis : Nat → Int32} {gen : Nat → Nat} {m c : Nat}
theorem cy_dn18 {post : Int32 → Prop} {J5 : Int32 → Int32 → Prop} {x n i acc : Nat} (ec : cl = nI c) (hc : 0 < c) (hc3 : c ≤ 3) (hx : x < 2 ^ 31) (hn : n < m) (hm : m ≤ 3) (hi : i < 6) (hcar : ck_car gen m car) (hJ : J5 (nI (acc + ck_dg c x i * c ^ ck_dg 6 (gen n) i)) (nI (i + 1))) : ∀ d k : Nat, k + d = ck_dg 6 (gen n) i → wY_done_18 post J5 (nI x) (nI n) (nI acc) (nI i) mm cl sz car cod nam wai grp lis (d + 1) (nI (c ^ k)) (nI k) := by
  have h6 := ck_d6 (gen n) i
  have ei : (6 * nI n + nI i : Int32) = nI (6 * n + i) := cb_ix n i rfl rfl
  have ea : car (6 * nI n + nI i : Int32).toNatClampNeg = nI (ck_dg 6 (gen n) i) := by
    rw [ei, nI_clamp (by omega), hcar n hn i hi]
  intro d
  induction d with
  | zero =>
    intro k hk
    refine ⟨by rw [ei]; exact vp_in_nI (by omega) (by omega), br_t (by rw [ea]; exact nI_le (by omega) (by omega)) ?_⟩
    refine cy_digit x c i rfl ec rfl hc (by omega) (by omega) hx (nm_r (e' := nI (acc + ck_dg c x i * c ^ ck_dg 6 (gen n) i)) ?_ (nm_r (nI_1 i) hJ))
    rw [pk_mul, nI_add, show k = ck_dg 6 (gen n) i from by omega]
  | succ d ih =>
    intro k hk
    refine ⟨by rw [ei]; exact vp_in_nI (by omega) (by omega), br_f (by rw [ea]; exact nI_ge (by omega) (by omega)) ?_⟩
    refine nm_r (e' := nI (c ^ (k + 1))) ?_ (nm_r (nI_1 k) (ih (k + 1) (by omega)))
    rw [ec, pk_mul, Nat.pow_succ]
theorem cy_done {post : Int32 → Prop} (x n : Nat) {p0 p1 : Int32} (e0 : p0 = nI x) (e1 : p1 = nI n) (ec : cl = nI c) (hc : 0 < c) (hc3 : c ≤ 3) (hx : x < 2 ^ 31) (hn : n < m) (hm : m ≤ 3) (hcar : ck_car gen m car) (h : post (nI (ck_act c (gen n) x))) : wpY_done post (mm, cl, sz, car, cod, nam, wai, grp, lis) p0 p1 := by
  subst e0 e1
  have key : ∀ d i : Nat, i + d = 6 → wY_done_5 post (nI x) (nI n) mm cl sz car cod nam wai grp lis (d + 1) (nI (ck_sum (fun i => ck_dg c x i * c ^ ck_dg 6 (gen n) i) i)) (nI i) := by
    intro d
    induction d with
    | zero =>
      intro i hi
      have e : i = 6 := by omega
      subst e
      exact br_t (nI_le (a := 6) (b := 6) (by omega) (by omega)) h
    | succ d ih =>
      intro i hi
      refine br_f (nI_ge (b := 6) (by omega) (by omega)) ⟨ck_dg 6 (gen n) i + 1, ?_⟩
      exact cy_dn18 ec hc hc3 hx hn hm (by omega) hcar (ih (i + 1) (by omega)) _ 0 (by omega)
  exact ⟨7, key 6 0 (by omega)⟩
theorem cy_sp33 {post : SY → Prop} {J16 : Int32 → (Nat → Int32) → (Nat → Int32) → (Nat → Int32) → (Nat → Int32) → (Nat → Int32) → (Nat → Int32) → Prop} {t y0 f : Nat} {nam0 : Nat → Int32} (em : mm = nI m) (hg : ck_gok gen m) (hm : m ≤ 3) (hcar : ck_car gen m car) (ec : cl = nI c) (hc : 0 < c) (hc3 : c ≤ 3) (ht : t < c ^ 6) (hy0 : ck_R gen m c t y0) (h0 : ∀ y, ck_R gen m c t y → nam0 y = -1)
    (H : ∀ (S : Nat → Prop) (wt : Nat → Nat) (left : Nat) (nam wai : Nat → Int32), ck_SI gen m c t nam0 S wt left nam wai → (∀ y, S y → (∃ j, j < left ∧ wt j = y) ∨ ∀ i, i < m → S (ck_act c (gen i) y)) → 2 * (c ^ 6 - ck_ct S (c ^ 6)) + left < f → J16 (nI left) car cod nam wai grp lis) :
    ∀ d n : Nat, n + d = m → ∀ (S : Nat → Prop) (wt : Nat → Nat) (left : Nat) (nam wai : Nat → Int32), ck_SI gen m c t nam0 S wt left nam wai → (∀ y, S y → (∃ j, j < left ∧ wt j = y) ∨ (∀ i, i < m → S (ck_act c (gen i) y)) ∨ y = y0) → (∀ i, i < n → S (ck_act c (gen i) y0)) → 2 * (c ^ 6 - ck_ct S (c ^ 6)) + left < f → wY_spread_33 post J16 (nI t) (nI y0) mm cl sz (d + 1) (nI left) (nI n) car cod nam wai grp lis := by
  have hN := cb_c6 hc3
  have hyN := ck_R_lt hg hc hy0
  intro d
  induction d with
  | zero =>
    intro n hn S wt left nam wai hI hcl hdo hf
    refine br_t (by rw [em]; exact nI_le (by omega) (by omega)) (H S wt left nam wai hI ?_ hf)
    intro y hy
    rcases hcl y hy with w | w | w
    · exact Or.inl w
    · exact Or.inr w
    · rw [w]
      exact Or.inr fun i hi => hdo i (by omega)
  | succ d ih =>
    intro n hn S wt left nam wai hI hcl hdo hf
    have hlt := ck_act_lt y0 hc (hg n (by omega))
    have hRx : ck_R gen m c t (ck_act c (gen n) y0) := ck_R_tr hg hc hy0 ⟨gen n, by have := ck_G_step (ck_G_id gen m) (show n < m by omega); rw [ck_id_cmp (hg n (by omega)).1] at this; exact this, rfl⟩
    refine br_f (by rw [em]; exact nI_ge (by omega) (by omega)) (cy_done y0 n rfl rfl ec hc hc3 (by omega) (by omega) hm hcar ⟨vp_in_nI (by omega) (by omega), ?_⟩)
    rw [nI_clamp (n := ck_act c (gen n) y0) (by omega)]
    by_cases z : S (ck_act c (gen n) y0)
    · refine br_t (by rw [hI.1 _ hlt z]; exact nI_pos' (by omega)) (nm_r (nI_1 n) (ih (n + 1) (by omega) S wt left nam wai hI hcl ?_ hf))
      intro i hi
      by_cases w : i = n
      · rw [w]; exact z
      · exact hdo i (by omega)
    · have hle := hI.2.2.2.2.2
      have hins := ck_ct_ins (p := S) z hlt
      have hle2 := ck_ct_le (fun y => S y ∨ y = ck_act c (gen n) y0) (c ^ 6)
      refine br_f (by rw [hI.2.1 _ hlt z, h0 _ hRx]; decide) ⟨vp_in_nI (by omega) (by omega), nm_e ⟨vp_in_nI (by omega) (by omega), ?_⟩⟩
      rw [nI_clamp (n := left) (by omega)]
      refine nm_e (nm_r (nI_1 left) (nm_r (nI_1 n) (ih (n + 1) (by omega) _ _ (left + 1) _ _ (ck_SI_push hI hlt z hRx) ?_ ?_ ?_)))
      · intro y hy
        rcases hy with hy | rfl
        · rcases hcl y hy with ⟨j, hj, e⟩ | w | w
          · exact Or.inl ⟨j, by omega, by rw [ck_app_n hj]; exact e⟩
          · exact Or.inr (Or.inl fun i hi => Or.inl (w i hi))
          · exact Or.inr (Or.inr w)
        · exact Or.inl ⟨left, by omega, ck_app_s⟩
      · intro i hi
        by_cases w : i = n
        · rw [w]; exact Or.inr rfl
        · exact Or.inl (hdo i (by omega))
      · rw [hins]
        omega
theorem cy_sp16 {post : SY → Prop} {t : Nat} {nam0 : Nat → Int32} (em : mm = nI m) (hg : ck_gok gen m) (hm : m ≤ 3) (hcar : ck_car gen m car) (ec : cl = nI c) (hc : 0 < c) (hc3 : c ≤ 3) (ht : t < c ^ 6) (h0 : ∀ y, ck_R gen m c t y → nam0 y = -1)
    (H : ∀ nam' wai' : Nat → Int32, (∀ y, y < c ^ 6 → ck_R gen m c t y → nam' y = nI t) → (∀ y, y < c ^ 6 → ¬ ck_R gen m c t y → nam' y = nam0 y) → post (mm, cl, sz, car, cod, nam', wai', grp, lis)) :
    ∀ (f : Nat) (S : Nat → Prop) (wt : Nat → Nat) (left : Nat) (nam wai : Nat → Int32), ck_SI gen m c t nam0 S wt left nam wai → (∀ y, S y → (∃ j, j < left ∧ wt j = y) ∨ ∀ i, i < m → S (ck_act c (gen i) y)) → 2 * (c ^ 6 - ck_ct S (c ^ 6)) + left < f → wY_spread_16 post (nI t) mm cl sz f (nI left) car cod nam wai grp lis := by
  have hN := cb_c6 hc3
  intro f
  induction f with
  | zero => intro S wt left nam wai _ _ hf; omega
  | succ f ih =>
    intro S wt left nam wai hI hcl hf
    have hle := hI.2.2.2.2.2
    have hle2 := ck_ct_le S (c ^ 6)
    cases left with
    | zero =>
      have hS : ∀ y, S y ↔ ck_R gen m c t y := by
        intro y
        refine ⟨hI.2.2.1 y, ?_⟩
        rintro ⟨g, hG, rfl⟩
        refine ck_G_ind (P := fun g => S (ck_act c g t)) ?_ ?_ hG
        · show S (ck_act c 44790 t)
          rw [ck_act_id hc ht]
          exact hI.2.2.2.1
        · intro g hG hs i hi
          show S (ck_act c (ck_cmp g (gen i)) t)
          rw [ck_act_cmp t hc (ck_G_pm hg hG) (hg i hi)]
          rcases hcl _ hs with ⟨j, hj, _⟩ | w
          · omega
          · exact w i hi
      refine br_t (nI_le (a := 0) (b := 0) (by omega) (by omega)) (H nam wai ?_ ?_)
      · intro y hy w
        exact hI.1 y hy ((hS y).mpr w)
      · intro y hy w
        exact hI.2.1 y hy fun v => w ((hS y).mp v)
    | succ l =>
      have h5 := hI.2.2.2.2.1 l (by omega)
      refine br_f (nI_nle (by omega) (by omega)) (nm_r (pk_m1 l) ⟨vp_in_nI (by omega) (by omega), ?_⟩)
      rw [nI_clamp (n := l) (by omega)]
      refine nm_r h5.1 ⟨m + 1, ?_⟩
      obtain ⟨i1, i2, i3, i4, i5, i6⟩ := hI
      refine cy_sp33 (y0 := wt l) (f := f) em hg hm hcar ec hc hc3 ht (i3 _ h5.2) h0 (fun S wt left nam wai hI hcl hf => ih S wt left nam wai hI hcl hf) m 0 (by omega) S wt l nam wai ⟨i1, i2, i3, i4, fun j hj => i5 j (by omega), by omega⟩ ?_ (fun i hi => by omega) (by omega)
      intro y hy
      rcases hcl y hy with ⟨j, hj, e⟩ | w
      · by_cases v : j = l
        · rw [v] at e
          exact Or.inr (Or.inr e.symm)
        · exact Or.inl ⟨j, by omega, e⟩
      · exact Or.inr (Or.inl w)
theorem cy_spread {post : SY → Prop} (t : Nat) {p0 : Int32} (e0 : p0 = nI t) (em : mm = nI m) (hg : ck_gok gen m) (hm : m ≤ 3) (hcar : ck_car gen m car) (ec : cl = nI c) (hc : 0 < c) (hc3 : c ≤ 3) (ht : t < c ^ 6) (h0 : ∀ y, ck_R gen m c t y → nam y = -1)
    (H : ∀ nam' wai' : Nat → Int32, (∀ y, y < c ^ 6 → ck_R gen m c t y → nam' y = nI t) → (∀ y, y < c ^ 6 → ¬ ck_R gen m c t y → nam' y = nam y) → post (mm, cl, sz, car, cod, nam', wai', grp, lis)) :
    wpY_spread post (mm, cl, sz, car, cod, nam, wai, grp, lis) p0 := by
  subst e0
  have hN := cb_c6 hc3
  refine ⟨vp_in_nI (by omega) (by omega), ?_⟩
  rw [nI_clamp (n := t) (by omega)]
  refine nm_e (nm_e ⟨_, cy_sp16 (nam0 := nam) em hg hm hcar ec hc hc3 ht h0 H (2 * (c ^ 6 - ck_ct (fun y => y = t) (c ^ 6)) + 1 + 1) (fun y => y = t) (fun _ => t) 1 _ _ ⟨?_, ?_, ?_, rfl, ?_, ?_⟩ ?_ (by omega)⟩)
  · intro y _ e
    rw [e]; exact pk_us
  · intro y _ e
    exact pk_un e
  · intro y e
    rw [e]
    exact ck_R_rf hc ht
  · intro j hj
    have z : j = 0 := by omega
    subst z
    exact ⟨pk_us, rfl⟩
  · have k := ck_ct_ins (p := fun _ => False) (a := t) (fun h => h) ht
    have k2 : ck_ct (fun y => y = t) (c ^ 6) = ck_ct (fun y => False ∨ y = t) (c ^ 6) := ck_ct_congr fun i _ => ⟨Or.inr, fun w => w.resolve_left id⟩
    rw [k2, k]
    omega
  · intro y e
    exact Or.inl ⟨0, by omega, e.symm⟩
theorem cy_fk27 {post : SY → Prop} (em : mm = nI m) (hg : ck_gok gen m) (hm : m ≤ 3) (hcar : ck_car gen m car) (ec : cl = nI c) (hc : 0 < c) (hc3 : c ≤ 3)
    (H : ∀ nam' wai' : Nat → Int32, (∀ y, y < c ^ 6 → nam' y = nI (ck_nm gen m c y)) → post (mm, cl, sz, car, cod, nam', wai', grp, lis)) :
    ∀ d t : Nat, t + d = c ^ 6 → ∀ nam wai : Nat → Int32, (∀ y, y < c ^ 6 → ck_nm gen m c y < t → nam y = nI (ck_nm gen m c y)) → (∀ y, y < c ^ 6 → t ≤ ck_nm gen m c y → nam y = -1) → wY_findKinds_27 post (nI (c ^ 6)) (d + 1) (nI t) mm cl sz car cod nam wai grp lis := by
  have hN := cb_c6 hc3
  intro d
  induction d with
  | zero =>
    intro t ht nam wai h1 h2
    refine br_t (nI_le (by omega) (by omega)) (H nam wai ?_)
    intro y hy
    have := ck_nm_lt (gen := gen) (m := m) hc hy
    exact h1 y hy (by omega)
  | succ d ih =>
    intro t ht nam wai h1 h2
    have htN : t < c ^ 6 := by omega
    refine br_f (nI_ge (by omega) (by omega)) ⟨vp_in_nI (by omega) (by omega), ?_⟩
    rw [nI_clamp (n := t) (by omega)]
    have hle := ck_nm_le (gen := gen) (m := m) hc htN
    by_cases z : ck_nm gen m c t < t
    · have hne : ∀ y, y < c ^ 6 → ck_nm gen m c y ≠ t := by
        intro y hy w
        have := ck_nm_nm hg hc hy
        rw [w] at this
        omega
      refine br_t (by rw [h1 t htN z]; exact nI_pos' (by omega)) (nm_r (nI_1 t) (ih (t + 1) (by omega) nam wai ?_ ?_))
      · intro y hy w
        have := hne y hy
        exact h1 y hy (by omega)
      · intro y hy w
        exact h2 y hy (by omega)
    · have hnt : ck_nm gen m c t = t := by omega
      have iffR : ∀ y, y < c ^ 6 → (ck_R gen m c t y ↔ ck_nm gen m c y = t) := by
        intro y hy
        rw [← ck_nm_iff hg hc htN hy, hnt]
        exact ⟨Eq.symm, Eq.symm⟩
      refine br_f (by rw [h2 t htN (by omega)]; decide) ?_
      refine cy_spread t rfl em hg hm hcar ec hc hc3 htN (fun y w => ?_) ?_
      · have hy := ck_R_lt hg hc w
        have := (iffR y hy).mp w
        exact h2 y hy (by omega)
      intro nam' wai' k1 k2
      refine nm_r (nI_1 t) (ih (t + 1) (by omega) nam' wai' ?_ ?_)
      · intro y hy w
        by_cases v : ck_nm gen m c y = t
        · rw [k1 y hy ((iffR y hy).mpr v), v]
        · rw [k2 y hy fun w' => v ((iffR y hy).mp w')]
          exact h1 y hy (by omega)
      · intro y hy w
        rw [k2 y hy fun w' => by have := (iffR y hy).mp w'; omega]
        exact h2 y hy (by omega)
theorem cy_fk7 {post : SY → Prop} (hc3 : c ≤ 3)
    (H : ∀ nam' : Nat → Int32, (∀ y, y < c ^ 6 → nam' y = -1) → ∃ n27 : Nat, wY_findKinds_27 post (nI (c ^ 6)) n27 0 mm cl sz car cod nam' wai grp lis) :
    ∀ d t : Nat, t + d = c ^ 6 → ∀ nam : Nat → Int32, (∀ y, y < t → nam y = -1) → wY_findKinds_7 post (nI (c ^ 6)) mm cl sz (d + 1) (nI t) car cod nam wai grp lis := by
  have hN := cb_c6 hc3
  intro d
  induction d with
  | zero =>
    intro t ht nam h1
    exact br_t (nI_le (by omega) (by omega)) (H nam fun y hy => h1 y (by omega))
  | succ d ih =>
    intro t ht nam h1
    refine br_f (nI_ge (by omega) (by omega)) ⟨vp_in_nI (by omega) (by omega), ?_⟩
    rw [nI_clamp (n := t) (by omega)]
    refine nm_e (nm_r (nI_1 t) (ih (t + 1) (by omega) _ ?_))
    intro y hy
    by_cases v : y = t
    · rw [v]; exact pk_us
    · rw [pk_un v]
      exact h1 y (by omega)
theorem cy_findKinds {post : SY → Prop} (em : mm = nI m) (hg : ck_gok gen m) (hm : m ≤ 3) (hcar : ck_car gen m car) (ec : cl = nI c) (hc : 0 < c) (hc3 : c ≤ 3)
    (H : ∀ nam' wai' : Nat → Int32, (∀ y, y < c ^ 6 → nam' y = nI (ck_nm gen m c y)) → post (mm, cl, sz, car, cod, nam', wai', grp, lis)) :
    wpY_findKinds post (mm, cl, sz, car, cod, nam, wai, grp, lis) := by
  unfold wpY_findKinds
  refine cy_colourings c ec ⟨c ^ 6 + 1, cy_fk7 hc3 ?_ (c ^ 6) 0 (by omega) nam (fun y hy => by omega)⟩
  intro nam' h
  exact ⟨c ^ 6 + 1, cy_fk27 em hg hm hcar ec hc hc3 H (c ^ 6) 0 (by omega) nam' wai (fun y _ w => by omega) (fun y hy _ => h y hy)⟩
end
end
section
/-! Y: the questions on kinds -/
section
variable {mm cl sz : Int32} {car cod nam wai grp lis : Nat → Int32} {gen : Nat → Nat} {m c : Nat}
theorem cy_isCol {post : Int32 → Prop} {p0 : Int32} (ec : cl = nI c) (hc3 : c ≤ 3) (h1 : ∀ y, y < c ^ 6 → p0 = nI y → post 1) (h0 : ¬ (∃ y, y < c ^ 6 ∧ p0 = nI y) → post 0) : wpY_isColouring post (mm, cl, sz, car, cod, nam, wai, grp, lis) p0 := by
  have hN := cb_c6 hc3
  rcases pk_ix p0 (n := c ^ 6) (by omega) with h | h | ⟨y, hy, e⟩
  · refine br_t h (h0 ?_)
    rintro ⟨y, hy, rfl⟩
    exact nI_pos (by omega) h
  · have hp : ¬ p0 < 0 := Int32.not_lt.mpr (Int32.le_trans (nI_pos' (by omega)) h)
    refine br_f hp (cy_colourings c ec (br_t h (h0 ?_)))
    rintro ⟨y, hy, rfl⟩
    exact nI_ge hy (by omega) h
  · subst e
    exact br_f (nI_pos (by omega)) (cy_colourings c ec (br_f (nI_ge hy (by omega)) (h1 y hy rfl)))
theorem cy_places {post : Int32 → Prop} (x : Nat) {p0 p1 : Int32} (e0 : p0 = nI x) (ec : cl = nI c) (hc : 0 < c) (hc3 : c ≤ 3) (hx : x < 2 ^ 31) (h : post (nI (ck_pl c x p1))) : wpY_placesOf post (mm, cl, sz, car, cod, nam, wai, grp, lis) p0 p1 := by
  subst e0
  refine ⟨6 + 1, cl_cnt (fun f r i => wY_placesOf_5 post (nI x) p1 mm cl sz car cod nam wai grp lis f r i) (fun i => nI (ck_dg c x i) = p1) 6 ?_ ?_⟩
  · exact br_t (nI_le (a := 6) (b := 6) (by omega) (by omega)) h
  · intro f i r hi ht hf
    refine br_f (nI_ge (b := 6) (by omega) (by omega)) (cy_digit x c i rfl ec rfl hc (by omega) (by omega) hx ?_)
    exact br_c (fun z => nm_r (nI_1 r) (nm_r (nI_1 i) (ht z))) (fun z => nm_r (nI_1 i) (hf z))
theorem cy_sizeOf {post : Int32 → Prop} (t : Nat) {p0 : Int32} (e0 : p0 = nI t) (hg : ck_gok gen m) (ec : cl = nI c) (hc : 0 < c) (hc3 : c ≤ 3) (ht : t < c ^ 6) (hnt : ck_nm gen m c t = t) (ek : ∀ y, y < c ^ 6 → nam y = nI (ck_nm gen m c y)) (h : post (nI (ck_ct (ck_R gen m c t) (c ^ 6)))) : wpY_sizeOf post (mm, cl, sz, car, cod, nam, wai, grp, lis) p0 := by
  subst e0
  have hN := cb_c6 hc3
  unfold wpY_sizeOf
  refine cy_colourings c ec ⟨c ^ 6 + 1, cl_cnt (fun f r i => wY_sizeOf_10 post (nI t) (nI (c ^ 6)) mm cl sz car cod nam wai grp lis f r i) (ck_R gen m c t) (c ^ 6) ?_ ?_⟩
  · exact br_t (nI_le (by omega) (by omega)) h
  · intro f i r hi hT hf
    have hl := ck_nm_lt (gen := gen) (m := m) hc hi
    have iffR : ck_R gen m c t i ↔ ck_nm gen m c i = t := by
      rw [← ck_nm_iff hg hc ht hi, hnt]
      exact ⟨Eq.symm, Eq.symm⟩
    refine br_f (nI_ge (by omega) (by omega)) ⟨vp_in_nI (by omega) (by omega), pk_eq (ck_nm gen m c i) t (fun z => nm_r (nI_1 r) (nm_r (nI_1 i) (hT (iffR.mpr z)))) (fun z => nm_r (nI_1 i) (hf fun w => z (iffR.mp w))) (by rw [nI_clamp (by omega), ek i hi])⟩
theorem cy_exch {post : Int32 → Prop} (x : Nat) {p0 : Int32} (e0 : p0 = nI x) (ec : cl = nI c) (hc : 0 < c) (hc3 : c ≤ 3) (hx : x < 2 ^ 31) (h : post (nI (ck_xc c x))) : wpY_exchanged post (mm, cl, sz, car, cod, nam, wai, grp, lis) p0 := by
  subst e0
  have key : ∀ j : Nat, j ≤ 6 → wY_exchanged_4 post (nI x) mm cl sz car cod nam wai grp lis (j + 1) (nI (ck_hr c (fun i => ck_sw c (ck_dg c x i)) (6 - j) j)) (nI j + (-1)) := by
    intro j
    induction j with
    | zero =>
      intro _
      refine br_t (by decide) ?_
      rw [ck_hr_6]
      exact h
    | succ j ih =>
      intro hj
      rw [pk_m1]
      have hd := ck_dg_lt hc x j
      have step : ∀ z : Int32, z = nI (ck_sw c (ck_dg c x j)) → nI (ck_hr c (fun i => ck_sw c (ck_dg c x i)) (6 - (j + 1)) (j + 1)) * cl + z = nI (ck_hr c (fun i => ck_sw c (ck_dg c x i)) (6 - j) j) := by
        intro z ez
        subst ez
        rw [ec, pk_mul, nI_add, Nat.mul_comm, show (6 : Nat) - j = (6 - (j + 1)) + 1 from by omega]
        rfl
      refine br_f (nI_pos (by omega)) (cy_digit x c j rfl ec rfl hc (by omega) (by omega) hx ?_)
      refine pk_le 2 (ck_dg c x j) (fun z => ?_) (fun z => pk_le c 1 (fun w => ?_) (fun w => ?_) ec)
      · refine nm_r (step _ ?_) (nm_e (ih (by omega)))
        unfold ck_sw
        rw [if_neg (by omega), if_neg (by omega), if_neg (by omega)]
      · refine nm_r (step _ ?_) (nm_e (ih (by omega)))
        unfold ck_sw
        rw [if_pos (by omega)]
      · refine nm_r (step _ ?_) (nm_e (ih (by omega)))
        rw [show (1 : Int32) - nI (ck_dg c x j) = nI (1 - ck_dg c x j) from pk_sub (a := 1) (by omega)]
        unfold ck_sw
        rw [if_neg (by omega)]
        by_cases v : ck_dg c x j = 0
        · rw [if_pos v, v]
        · rw [if_neg v, if_pos (by omega), show 1 - ck_dg c x j = 0 from by omega]
  exact ⟨7, key 6 (by omega)⟩
theorem cy_kinds {post : Int32 → SY → Prop} (em : mm = nI m) (hg : ck_gok gen m) (hm : m ≤ 3) (hcar : ck_car gen m car) (ec : cl = nI c) (hc : 0 < c) (hc3 : c ≤ 3)
    (H : ∀ nam' wai' : Nat → Int32, post (nI (ck_ct (fun x => ck_nm gen m c x = x) (c ^ 6))) (mm, cl, sz, car, cod, nam', wai', grp, lis)) :
    wpY_kinds post (mm, cl, sz, car, cod, nam, wai, grp, lis) := by
  have hN := cb_c6 hc3
  unfold wpY_kinds
  refine cy_findKinds em hg hm hcar ec hc hc3 ?_
  intro nam' wai' ek
  refine cy_colourings c ec ⟨c ^ 6 + 1, cl_cnt (fun f r i => wY_kinds_13 post (nI (c ^ 6)) mm cl sz car cod nam' wai' grp lis f r i) (fun x => ck_nm gen m c x = x) (c ^ 6) ?_ ?_⟩
  · exact br_t (nI_le (by omega) (by omega)) (H nam' wai')
  · intro f i r hi hT hf
    have hl := ck_nm_lt (gen := gen) (m := m) hc hi
    exact br_f (nI_ge (by omega) (by omega)) ⟨vp_in_nI (by omega) (by omega), pk_eq (ck_nm gen m c i) i (fun z => nm_r (nI_1 r) (nm_r (nI_1 i) (hT z))) (fun z => nm_r (nI_1 i) (hf z)) (by rw [nI_clamp (by omega), ek i hi])⟩
theorem cy_kw48 {post : Int32 → SY → Prop} {J15 : Int32 → Int32 → Prop} {v1 v2 x3 z0 : Int32} {r i : Nat} {q : Prop} (hc : 0 < c) (hc3 : c ≤ 3) (hi : i < c ^ 6) (ek : ∀ y, y < c ^ 6 → nam y = nI (ck_nm gen m c y)) (hz1 : q → z0 = 1) (hz0 : ¬ q → z0 = 0) (hT : ck_nm gen m c i = i ∧ q → J15 (nI (r + 1)) (nI (i + 1))) (hf : ¬ (ck_nm gen m c i = i ∧ q) → J15 (nI r) (nI (i + 1))) : wY_kindsWith_48 post J15 v1 v2 x3 (nI r) (nI i) z0 mm cl sz car cod nam wai grp lis := by
  have hN := cb_c6 hc3
  have hl := ck_nm_lt (gen := gen) (m := m) hc hi
  refine ⟨vp_in_nI (by omega) (by omega), pk_eq (ck_nm gen m c i) i (fun z => ?_) (fun z => nm_r (nI_1 i) (hf fun w => z w.1)) (by rw [nI_clamp (by omega), ek i hi])⟩
  by_cases hq : q
  · exact br_f (by rw [hz1 hq]; decide) (nm_r (nI_1 r) (nm_r (nI_1 i) (hT ⟨z, hq⟩)))
  · exact br_t (hz0 hq) (nm_r (nI_1 i) (hf fun w => hq w.2))
theorem cy_kindsWith {post : Int32 → SY → Prop} {v1 v2 : Int32} (em : mm = nI m) (hg : ck_gok gen m) (hm : m ≤ 3) (hcar : ck_car gen m car) (ec : cl = nI c) (hc : 0 < c) (hc3 : c ≤ 3)
    (H : ∀ nam' wai' : Nat → Int32, post (nI (ck_ct (fun x => ck_nm gen m c x = x ∧ nI (ck_pl c x 0) = v1 ∧ nI (ck_pl c x 1) = v2) (c ^ 6))) (mm, cl, sz, car, cod, nam', wai', grp, lis)) :
    wpY_kindsWith post (mm, cl, sz, car, cod, nam, wai, grp, lis) v1 v2 := by
  have hN := cb_c6 hc3
  unfold wpY_kindsWith
  refine cy_findKinds em hg hm hcar ec hc hc3 ?_
  intro nam' wai' ek
  refine cy_colourings c ec ⟨c ^ 6 + 1, cl_cnt (fun f r i => wY_kindsWith_15 post v1 v2 (nI (c ^ 6)) mm cl sz car cod nam' wai' grp lis f r i) (fun x => ck_nm gen m c x = x ∧ nI (ck_pl c x 0) = v1 ∧ nI (ck_pl c x 1) = v2) (c ^ 6) ?_ ?_⟩
  · exact br_t (nI_le (by omega) (by omega)) (H nam' wai')
  · intro f i r hi hT hf
    refine br_f (nI_ge (by omega) (by omega)) (cy_places i rfl ec hc hc3 (by omega) (br_c (fun z1 => ?_) (fun z1 => ?_)))
    · refine cy_places i rfl ec hc hc3 (by omega) (br_c (fun z2 => ?_) (fun z2 => ?_))
      · exact cy_kw48 hc hc3 hi ek (q := nI (ck_pl c i 0) = v1 ∧ nI (ck_pl c i 1) = v2) (fun _ => rfl) (fun w => absurd ⟨z1, z2⟩ w) hT hf
      · exact cy_kw48 hc hc3 hi ek (q := nI (ck_pl c i 0) = v1 ∧ nI (ck_pl c i 1) = v2) (fun w => absurd w.2 z2) (fun _ => rfl) hT hf
    · exact cy_kw48 hc hc3 hi ek (q := nI (ck_pl c i 0) = v1 ∧ nI (ck_pl c i 1) = v2) (fun w => absurd w.1 z1) (fun _ => rfl) hT hf
theorem cy_ka38 {post : Int32 → SY → Prop} {J13 : Int32 → Int32 → Prop} {x1 : Int32} {r i : Nat} (ec : cl = nI c) (hc : 0 < c) (hc3 : c ≤ 3) (hi : i < c ^ 6) (hT : (ck_nm gen m c i = i ∧ ∀ k, k < c → ck_pl c i (nI k) ≠ 0) → J13 (nI (r + 1)) (nI (i + 1))) (hf : ¬ (ck_nm gen m c i = i ∧ ∀ k, k < c → ck_pl c i (nI k) ≠ 0) → J13 (nI r) (nI (i + 1))) : ∀ d k : Nat, k + d = c → ∀ x4 : Int32, ((ck_nm gen m c i = i ∧ ∀ j, j < k → ck_pl c i (nI j) ≠ 0) → x4 = 1) → (¬ (ck_nm gen m c i = i ∧ ∀ j, j < k → ck_pl c i (nI j) ≠ 0) → x4 = 0) → wY_kindsWithAll_38 post J13 x1 (nI r) (nI i) mm cl sz car cod nam wai grp lis (d + 1) x4 (nI k) := by
  have hN := cb_c6 hc3
  intro d
  induction d with
  | zero =>
    intro k hk x4 h1 h0
    have e : k = c := by omega
    subst e
    refine br_t (by rw [ec]; exact nI_le (by omega) (by omega)) ?_
    by_cases q : ck_nm gen m k i = i ∧ ∀ j, j < k → ck_pl k i (nI j) ≠ 0
    · exact br_f (by rw [h1 q]; decide) (nm_r (nI_1 r) (nm_r (nI_1 i) (hT q)))
    · exact br_t (h0 q) (nm_r (nI_1 i) (hf q))
  | succ d ih =>
    intro k hk x4 h1 h0
    refine br_f (by rw [ec]; exact nI_ge (by omega) (by omega)) ?_
    by_cases q : ck_nm gen m c i = i ∧ ∀ j, j < k → ck_pl c i (nI j) ≠ 0
    · have hp := ck_pl_le c i (nI k)
      refine br_f (by rw [h1 q]; decide) (cy_places i rfl ec hc hc3 (by omega) (pk_le (ck_pl c i (nI k)) 0 (fun z => nm_r (nI_1 k) (ih (k + 1) (by omega) 0 ?_ (fun _ => rfl))) (fun z => nm_r (nI_1 k) (ih (k + 1) (by omega) 1 (fun _ => rfl) ?_))))
      · intro w
        exact absurd (Nat.le_zero.mp z) (w.2 k (by omega))
      · intro w
        refine absurd ⟨q.1, fun j hj => ?_⟩ w
        by_cases v : j = k
        · rw [v]; omega
        · exact q.2 j (by omega)
    · refine br_t (h0 q) (nm_r (nI_1 k) (ih (k + 1) (by omega) 0 ?_ (fun _ => rfl)))
      intro w
      exact absurd ⟨w.1, fun j hj => w.2 j (by omega)⟩ q
theorem cy_kindsWithAll {post : Int32 → SY → Prop} (em : mm = nI m) (hg : ck_gok gen m) (hm : m ≤ 3) (hcar : ck_car gen m car) (ec : cl = nI c) (hc : 0 < c) (hc3 : c ≤ 3)
    (H : ∀ nam' wai' : Nat → Int32, post (nI (ck_ct (fun x => ck_nm gen m c x = x ∧ ∀ k, k < c → ck_pl c x (nI k) ≠ 0) (c ^ 6))) (mm, cl, sz, car, cod, nam', wai', grp, lis)) :
    wpY_kindsWithAll post (mm, cl, sz, car, cod, nam, wai, grp, lis) := by
  have hN := cb_c6 hc3
  unfold wpY_kindsWithAll
  refine cy_findKinds em hg hm hcar ec hc hc3 ?_
  intro nam' wai' ek
  refine cy_colourings c ec ⟨c ^ 6 + 1, cl_cnt (fun f r i => wY_kindsWithAll_13 post (nI (c ^ 6)) mm cl sz car cod nam' wai' grp lis f r i) (fun x => ck_nm gen m c x = x ∧ ∀ k, k < c → ck_pl c x (nI k) ≠ 0) (c ^ 6) ?_ ?_⟩
  · exact br_t (nI_le (by omega) (by omega)) (H nam' wai')
  · intro f i r hi hT hf
    have hl := ck_nm_lt (gen := gen) (m := m) hc hi
    refine br_f (nI_ge (by omega) (by omega)) ⟨vp_in_nI (by omega) (by omega), pk_eq (ck_nm gen m c i) i (fun z => ⟨c + 1, ?_⟩) (fun z => ⟨c + 1, ?_⟩) (by rw [nI_clamp (by omega), ek i hi])⟩
    · exact cy_ka38 ec hc hc3 hi hT hf c 0 (by omega) 1 (fun _ => rfl) (fun w => absurd ⟨z, fun j hj => by omega⟩ w)
    · exact cy_ka38 ec hc hc3 hi hT hf c 0 (by omega) 0 (fun w => absurd w.1 z) (fun _ => rfl)
theorem cy_name {post : Int32 → SY → Prop} {p0 : Int32} (em : mm = nI m) (hg : ck_gok gen m) (hm : m ≤ 3) (hcar : ck_car gen m car) (ec : cl = nI c) (hc : 0 < c) (hc3 : c ≤ 3)
    (h1 : ∀ y, y < c ^ 6 → p0 = nI y → ∀ nam' wai' : Nat → Int32, post (nI (ck_nm gen m c y)) (mm, cl, sz, car, cod, nam', wai', grp, lis)) (h0 : ¬ (∃ y, y < c ^ 6 ∧ p0 = nI y) → post (-4) (mm, cl, sz, car, cod, nam, wai, grp, lis)) :
    wpY_name post (mm, cl, sz, car, cod, nam, wai, grp, lis) p0 := by
  have hN := cb_c6 hc3
  unfold wpY_name
  refine cy_isCol ec hc3 (fun y hy e => br_f (by decide) ?_) (fun z => br_t rfl (h0 z))
  refine cy_findKinds em hg hm hcar ec hc hc3 ?_
  intro nam' wai' ek
  have k := h1 y hy e nam' wai'
  subst e
  refine ⟨vp_in_nI (by omega) (by omega), ?_⟩
  rw [nI_clamp (by omega), ek y hy]
  exact k
theorem cy_size {post : Int32 → SY → Prop} {p0 : Int32} (em : mm = nI m) (hg : ck_gok gen m) (hm : m ≤ 3) (hcar : ck_car gen m car) (ec : cl = nI c) (hc : 0 < c) (hc3 : c ≤ 3)
    (h1 : ∀ y, y < c ^ 6 → p0 = nI y → ∀ nam' wai' : Nat → Int32, post (nI (ck_ct (ck_R gen m c (ck_nm gen m c y)) (c ^ 6))) (mm, cl, sz, car, cod, nam', wai', grp, lis)) (h0 : ¬ (∃ y, y < c ^ 6 ∧ p0 = nI y) → post (-4) (mm, cl, sz, car, cod, nam, wai, grp, lis)) :
    wpY_size post (mm, cl, sz, car, cod, nam, wai, grp, lis) p0 := by
  have hN := cb_c6 hc3
  unfold wpY_size
  refine cy_isCol ec hc3 (fun y hy e => br_f (by decide) ?_) (fun z => br_t rfl (h0 z))
  refine cy_findKinds em hg hm hcar ec hc hc3 ?_
  intro nam' wai' ek
  have k := h1 y hy e nam' wai'
  subst e
  exact ⟨vp_in_nI (by omega) (by omega), cy_sizeOf (ck_nm gen m c y) (by rw [nI_clamp (by omega), ek y hy]) hg ec hc hc3 (ck_nm_lt hc hy) (ck_nm_nm hg hc hy) ek k⟩
theorem cy_alike {post : Int32 → SY → Prop} {p0 p1 : Int32} (em : mm = nI m) (hg : ck_gok gen m) (hm : m ≤ 3) (hcar : ck_car gen m car) (ec : cl = nI c) (hc : 0 < c) (hc3 : c ≤ 3)
    (h1 : ∀ y z, y < c ^ 6 → z < c ^ 6 → p0 = nI y → p1 = nI z → ck_nm gen m c y = ck_nm gen m c z → ∀ nam' wai' : Nat → Int32, post 1 (mm, cl, sz, car, cod, nam', wai', grp, lis)) (h2 : ∀ y z, y < c ^ 6 → z < c ^ 6 → p0 = nI y → p1 = nI z → ck_nm gen m c y ≠ ck_nm gen m c z → ∀ nam' wai' : Nat → Int32, post 0 (mm, cl, sz, car, cod, nam', wai', grp, lis)) (h0 : ¬ ((∃ y, y < c ^ 6 ∧ p0 = nI y) ∧ ∃ z, z < c ^ 6 ∧ p1 = nI z) → post 0 (mm, cl, sz, car, cod, nam, wai, grp, lis)) :
    wpY_alike post (mm, cl, sz, car, cod, nam, wai, grp, lis) p0 p1 := by
  have hN := cb_c6 hc3
  unfold wpY_alike
  refine cy_isCol ec hc3 (fun y hy e => br_f (by decide) ?_) (fun z => br_t rfl (h0 fun w => z w.1))
  refine cy_isCol ec hc3 (fun y' hy' e' => br_f (by decide) ?_) (fun z => br_t rfl (h0 fun w => z w.2))
  refine cy_findKinds em hg hm hcar ec hc hc3 ?_
  intro nam' wai' ek
  have k1 := fun h => h1 y y' hy hy' e e' h nam' wai'
  have k2 := fun h => h2 y y' hy hy' e e' h nam' wai'
  subst e e'
  have l1 := ck_nm_lt (gen := gen) (m := m) hc hy
  have l2 := ck_nm_lt (gen := gen) (m := m) hc hy'
  exact ⟨vp_in_nI (by omega) (by omega), vp_in_nI (by omega) (by omega), pk_eq (ck_nm gen m c y) (ck_nm gen m c y') k1 k2 (by rw [nI_clamp (by omega), ek y hy]) (by rw [nI_clamp (by omega), ek y' hy'])⟩
theorem cy_still {post : Int32 → SY → Prop} (em : mm = nI m) (hg : ck_gok gen m) (hm : m ≤ 3) (hcar : ck_car gen m car) (ec : cl = nI c) (hc : 0 < c) (hc3 : c ≤ 3)
    (H : ∀ nam' wai' : Nat → Int32, post (nI (ck_ct (fun x => ck_nm gen m c x = x ∧ ck_ct (ck_R gen m c x) (c ^ 6) = 1) (c ^ 6))) (mm, cl, sz, car, cod, nam', wai', grp, lis)) :
    wpY_still post (mm, cl, sz, car, cod, nam, wai, grp, lis) := by
  have hN := cb_c6 hc3
  unfold wpY_still
  refine cy_findKinds em hg hm hcar ec hc hc3 ?_
  intro nam' wai' ek
  refine cy_colourings c ec ⟨c ^ 6 + 1, cl_cnt (fun f r i => wY_still_13 post (nI (c ^ 6)) mm cl sz car cod nam' wai' grp lis f r i) (fun x => ck_nm gen m c x = x ∧ ck_ct (ck_R gen m c x) (c ^ 6) = 1) (c ^ 6) ?_ ?_⟩
  · exact br_t (nI_le (by omega) (by omega)) (H nam' wai')
  · intro f i r hi hT hf
    have hl := ck_nm_lt (gen := gen) (m := m) hc hi
    refine br_f (nI_ge (by omega) (by omega)) ⟨vp_in_nI (by omega) (by omega), pk_eq (ck_nm gen m c i) i (fun z => ?_) (fun z => nm_r (nI_1 i) (hf fun w => z w.1)) (by rw [nI_clamp (by omega), ek i hi])⟩
    have hle := ck_ct_le (ck_R gen m c i) (c ^ 6)
    exact cy_sizeOf i rfl hg ec hc hc3 hi z ek (pk_eq (ck_ct (ck_R gen m c i) (c ^ 6)) 1 (fun w => nm_r (nI_1 r) (nm_r (nI_1 i) (hT ⟨z, w⟩))) (fun w => nm_r (nI_1 i) (hf fun y => w y.2)))
theorem cy_self {post : Int32 → SY → Prop} (em : mm = nI m) (hg : ck_gok gen m) (hm : m ≤ 3) (hcar : ck_car gen m car) (ec : cl = nI c) (hc : 0 < c) (hc3 : c ≤ 3)
    (H : ∀ nam' wai' : Nat → Int32, post (nI (ck_ct (fun x => ck_nm gen m c x = x ∧ ck_nm gen m c (ck_xc c x) = x) (c ^ 6))) (mm, cl, sz, car, cod, nam', wai', grp, lis)) :
    wpY_selfExchanged post (mm, cl, sz, car, cod, nam, wai, grp, lis) := by
  have hN := cb_c6 hc3
  unfold wpY_selfExchanged
  refine cy_findKinds em hg hm hcar ec hc hc3 ?_
  intro nam' wai' ek
  refine cy_colourings c ec ⟨c ^ 6 + 1, cl_cnt (fun f r i => wY_selfExchanged_13 post (nI (c ^ 6)) mm cl sz car cod nam' wai' grp lis f r i) (fun x => ck_nm gen m c x = x ∧ ck_nm gen m c (ck_xc c x) = x) (c ^ 6) ?_ ?_⟩
  · exact br_t (nI_le (by omega) (by omega)) (H nam' wai')
  · intro f i r hi hT hf
    have hl := ck_nm_lt (gen := gen) (m := m) hc hi
    have hx := ck_xc_lt (c := c) i hc
    have hl2 := ck_nm_lt (gen := gen) (m := m) hc hx
    refine br_f (nI_ge (by omega) (by omega)) (cy_exch i rfl ec hc hc3 (by omega) ⟨vp_in_nI (by omega) (by omega), pk_eq (ck_nm gen m c i) i (fun z => ⟨vp_in_nI (by omega) (by omega), ?_⟩) (fun z => nm_r (nI_1 i) (hf fun w => z w.1)) (by rw [nI_clamp (by omega), ek i hi])⟩)
    exact pk_eq (ck_nm gen m c (ck_xc c i)) i (fun w => nm_r (nI_1 r) (nm_r (nI_1 i) (hT ⟨z, w⟩))) (fun w => nm_r (nI_1 i) (hf fun y => w y.2)) (by rw [nI_clamp (by omega), ek _ hx])
end
end
section
/-! rows pasted from kit/rows -/
theorem wb_tb (n : Nat) : (lN n).toBitVec = BitVec.ofNat 64 n := rfl
theorem wb_inj {a b : Int64} (h : a.toBitVec = b.toBitVec) : a = b := Int64.toBitVec_inj.mp h
theorem wb_lt2 {a b : Nat} (h : a < b) : 2 ^ a < 2 ^ b := Nat.pow_lt_pow_right (by decide) h
theorem wb_c : ∀ k, k < 64 → ((nI k).toInt64 &&& 63) = lN k := by decide +kernel
theorem wb_sm : ∀ k, k < 64 → (BitVec.ofNat 64 k).smod 64 = BitVec.ofNat 64 k := by decide +kernel
theorem wb_shl (n : Nat) {k : Nat} (hk : k < 64) : lN n <<< ((nI k).toInt64 &&& 63) = lN (n * 2 ^ k) := by
  rw [wb_c k hk]
  apply wb_inj
  rw [Int64.toBitVec_shiftLeft, wb_tb, wb_tb, wb_tb, wb_sm k hk]
  apply BitVec.eq_of_toNat_eq
  rw [BitVec.shiftLeft_eq', BitVec.toNat_shiftLeft, BitVec.toNat_ofNat, BitVec.toNat_ofNat, BitVec.toNat_ofNat, Nat.mod_eq_of_lt (show k < 2 ^ 64 by omega), Nat.shiftLeft_eq, Nat.mul_mod, Nat.mod_mod, ← Nat.mul_mod]
theorem wb_and {a b : Nat} (ha : a < 2 ^ 64) (hb : b < 2 ^ 64) : lN a &&& lN b = lN (a &&& b) := by
  apply wb_inj
  rw [Int64.toBitVec_and, wb_tb, wb_tb, wb_tb]
  apply BitVec.eq_of_toNat_eq
  rw [BitVec.toNat_and, BitVec.toNat_ofNat, BitVec.toNat_ofNat, BitVec.toNat_ofNat, Nat.mod_eq_of_lt ha, Nat.mod_eq_of_lt hb, Nat.mod_eq_of_lt (Nat.and_lt_two_pow _ hb)]
theorem wb_or {a b : Nat} (ha : a < 2 ^ 64) (hb : b < 2 ^ 64) : lN a ||| lN b = lN (a ||| b) := by
  apply wb_inj
  rw [Int64.toBitVec_or, wb_tb, wb_tb, wb_tb]
  apply BitVec.eq_of_toNat_eq
  rw [BitVec.toNat_or, BitVec.toNat_ofNat, BitVec.toNat_ofNat, BitVec.toNat_ofNat, Nat.mod_eq_of_lt ha, Nat.mod_eq_of_lt hb, Nat.mod_eq_of_lt (Nat.or_lt_two_pow ha hb)]
theorem wb_mask {n k : Nat} (hn : n < 2 ^ 64) (hk : k < 64) : lN n &&& lN (2 ^ k - 1) = lN (n % 2 ^ k) := by
  rw [wb_and hn (by have := wb_lt2 hk; omega), Nat.and_two_pow_sub_one_eq_mod]
theorem wb_a1 {n : Nat} (hn : n < 2 ^ 64) : lN n &&& 1 = lN (n % 2) := wb_mask (k := 1) hn (by decide)
theorem pf_lI {a : Nat} (h : a < 2 ^ 63) : (lN a).toInt = (a : Int) := lg_ofNat_toInt h
theorem pf_shr {a d : Nat} {D : Int64} (hD : (D.toBitVec.smod 64).toNat = d) (h : a < 2 ^ 62) : lN a >>> D = lN (a / 2 ^ d) := by
  have hd : a / 2 ^ d ≤ a := Nat.div_le_self _ _
  apply Int64.toInt_inj.mp
  have e : (lN a >>> D).toInt = (lN a).toInt >>> d := by
    rw [← hD]
    exact BitVec.toInt_sshiftRight ..
  rw [e, Int.shiftRight_eq_div_pow, pf_lI (by omega), pf_lI (by omega)]
  rfl
theorem pk_lT {n : Nat} (h : n < 2 ^ 63) : (lN n).toInt = (n : Int) := lg_ofNat_toInt h
theorem pk_lEQ {a b : Nat} (ha : a < 2 ^ 63) (hb : b < 2 ^ 63) : lN a = lN b ↔ a = b := by
  rw [← Int64.toInt_inj, pk_lT ha, pk_lT hb]; omega
end
section
/-! closure by rounds: a round that adds nothing shows that the set is closed -/
theorem ck_ct_mono {p q : Nat → Prop} : ∀ {n : Nat}, (∀ i, i < n → p i → q i) → ck_ct p n ≤ ck_ct q n := by
  intro n
  induction n with
  | zero => intro _; exact Nat.le_refl 0
  | succ n ih =>
    intro h
    have k := ih fun i hi => h i (by omega)
    by_cases hp : p n
    · rw [ck_ct_t hp, ck_ct_t (h n (by omega) hp)]
      omega
    · rw [ck_ct_f hp]
      by_cases hq : q n
      · rw [ck_ct_t hq]; omega
      · rw [ck_ct_f hq]; exact k
theorem ck_ct_strict {p q : Nat → Prop} : ∀ {n : Nat}, (∀ i, i < n → p i → q i) → (∃ i, i < n ∧ q i ∧ ¬ p i) → ck_ct p n < ck_ct q n := by
  intro n
  induction n with
  | zero => rintro _ ⟨i, hi, _⟩; omega
  | succ n ih =>
    rintro h ⟨i, hi, h1, h2⟩
    by_cases e : i = n
    · subst e
      rw [ck_ct_f h2, ck_ct_t h1]
      have := ck_ct_mono (p := p) (q := q) (n := i) fun j hj => h j (by omega)
      omega
    · have k := ih (fun j hj => h j (by omega)) ⟨i, by omega, h1, h2⟩
      by_cases hp : p n
      · rw [ck_ct_t hp, ck_ct_t (h n (by omega) hp)]
        omega
      · rw [ck_ct_f hp]
        by_cases hq : q n
        · rw [ck_ct_t hq]; omega
        · rw [ck_ct_f hq]; exact k
theorem ck_rounds (N K : Nat) (S : Nat → Nat → Prop) (U : Nat → Prop) (hm : ∀ r p, S r p → S (r + 1) p) (hU : ∀ r p, S r p → U p) (h0 : ∃ p, p < N ∧ S 0 p) (hK : ck_ct U N ≤ K) : ∃ r, r < K ∧ ∀ p, p < N → S (r + 1) p → S r p := by
  apply Classical.byContradiction
  intro hno
  have step : ∀ r, r < K → ∃ p, p < N ∧ S (r + 1) p ∧ ¬ S r p := by
    intro r hr
    apply Classical.byContradiction
    intro h
    refine hno ⟨r, hr, fun p hp h1 => Classical.byContradiction fun h2 => h ⟨p, hp, h1, h2⟩⟩
  have grow : ∀ r, r ≤ K → r + 1 ≤ ck_ct (S r) N := by
    intro r
    induction r with
    | zero =>
      intro _
      obtain ⟨p, hp, hs⟩ := h0
      have k := ck_ct_strict (p := fun _ => False) (q := S 0) (n := N) (fun i _ h => absurd h id) ⟨p, hp, hs, id⟩
      omega
    | succ r ih =>
      intro hr
      have k := ck_ct_strict (p := S r) (q := S (r + 1)) (n := N) (fun i _ h => hm r i h) (step r (by omega))
      have := ih (by omega)
      omega
  have k1 := grow K (Nat.le_refl K)
  have k2 := ck_ct_mono (p := S K) (q := U) (n := N) fun i _ h => hU K i h
  omega
theorem ck_mod0 {s e : Nat} : s % 2 ^ e = 0 ↔ ∀ q, q < e → s.testBit q = false := by
  constructor
  · intro h q hq
    have k := Nat.testBit_mod_two_pow s e q
    rw [h, Nat.zero_testBit, decide_eq_true hq, Bool.true_and] at k
    exact k.symm
  · intro h
    apply Nat.eq_of_testBit_eq
    intro q
    rw [Nat.testBit_mod_two_pow, Nat.zero_testBit]
    by_cases z : q < e
    · rw [h q z, Bool.and_false]
    · rw [decide_eq_false z, Bool.false_and]
/-! places -/
def ck_os (gen : Nat → Nat) (m s : Nat) : Nat → Nat
  | 0 => s
  | k + 1 => if k / 6 % 3 < m ∧ (ck_os gen m s k).testBit (k % 6) = true then ck_os gen m s k ||| 2 ^ ck_dg 6 (gen (k / 6 % 3)) (k % 6) else ck_os gen m s k
theorem ck_os_s (gen : Nat → Nat) (m s k : Nat) : ck_os gen m s (k + 1) = if k / 6 % 3 < m ∧ (ck_os gen m s k).testBit (k % 6) = true then ck_os gen m s k ||| 2 ^ ck_dg 6 (gen (k / 6 % 3)) (k % 6) else ck_os gen m s k := rfl
theorem ck_os_lt {gen : Nat → Nat} {m s : Nat} (hs : s < 64) : ∀ k, ck_os gen m s k < 64 := by
  intro k
  induction k with
  | zero => exact hs
  | succ k ih =>
    rw [ck_os_s]
    split
    · exact cb_or_lt ih (ck_d6 _ _)
    · exact ih
theorem cb_orbit {s t p : Nat} : (s ||| 2 ^ t).testBit p = true ↔ s.testBit p = true ∨ t = p := by
  rw [Nat.testBit_or, Bool.or_eq_true, Nat.testBit_two_pow, decide_eq_true_iff]
theorem ck_os_mono1 {gen : Nat → Nat} {m s k p : Nat} (h : (ck_os gen m s k).testBit p = true) : (ck_os gen m s (k + 1)).testBit p = true := by
  rw [ck_os_s]
  split
  · exact cb_orbit.mpr (Or.inl h)
  · exact h
theorem ck_os_mono {gen : Nat → Nat} {m s k p : Nat} (h : (ck_os gen m s k).testBit p = true) : ∀ d, (ck_os gen m s (k + d)).testBit p = true := by
  intro d
  induction d with
  | zero => exact h
  | succ d ih => exact ck_os_mono1 ih
theorem ck_os_sound {gen : Nat → Nat} {m i : Nat} (hi : i < 6) : ∀ k p, (ck_os gen m (2 ^ i) k).testBit p = true → ∃ g, ck_G gen m g ∧ ck_dg 6 g i = p := by
  intro k
  induction k with
  | zero =>
    intro p h
    rw [show ck_os gen m (2 ^ i) 0 = 2 ^ i from rfl, Nat.testBit_two_pow, decide_eq_true_iff] at h
    exact ⟨44790, ck_G_id gen m, by rw [ck_id_dg i hi]; exact h⟩
  | succ k ih =>
    intro p h
    rw [ck_os_s] at h
    by_cases z : k / 6 % 3 < m ∧ (ck_os gen m (2 ^ i) k).testBit (k % 6) = true
    · rw [if_pos z] at h
      rcases cb_orbit.mp h with h | h
      · exact ih p h
      · obtain ⟨g, hG, e⟩ := ih _ z.2
        exact ⟨ck_cmp g (gen (k / 6 % 3)), ck_G_step hG z.1, by rw [ck_cmp_dg _ _ hi, e]; exact h⟩
    · rw [if_neg z] at h
      exact ih p h
theorem ck_os_round {gen : Nat → Nat} {m s r n a : Nat} (hm : m ≤ 3) (hn : n < m) (ha : a < 6) (h : (ck_os gen m s (18 * r)).testBit a = true) : (ck_os gen m s (18 * (r + 1))).testBit (ck_dg 6 (gen n) a) = true := by
  have h1 := ck_os_mono h (6 * n + a)
  have e1 : (18 * r + (6 * n + a)) / 6 % 3 = n := by omega
  have e2 : (18 * r + (6 * n + a)) % 6 = a := by omega
  have h2 : (ck_os gen m s (18 * r + (6 * n + a) + 1)).testBit (ck_dg 6 (gen n) a) = true := by
    rw [ck_os_s, e1, e2, if_pos ⟨hn, h1⟩]
    exact cb_orbit.mpr (Or.inr rfl)
  have h3 := ck_os_mono h2 (17 - (6 * n + a))
  rw [show 18 * r + (6 * n + a) + 1 + (17 - (6 * n + a)) = 18 * (r + 1) from by omega] at h3
  exact h3
theorem ck_os_all {gen : Nat → Nat} {m i : Nat} (hg : ck_gok gen m) (hm : m ≤ 3) (hi : i < 6) (p : Nat) : (ck_os gen m (2 ^ i) 108).testBit p = true ↔ ∃ g, ck_G gen m g ∧ ck_dg 6 g i = p := by
  refine ⟨ck_os_sound hi 108 p, ?_⟩
  rintro ⟨g, hG, rfl⟩
  obtain ⟨r, hr, hst⟩ := ck_rounds 6 6 (fun r p => (ck_os gen m (2 ^ i) (18 * r)).testBit p = true) (fun _ => True) (fun r p h => ck_os_mono h 18) (fun _ _ _ => trivial) ⟨i, hi, by
    show (2 ^ i).testBit i = true
    rw [Nat.testBit_two_pow, decide_eq_true_iff]⟩ (ck_ct_le _ 6)
  have key : (ck_os gen m (2 ^ i) (18 * r)).testBit (ck_dg 6 g i) = true := by
    refine ck_G_ind (P := fun g => (ck_os gen m (2 ^ i) (18 * r)).testBit (ck_dg 6 g i) = true) ?_ ?_ hG
    · show (ck_os gen m (2 ^ i) (18 * r)).testBit (ck_dg 6 44790 i) = true
      rw [ck_id_dg i hi]
      have h0 : (ck_os gen m (2 ^ i) 0).testBit i = true := by
        show (2 ^ i).testBit i = true
        rw [Nat.testBit_two_pow, decide_eq_true_iff]
      have k := ck_os_mono h0 (18 * r)
      rw [Nat.zero_add] at k
      exact k
    · intro g _ h j hj
      show (ck_os gen m (2 ^ i) (18 * r)).testBit (ck_dg 6 (ck_cmp g (gen j)) i) = true
      rw [ck_cmp_dg _ _ hi]
      exact hst _ (ck_d6 _ _) (ck_os_round hm hj (ck_d6 _ _) h)
  have k := ck_os_mono key (108 - 18 * r)
  rw [show 18 * r + (108 - 18 * r) = 108 from by omega] at k
  exact k
/-! pairs -/
theorem ck_pn_sy (a b : Nat) : ck_pn a b = ck_pn b a := by
  unfold ck_pn
  by_cases h : b ≤ a
  · by_cases h' : a ≤ b
    · have e : a = b := by omega
      subst e
      rfl
    · rw [if_pos h, if_neg h']
  · rw [if_neg h, if_pos (by omega)]
theorem ck_pn_sw {a b : Nat} (f : Nat → Nat) (ha : a < 6) (hb : b < 6) : ck_pn (f (ck_pn a b / 6)) (f (ck_pn a b % 6)) = ck_pn (f a) (f b) := by
  by_cases h : b ≤ a
  · have e : ck_pn a b = b * 6 + a := if_pos h
    rw [show ck_pn a b / 6 = b from by omega, show ck_pn a b % 6 = a from by omega, ck_pn_sy]
  · have e : ck_pn a b = a * 6 + b := if_neg h
    rw [show ck_pn a b / 6 = a from by omega, show ck_pn a b % 6 = b from by omega]
theorem ck_pn_U {a b : Nat} (ha : a < 6) (hb : b < 6) (h : a ≠ b) : ck_pn a b / 6 < ck_pn a b % 6 := by
  by_cases z : b ≤ a
  · have e : ck_pn a b = b * 6 + a := if_pos z
    omega
  · have e : ck_pn a b = a * 6 + b := if_neg z
    omega
def ck_cb (b : Nat → Bool) : Nat → Nat
  | 0 => 0
  | n + 1 => ck_cb b n + if b n then 1 else 0
theorem ck_ct_cb {p : Nat → Prop} {b : Nat → Bool} (h : ∀ i, p i ↔ b i = true) : ∀ n, ck_ct p n = ck_cb b n := by
  intro n
  induction n with
  | zero => rfl
  | succ n ih =>
    show _ = ck_cb b n + if b n then 1 else 0
    by_cases z : b n = true
    · rw [ck_ct_t ((h n).mpr z), if_pos z, ih]
    · rw [ck_ct_f (fun w => z ((h n).mp w)), if_neg z, ih]
      rfl
theorem ck_U15 : ck_ct (fun q => q / 6 < q % 6) 36 ≤ 15 := by
  rw [ck_ct_cb (b := fun q => decide (q / 6 < q % 6)) (fun i => decide_eq_true_iff.symm)]
  decide +kernel
def ck_pi (gen : Nat → Nat) (s : Nat) : Nat → Nat
  | 0 => s
  | t + 1 => if (ck_pi gen s t).testBit (t % 36) = true then ck_pi gen s t ||| 2 ^ ck_pn (ck_dg 6 (gen (t / 36)) (t % 36 / 6)) (ck_dg 6 (gen (t / 36)) (t % 6)) else ck_pi gen s t
theorem ck_pi_s (gen : Nat → Nat) (s t : Nat) : ck_pi gen s (t + 1) = if (ck_pi gen s t).testBit (t % 36) = true then ck_pi gen s t ||| 2 ^ ck_pn (ck_dg 6 (gen (t / 36)) (t % 36 / 6)) (ck_dg 6 (gen (t / 36)) (t % 6)) else ck_pi gen s t := rfl
def ck_pr (gen : Nat → Nat) (m s : Nat) : Nat → Nat
  | 0 => s
  | r + 1 => ck_pi gen (ck_pr gen m s r) (36 * m)
theorem ck_pi_lt {gen : Nat → Nat} {s : Nat} (hs : s < 2 ^ 36) : ∀ t, ck_pi gen s t < 2 ^ 36 := by
  intro t
  induction t with
  | zero => exact hs
  | succ t ih =>
    rw [ck_pi_s]
    split
    · exact Nat.or_lt_two_pow ih (Nat.pow_lt_pow_right (by decide) (ck_pn_lt (ck_d6 _ _) (ck_d6 _ _)))
    · exact ih
theorem ck_pr_lt {gen : Nat → Nat} {m s : Nat} (hs : s < 2 ^ 36) : ∀ r, ck_pr gen m s r < 2 ^ 36 := by
  intro r
  induction r with
  | zero => exact hs
  | succ r ih => exact ck_pi_lt ih _
theorem ck_pi_mono {gen : Nat → Nat} {s t p : Nat} (h : (ck_pi gen s t).testBit p = true) : ∀ d, (ck_pi gen s (t + d)).testBit p = true := by
  intro d
  induction d with
  | zero => exact h
  | succ d ih =>
    rw [show t + (d + 1) = (t + d) + 1 from rfl, ck_pi_s]
    split
    · exact cb_orbit.mpr (Or.inl ih)
    · exact ih
theorem ck_pr_mono1 {gen : Nat → Nat} {m s r p : Nat} (h : (ck_pr gen m s r).testBit p = true) : (ck_pr gen m s (r + 1)).testBit p = true := by
  have k := ck_pi_mono (gen := gen) (s := ck_pr gen m s r) (t := 0) h (36 * m)
  rw [Nat.zero_add] at k
  exact k
theorem ck_pr_mono {gen : Nat → Nat} {m s r p : Nat} (h : (ck_pr gen m s r).testBit p = true) : ∀ d, (ck_pr gen m s (r + d)).testBit p = true := by
  intro d
  induction d with
  | zero => exact h
  | succ d ih => exact ck_pr_mono1 ih
/-- q is a pair that the group carries i and k to -/
def ck_po (gen : Nat → Nat) (m i k q : Nat) : Prop := ∃ g, ck_G gen m g ∧ ck_pn (ck_dg 6 g i) (ck_dg 6 g k) = q
theorem ck_pi_sound {gen : Nat → Nat} {m i k s : Nat} (hi : i < 6) (hk : k < 6) (hs : ∀ q, s.testBit q = true → ck_po gen m i k q) : ∀ t, t ≤ 36 * m → ∀ q, (ck_pi gen s t).testBit q = true → ck_po gen m i k q := by
  intro t
  induction t with
  | zero => intro _ q h; exact hs q h
  | succ t ih =>
    intro ht q h
    rw [ck_pi_s] at h
    by_cases z : (ck_pi gen s t).testBit (t % 36) = true
    · rw [if_pos z] at h
      rcases cb_orbit.mp h with h | h
      · exact ih (by omega) q h
      · obtain ⟨g, hG, e⟩ := ih (by omega) _ z
        refine ⟨ck_cmp g (gen (t / 36)), ck_G_step hG (by omega), ?_⟩
        rw [ck_cmp_dg _ _ hi, ck_cmp_dg _ _ hk, ← h, ← ck_pn_sw (ck_dg 6 (gen (t / 36))) (ck_d6 g i) (ck_d6 g k), e, show t % 36 % 6 = t % 6 from by omega]
    · rw [if_neg z] at h
      exact ih (by omega) q h
theorem ck_pr_sound {gen : Nat → Nat} {m i k : Nat} (hik : i < k) (hk : k < 6) : ∀ r q, (ck_pr gen m (2 ^ (6 * i + k)) r).testBit q = true → ck_po gen m i k q := by
  intro r
  induction r with
  | zero =>
    intro q h
    rw [show ck_pr gen m (2 ^ (6 * i + k)) 0 = 2 ^ (6 * i + k) from rfl, Nat.testBit_two_pow, decide_eq_true_iff] at h
    refine ⟨44790, ck_G_id gen m, ?_⟩
    rw [ck_id_dg i (by omega), ck_id_dg k hk, ← h]
    rw [show ck_pn i k = i * 6 + k from if_neg (by omega)]
    omega
  | succ r ih =>
    intro q h
    exact ck_pi_sound (by omega) hk ih (36 * m) (Nat.le_refl _) q h
theorem ck_pr_round {gen : Nat → Nat} {m s r n q : Nat} (hn : n < m) (hq : q < 36) (h : (ck_pr gen m s r).testBit q = true) : (ck_pr gen m s (r + 1)).testBit (ck_pn (ck_dg 6 (gen n) (q / 6)) (ck_dg 6 (gen n) (q % 6))) = true := by
  have h1 := ck_pi_mono (gen := gen) (s := ck_pr gen m s r) (t := 0) h (36 * n + q)
  rw [Nat.zero_add] at h1
  have e1 : (36 * n + q) / 36 = n := by omega
  have e2 : (36 * n + q) % 36 = q := by omega
  have e3 : (36 * n + q) % 6 = q % 6 := by omega
  have h2 : (ck_pi gen (ck_pr gen m s r) (36 * n + q + 1)).testBit (ck_pn (ck_dg 6 (gen n) (q / 6)) (ck_dg 6 (gen n) (q % 6))) = true := by
    rw [ck_pi_s, e1, e2, e3, if_pos h1]
    exact cb_orbit.mpr (Or.inr rfl)
  have h3 := ck_pi_mono h2 (36 * m - (36 * n + q + 1))
  rw [show 36 * n + q + 1 + (36 * m - (36 * n + q + 1)) = 36 * m from by omega] at h3
  exact h3
theorem ck_pr_all {gen : Nat → Nat} {m i k : Nat} (hg : ck_gok gen m) (hik : i < k) (hk : k < 6) (q : Nat) : (ck_pr gen m (2 ^ (6 * i + k)) 15).testBit q = true ↔ ck_po gen m i k q := by
  refine ⟨ck_pr_sound hik hk 15 q, ?_⟩
  rintro ⟨g, hG, rfl⟩
  have hb0 : (ck_pr gen m (2 ^ (6 * i + k)) 0).testBit (6 * i + k) = true := by
    show (2 ^ (6 * i + k)).testBit (6 * i + k) = true
    rw [Nat.testBit_two_pow, decide_eq_true_iff]
  obtain ⟨r, hr, hst⟩ := ck_rounds 36 15 (fun r p => (ck_pr gen m (2 ^ (6 * i + k)) r).testBit p = true) (fun q => q / 6 < q % 6) (fun r p h => ck_pr_mono1 h) (fun r p h => by
    obtain ⟨g, hG, rfl⟩ := ck_pr_sound hik hk r p h
    exact ck_pn_U (ck_d6 _ _) (ck_d6 _ _) (fun e => by have := (ck_G_pm hg hG).2 i (by omega) k hk e; omega)) ⟨6 * i + k, by omega, hb0⟩ ck_U15
  have key : (ck_pr gen m (2 ^ (6 * i + k)) r).testBit (ck_pn (ck_dg 6 g i) (ck_dg 6 g k)) = true := by
    refine ck_G_ind (P := fun g => (ck_pr gen m (2 ^ (6 * i + k)) r).testBit (ck_pn (ck_dg 6 g i) (ck_dg 6 g k)) = true) ?_ ?_ hG
    · show (ck_pr gen m (2 ^ (6 * i + k)) r).testBit (ck_pn (ck_dg 6 44790 i) (ck_dg 6 44790 k)) = true
      rw [ck_id_dg i (by omega), ck_id_dg k hk, show ck_pn i k = 6 * i + k from by rw [show ck_pn i k = i * 6 + k from if_neg (by omega)]; omega]
      have kk := ck_pr_mono hb0 r
      rw [Nat.zero_add] at kk
      exact kk
    · intro g _ h j hj
      show (ck_pr gen m (2 ^ (6 * i + k)) r).testBit (ck_pn (ck_dg 6 (ck_cmp g (gen j)) i) (ck_dg 6 (ck_cmp g (gen j)) k)) = true
      rw [ck_cmp_dg _ _ (by omega), ck_cmp_dg _ _ hk, ← ck_pn_sw (ck_dg 6 (gen j)) (ck_d6 g i) (ck_d6 g k)]
      exact hst _ (ck_pn_lt (ck_d6 _ _) (ck_d6 _ _)) (ck_pr_round hj (ck_pn_lt (ck_d6 _ _) (ck_d6 _ _)) h)
  have kk := ck_pr_mono key (15 - r)
  rw [show r + (15 - r) = 15 from by omega] at kk
  exact kk
end
section
/-! Y: orbits and kinds of pairs -/
theorem cb_low : ∀ s, s < 64 → ∀ i, i < 6 → (nI s &&& (((1 : Int32) <<< (nI i &&& 31)) - 1)) = nI (s % 2 ^ i) := by decide +kernel
theorem cb_lbit {s q : Nat} (hs : s < 2 ^ 36) (hq : q < 36) : ((lN s >>> ((nI q).toInt64 &&& 63)) &&& 1) = 1 ↔ s.testBit q = true := by
  have hd : ((lN q).toBitVec.smod 64).toNat = q := by
    rw [wb_tb, wb_sm q (by omega), BitVec.toNat_ofNat, Nat.mod_eq_of_lt (by omega)]
  have hl : s / 2 ^ q ≤ s := Nat.div_le_self _ _
  rw [wb_c q (by omega), pf_shr hd (by omega), wb_a1 (by omega)]
  show lN _ = lN 1 ↔ _
  rw [pk_lEQ (by omega) (by omega), Nat.testBit_eq_decide_div_mod_eq, decide_eq_true_iff]
theorem cb_lsh {e : Nat} (he : e < 64) : (1 : Int64) <<< ((nI e).toInt64 &&& 63) = lN (2 ^ e) := by
  show lN 1 <<< _ = _
  rw [wb_shl 1 he, Nat.one_mul]
theorem cb_llow {s e : Nat} (hs : s < 2 ^ 36) (he : e < 36) : (lN s &&& (((1 : Int64) <<< ((nI e).toInt64 &&& 63)) - 1)) = 0 ↔ s % 2 ^ e = 0 := by
  have hm : s % 2 ^ e ≤ s := Nat.mod_le _ _
  rw [cb_lsh (by omega), show lN (2 ^ e) - 1 = lN (2 ^ e - 1) from lN_sub (b := 1) (Nat.two_pow_pos e), wb_mask (by omega) (by omega)]
  show lN _ = lN 0 ↔ _
  rw [pk_lEQ (by omega) (by omega)]
section
variable {mm cl sz : Int32} {car cod nam wai grp lis : Nat → Int32} {gen : Nat → Nat} {m c : Nat}
theorem cy_orb17 {post : Int32 → Prop} {J4 : Int32 → Int32 → Prop} {r i : Nat} (em : mm = nI m) (hm : m ≤ 3) (hcar : ck_car gen m car) (hi : i < 6) (ht : ck_os gen m (2 ^ i) 108 % 2 ^ i = 0 → J4 (nI (r + 1)) (nI (i + 1))) (hf : ¬ ck_os gen m (2 ^ i) 108 % 2 ^ i = 0 → J4 (nI r) (nI (i + 1))) : ∀ d k : Nat, k + d = 108 → wY_orbits_17 post J4 (nI r) (nI i) mm cl sz car cod nam wai grp lis (d + 1) (nI (ck_os gen m (2 ^ i) k)) (nI k) := by
  have hs0 : 2 ^ i < 64 := Nat.pow_lt_pow_right (a := 2) (m := i) (n := 6) (by decide) hi
  intro d
  induction d with
  | zero =>
    intro k hk
    have e : k = 108 := by omega
    subst e
    have hl := ck_os_lt (gen := gen) (m := m) hs0 108
    have hml : ck_os gen m (2 ^ i) 108 % 2 ^ i ≤ ck_os gen m (2 ^ i) 108 := Nat.mod_le _ _
    exact br_t (nI_le (a := 108) (b := 108) (by omega) (by omega)) (pk_eq (ck_os gen m (2 ^ i) 108 % 2 ^ i) 0 (fun z => nm_r (nI_1 r) (nm_r (nI_1 i) (ht z))) (fun z => nm_r (nI_1 i) (hf z)) (cb_low _ hl i hi))
  | succ d ih =>
    intro k hk
    have hl := ck_os_lt (gen := gen) (m := m) hs0 k
    have kn := ih (k + 1) (by omega)
    rw [ck_os_s] at kn
    have e1 : nI k - nI k / 6 * 6 = nI (k % 6) := pk_rem (d := 6) (by omega) (by omega) (by omega)
    have e2 : nI k / 6 = nI (k / 6) := pk_div (d := 6) (by omega) (by omega) (by omega)
    have e3 : nI k / 6 - nI k / 6 / 3 * 3 = nI (k / 6 % 3) := by
      rw [e2]
      exact pk_rem (d := 3) (by omega) (by omega) (by omega)
    have ei := cb_ix (k / 6 % 3) (k % 6) rfl rfl
    refine br_f (nI_ge (b := 108) (by omega) (by omega)) ⟨by decide, nm_r e1 ⟨by decide, by decide, nm_r e3 ?_⟩⟩
    have eb := cb_bit _ hl (k % 6) (by omega)
    refine pk_le m (k / 6 % 3) (fun z => ?_) (fun z => ?_) em
    · rw [if_neg (fun w => by omega)] at kn
      exact br_t rfl (nm_r (nI_1 k) kn)
    · by_cases w : (ck_os gen m (2 ^ i) k).testBit (k % 6) = true
      · rw [if_pos ⟨z, w⟩] at kn
        rw [if_pos w] at eb
        have hd := ck_d6 (gen (k / 6 % 3)) (k % 6)
        refine br_t eb (br_f (by decide) ⟨by rw [ei]; exact vp_in_nI (by omega) (by omega), nm_r ?_ (nm_r (nI_1 k) kn)⟩)
        rw [ei, nI_clamp (by omega), hcar _ z _ (by omega), cb_sh _ hd, cb_or]
      · rw [if_neg (fun v => w v.2)] at kn
        rw [if_neg w] at eb
        exact br_f (by rw [eb]; decide) (br_t rfl (nm_r (nI_1 k) kn))
theorem cy_orbits {post : Int32 → Prop} (em : mm = nI m) (hg : ck_gok gen m) (hm : m ≤ 3) (hcar : ck_car gen m car) (h : post (nI (ck_ct (fun p => ∀ g, ck_G gen m g → p ≤ ck_dg 6 g p) 6))) : wpY_orbits post (mm, cl, sz, car, cod, nam, wai, grp, lis) := by
  refine ⟨6 + 1, cl_cnt (fun f r i => wY_orbits_4 post mm cl sz car cod nam wai grp lis f r i) (fun p => ∀ g, ck_G gen m g → p ≤ ck_dg 6 g p) 6 ?_ ?_⟩
  · exact br_t (nI_le (a := 6) (b := 6) (by omega) (by omega)) h
  · intro f i r hi ht hf
    have iffP : ck_os gen m (2 ^ i) 108 % 2 ^ i = 0 ↔ ∀ g, ck_G gen m g → i ≤ ck_dg 6 g i := by
      rw [ck_mod0]
      constructor
      · intro k g hG
        apply Classical.byContradiction
        intro z
        have k1 := k (ck_dg 6 g i) (by omega)
        rw [(ck_os_all hg hm hi _).mpr ⟨g, hG, rfl⟩] at k1
        exact absurd k1 (by decide)
      · intro k q hq
        cases z : (ck_os gen m (2 ^ i) 108).testBit q with
        | false => rfl
        | true =>
          obtain ⟨g, hG, e⟩ := (ck_os_all hg hm hi q).mp z
          have := k g hG
          omega
    refine br_f (nI_ge (b := 6) (by omega) (by omega)) (nm_r (cb_sh i hi) ⟨109, ?_⟩)
    exact cy_orb17 em hm hcar hi (fun z => ht (iffP.mp z)) (fun z => hf fun w => z (iffP.mpr w)) 108 0 (by omega)
theorem cy_110 {post : Int64 → Prop} {J12 J22 : Int64 → Int32 → Prop} {x5 : Int32} {s t lo hi : Nat} (hs : ck_pi gen s t < 2 ^ 36) (ht : t < 108) (e : 6 * lo + hi = ck_pn (ck_dg 6 (gen (t / 36)) (t % 36 / 6)) (ck_dg 6 (gen (t / 36)) (t % 6))) (k : J22 (lN (ck_pi gen s (t + 1))) (nI (t + 1))) : wY_pairsFrom_110 post J12 J22 (lN (ck_pi gen s t)) x5 (nI t) (nI lo) (nI hi) mm cl sz car cod nam wai grp lis := by
  have e1 : nI t - nI t / 36 * 36 = nI (t % 36) := pk_rem (d := 36) (by omega) (by omega) (by omega)
  have hb := cb_lbit hs (show t % 36 < 36 by omega)
  have hpn := ck_pn_lt (ck_d6 (gen (t / 36)) (t % 36 / 6)) (ck_d6 (gen (t / 36)) (t % 6))
  rw [ck_pi_s] at k
  refine ⟨by decide, ?_⟩
  rw [e1]
  by_cases w : (ck_pi gen s t).testBit (t % 36) = true
  · rw [if_pos w] at k
    refine br_t (hb.mpr w) (br_f (by decide) (nm_r ?_ (nm_r (nI_1 t) k)))
    have h2 : 2 ^ ck_pn (ck_dg 6 (gen (t / 36)) (t % 36 / 6)) (ck_dg 6 (gen (t / 36)) (t % 6)) < 2 ^ 36 := Nat.pow_lt_pow_right (by decide) hpn
    rw [cb_ix lo hi rfl rfl, e, cb_lsh (by omega), wb_or (by omega) (by omega)]
  · rw [if_neg w] at k
    exact br_f (fun z => w (hb.mp z)) (br_t rfl (nm_r (nI_1 t) k))
theorem cy_pf22 {post : Int64 → Prop} {J12 : Int64 → Int32 → Prop} {s r : Nat} (em : mm = nI m) (hm : m ≤ 3) (hcar : ck_car gen m car) (hs : s < 2 ^ 36) (hJ : J12 (lN (ck_pi gen s (36 * m))) (nI (r + 1))) : ∀ d t : Nat, t + d = 36 * m → wY_pairsFrom_22 post J12 (nI r) mm cl sz car cod nam wai grp lis (d + 1) (lN (ck_pi gen s t)) (nI t) := by
  have emm : (36 * mm : Int32) = nI (36 * m) := by
    rw [em]
    show nI 36 * nI m = _
    rw [pk_mul]
  intro d
  induction d with
  | zero =>
    intro t ht
    have e : t = 36 * m := by omega
    subst e
    exact br_t (by rw [emm]; exact nI_le (by omega) (by omega)) (nm_r (nI_1 r) hJ)
  | succ d ih =>
    intro t ht
    have kn := ih (t + 1) (by omega)
    have hl := ck_pi_lt (gen := gen) hs t
    have e7 : nI t / 36 = nI (t / 36) := pk_div (d := 36) (by omega) (by omega) (by omega)
    have e36 : nI t - nI t / 36 * 36 = nI (t % 36) := pk_rem (d := 36) (by omega) (by omega) (by omega)
    have e36d : (nI t - nI t / 36 * 36) / 6 = nI (t % 36 / 6) := by
      rw [e36]
      exact pk_div (d := 6) (by omega) (by omega) (by omega)
    have e6 : nI t - nI t / 6 * 6 = nI (t % 6) := pk_rem (d := 6) (by omega) (by omega) (by omega)
    have i1 := cb_ix (t / 36) (t % 36 / 6) rfl e36d
    have i2 := cb_ix (t / 36) (t % 6) rfl e6
    have h1 := ck_d6 (gen (t / 36)) (t % 36 / 6)
    have h2 := ck_d6 (gen (t / 36)) (t % 6)
    refine br_f (by rw [emm]; exact nI_ge (by omega) (by omega)) ⟨by decide, nm_r e7 ⟨by decide, by decide, by rw [i1]; exact vp_in_nI (by omega) (by omega), nm_r (e' := nI (ck_dg 6 (gen (t / 36)) (t % 36 / 6))) ?_ ⟨by decide, by rw [i2]; exact vp_in_nI (by omega) (by omega), nm_r (e' := nI (ck_dg 6 (gen (t / 36)) (t % 6))) ?_ ?_⟩⟩⟩
    · rw [i1, nI_clamp (by omega), hcar _ (by omega) _ (by omega)]
    · rw [i2, nI_clamp (by omega), hcar _ (by omega) _ (by omega)]
    · by_cases z : ck_dg 6 (gen (t / 36)) (t % 6) ≤ ck_dg 6 (gen (t / 36)) (t % 36 / 6)
      · have zi := nI_le z (show ck_dg 6 (gen (t / 36)) (t % 36 / 6) < 2 ^ 31 by omega)
        refine br_t zi (br_t zi (cy_110 hl (by omega) ?_ kn))
        rw [show ck_pn (ck_dg 6 (gen (t / 36)) (t % 36 / 6)) (ck_dg 6 (gen (t / 36)) (t % 6)) = _ from if_pos z]
        omega
      · have zi := nI_ge (show ck_dg 6 (gen (t / 36)) (t % 36 / 6) < ck_dg 6 (gen (t / 36)) (t % 6) by omega) (by omega)
        refine br_f zi (br_f zi (cy_110 hl (by omega) ?_ kn))
        rw [show ck_pn (ck_dg 6 (gen (t / 36)) (t % 36 / 6)) (ck_dg 6 (gen (t / 36)) (t % 6)) = _ from if_neg z]
        omega
theorem cy_pairsFrom {post : Int64 → Prop} (i k : Nat) {p0 p1 : Int32} (e0 : p0 = nI i) (e1 : p1 = nI k) (hi : i < 6) (hk : k < 6) (em : mm = nI m) (hm : m ≤ 3) (hcar : ck_car gen m car) (h : post (lN (ck_pr gen m (2 ^ (6 * i + k)) 15))) : wpY_pairsFrom post (mm, cl, sz, car, cod, nam, wai, grp, lis) p0 p1 := by
  subst e0 e1
  have hs0 : 2 ^ (6 * i + k) < 2 ^ 36 := Nat.pow_lt_pow_right (by decide) (by omega)
  have key : ∀ d r : Nat, r + d = 15 → wY_pairsFrom_12 post mm cl sz car cod nam wai grp lis (d + 1) (lN (ck_pr gen m (2 ^ (6 * i + k)) r)) (nI r) := by
    intro d
    induction d with
    | zero =>
      intro r hr
      have e : r = 15 := by omega
      subst e
      exact br_t (nI_le (a := 15) (b := 15) (by omega) (by omega)) h
    | succ d ih =>
      intro r hr
      exact br_f (nI_ge (b := 15) (by omega) (by omega)) ⟨36 * m + 1, cy_pf22 em hm hcar (ck_pr_lt hs0 r) (ih (r + 1) (by omega)) (36 * m) 0 (by omega)⟩
  refine nm_r ?_ ⟨16, key 15 0 (by omega)⟩
  rw [cb_ix i k rfl rfl, cb_lsh (by omega)]
  rfl
theorem cy_pairKinds {post : Int32 → Prop} (em : mm = nI m) (hg : ck_gok gen m) (hm : m ≤ 3) (hcar : ck_car gen m car) (h : post (nI (ck_pc (fun a b => ∀ g, ck_G gen m g → ck_pn a b ≤ ck_pn (ck_dg 6 g a) (ck_dg 6 g b)) 6))) : wpY_pairKinds post (mm, cl, sz, car, cod, nam, wai, grp, lis) := by
  refine ⟨7, cl_pair (fun a b => ∀ g, ck_G gen m g → ck_pn a b ≤ ck_pn (ck_dg 6 g a) (ck_dg 6 g b)) (fun f r i => wY_pairKinds_4 post mm cl sz car cod nam wai grp lis f r i) (fun J x2 f r i => wY_pairKinds_14 post J x2 mm cl sz car cod nam wai grp lis f r i) ?_ ?_ ?_ ?_⟩
  · exact br_t (nI_le (a := 6) (b := 6) (by omega) (by omega)) h
  · intro f a r ha k
    exact br_f (nI_ge (b := 6) (by omega) (by omega)) (nm_r (nI_1 a) k)
  · intro J a r k
    exact br_t (nI_le (a := 6) (b := 6) (by omega) (by omega)) (nm_r (nI_1 a) k)
  · intro J f a b r hab hb6 ht hf
    have hs0 : 2 ^ (6 * a + b) < 2 ^ 36 := Nat.pow_lt_pow_right (by decide) (by omega)
    have hl := ck_pr_lt (gen := gen) (m := m) hs0 15
    have epn : ck_pn a b = 6 * a + b := by
      rw [show ck_pn a b = a * 6 + b from if_neg (by omega)]
      omega
    have iffP : (lN (ck_pr gen m (2 ^ (6 * a + b)) 15) &&& (((1 : Int64) <<< ((6 * nI a + nI b : Int32).toInt64 &&& 63)) - 1)) = 0 ↔ ∀ g, ck_G gen m g → ck_pn a b ≤ ck_pn (ck_dg 6 g a) (ck_dg 6 g b) := by
      rw [cb_ix a b rfl rfl, cb_llow hl (by omega), ck_mod0]
      constructor
      · intro k g hG
        apply Classical.byContradiction
        intro z
        have k1 := k (ck_pn (ck_dg 6 g a) (ck_dg 6 g b)) (by omega)
        rw [(ck_pr_all hg hab hb6 _).mpr ⟨g, hG, rfl⟩] at k1
        exact absurd k1 (by decide)
      · intro k q hq
        cases z : (ck_pr gen m (2 ^ (6 * a + b)) 15).testBit q with
        | false => rfl
        | true =>
          obtain ⟨g, hG, e⟩ := (ck_pr_all hg hab hb6 q).mp z
          have := k g hG
          omega
    refine br_f (nI_ge (b := 6) (by omega) (by omega)) (cy_pairsFrom a b rfl rfl (by omega) hb6 em hm hcar ?_)
    exact br_c (fun z => nm_r (nI_1 r) (nm_r (nI_1 b) (ht (iffP.mp z)))) (fun z => nm_r (nI_1 b) (hf fun w => z (iffP.mpr w)))
end
end
section
/-! the relation, and what is owed -/
def ck_RX (gen : Nat → Nat) (m c : Nat) (u : SX) : Prop := match u with
  | (gc, go, cc, cn, ag, A, kn, ks) => gc = nI m ∧ cc = nI c ∧ cn = nI (c ^ 6) ∧ (∀ i, i < m → ag i = nI (gen i)) ∧ (∃ gr n, ck_En gr n (ck_G gen m) ∧ n ≤ 720 ∧ go = nI n ∧ ∀ e, e < n → A e = nI (gr e)) ∧ (∀ y, y < c ^ 6 → kn y = nI (ck_nm gen m c y)) ∧ (∀ y, y < c ^ 6 → ck_nm gen m c y = y → ks y = nI (ck_ct (ck_R gen m c y) (c ^ 6)))
def ck_RY (gen : Nat → Nat) (m c : Nat) (v : SY) : Prop := match v with
  | (mm, cl, _, car, cod, _, _, _, _) => mm = nI m ∧ cl = nI c ∧ ck_car gen m car ∧ ∀ i, i < m → cod i = nI (gen i)
def i_Rel (_ : Nat) (u : SX) (v : SY) : Prop := ∃ (gen : Nat → Nat) (m c : Nat), ck_gok gen m ∧ m ≤ 3 ∧ 0 < c ∧ c ≤ 3 ∧ ck_RX gen m c u ∧ ck_RY gen m c v
theorem i_up {k : Nat} {u : SX} {v : SY} (h : i_Rel k u v) : i_Rel (k + 3) u v := h
section
variable {gc go cc cn : Int32} {ag A kn ks : Nat → Int32} {gen : Nat → Nat} {m c : Nat}
/-- X works all out anew -/
theorem cx_anew {post : SX → Prop} (hg : ck_gok gen m) (hm : m ≤ 3) (hc : 0 < c) (hc3 : c ≤ 3) (em : gc = nI m) (ec : cc = nI c) (eg : ∀ i, i < m → ag i = nI (gen i)) (H : ∀ (go' : Int32) (A' kn' ks' : Nat → Int32), ck_RX gen m c (gc, go', cc, nI (c ^ 6), ag, A', kn', ks') → post (gc, go', cc, nI (c ^ 6), ag, A', kn', ks')) : wpX_closeGroup (fun u => wpX_gatherKinds post u) (gc, go, cc, cn, ag, A, kn, ks) := by
  refine cx_close hg hm em eg ?_
  intro go' A' gr n hE hn eo eA
  refine cx_gather hg ec hc hc3 eo hn hE eA ?_
  intro kn' ks' h1 h2
  exact H go' A' kn' ks' ⟨em, ec, rfl, eg, ⟨gr, n, hE, hn, eo, eA⟩, h1, h2⟩
end
theorem i_vc0 : wpX_init (fun u => wpY_init (fun v => i_Rel 0 u v)) := by
  have hg : ck_gok (fun _ => 0) 0 := fun i hi => absurd hi (by omega)
  unfold wpX_init
  refine cx_close (gen := fun _ => 0) (m := 0) hg (by omega) rfl (fun i hi => by omega) ?_
  intro go' A' gr n hE hn eo eA
  refine cx_gather (c := 2) hg rfl (by omega) (by omega) eo hn hE eA ?_
  intro kn' ks' h1 h2
  exact ⟨fun _ => 0, 0, 2, hg, by omega, by omega, by omega, ⟨rfl, rfl, rfl, fun i hi => by omega, ⟨gr, n, hE, hn, eo, eA⟩, h1, h2⟩, rfl, rfl, fun i hi => by omega, fun i hi => by omega⟩
theorem i_vc_order {k : Nat} {u : SX} {v : SY} (I : i_Rel k u v) (hk : k + 3 ≤ 1536) : wpX_order (fun r => wpY_order (fun r' v' => r' = r ∧ i_Rel (k + 3) u v') v) u := by
  obtain ⟨gc, go, cc, cn, ag, A, kn, ks⟩ := u
  obtain ⟨mm, cl, sz, car, cod, nam, wai, grp, lis⟩ := v
  obtain ⟨gen, m, c, hg, hm, hc, hc3, ⟨x1, x2, x3, x4, ⟨gr, n, hE, hn, eo, eA⟩, x6, x7⟩, ⟨y1, y2, y3, y4⟩⟩ := I
  unfold wpX_order
  dsimp only
  refine cy_order y1 hg hm y3 ?_
  intro sz' grp' lis' gr' n' hE'
  refine ⟨?_, gen, m, c, hg, hm, hc, hc3, ⟨x1, x2, x3, x4, ⟨gr, n, hE, hn, eo, eA⟩, x6, x7⟩, ⟨y1, y2, y3, y4⟩⟩
  rw [eo, ck_En_len hE hE']
theorem i_vc_withCycles {k : Nat} {u : SX} {v : SY} (I : i_Rel k u v) (hk : k + 3 ≤ 1536) (v1 : Int32) : wpX_withCycles (fun r => wpY_withCycles (fun r' v' => r' = r ∧ i_Rel (k + 3) u v') v v1) u v1 := by
  obtain ⟨gc, go, cc, cn, ag, A, kn, ks⟩ := u
  obtain ⟨mm, cl, sz, car, cod, nam, wai, grp, lis⟩ := v
  obtain ⟨gen, m, c, hg, hm, hc, hc3, ⟨x1, x2, x3, x4, ⟨gr, n, hE, hn, eo, eA⟩, x6, x7⟩, ⟨y1, y2, y3, y4⟩⟩ := I
  refine cx_withCycles eo hn (fun e he => (ck_G_pm hg ((hE.1 _).mpr ⟨e, he, rfl⟩)).1) eA ?_
  refine cy_withCycles y1 hg hm y3 ?_
  intro sz' grp' lis' gr' n' hE'
  refine ⟨?_, gen, m, c, hg, hm, hc, hc3, ⟨x1, x2, x3, x4, ⟨gr, n, hE, hn, eo, eA⟩, x6, x7⟩, ⟨y1, y2, y3, y4⟩⟩
  exact congrArg nI (ck_En_ct hE' hE fun x => nI (ck_cy x 6) = v1)
theorem i_vc_kinds {k : Nat} {u : SX} {v : SY} (I : i_Rel k u v) (hk : k + 3 ≤ 1536) : wpX_kinds (fun r => wpY_kinds (fun r' v' => r' = r ∧ i_Rel (k + 3) u v') v) u := by
  obtain ⟨gc, go, cc, cn, ag, A, kn, ks⟩ := u
  obtain ⟨mm, cl, sz, car, cod, nam, wai, grp, lis⟩ := v
  obtain ⟨gen, m, c, hg, hm, hc, hc3, ⟨x1, x2, x3, x4, x5, x6, x7⟩, ⟨y1, y2, y3, y4⟩⟩ := I
  refine cx_kinds hc hc3 x3 x6 (cy_kinds y1 hg hm y3 y2 hc hc3 ?_)
  intro nam' wai'
  exact ⟨rfl, gen, m, c, hg, hm, hc, hc3, ⟨x1, x2, x3, x4, x5, x6, x7⟩, ⟨y1, y2, y3, y4⟩⟩
theorem i_vc_kindsWith {k : Nat} {u : SX} {v : SY} (I : i_Rel k u v) (hk : k + 3 ≤ 1536) (v1 : Int32) (v2 : Int32) : wpX_kindsWith (fun r => wpY_kindsWith (fun r' v' => r' = r ∧ i_Rel (k + 3) u v') v v1 v2) u v1 v2 := by
  obtain ⟨gc, go, cc, cn, ag, A, kn, ks⟩ := u
  obtain ⟨mm, cl, sz, car, cod, nam, wai, grp, lis⟩ := v
  obtain ⟨gen, m, c, hg, hm, hc, hc3, ⟨x1, x2, x3, x4, x5, x6, x7⟩, ⟨y1, y2, y3, y4⟩⟩ := I
  refine cx_kindsWith x2 hc hc3 x3 x6 (cy_kindsWith y1 hg hm y3 y2 hc hc3 ?_)
  intro nam' wai'
  exact ⟨rfl, gen, m, c, hg, hm, hc, hc3, ⟨x1, x2, x3, x4, x5, x6, x7⟩, ⟨y1, y2, y3, y4⟩⟩
theorem i_vc_kindsWithAll {k : Nat} {u : SX} {v : SY} (I : i_Rel k u v) (hk : k + 3 ≤ 1536) : wpX_kindsWithAll (fun r => wpY_kindsWithAll (fun r' v' => r' = r ∧ i_Rel (k + 3) u v') v) u := by
  obtain ⟨gc, go, cc, cn, ag, A, kn, ks⟩ := u
  obtain ⟨mm, cl, sz, car, cod, nam, wai, grp, lis⟩ := v
  obtain ⟨gen, m, c, hg, hm, hc, hc3, ⟨x1, x2, x3, x4, x5, x6, x7⟩, ⟨y1, y2, y3, y4⟩⟩ := I
  refine cx_kindsWithAll x2 hc hc3 x3 x6 (cy_kindsWithAll y1 hg hm y3 y2 hc hc3 ?_)
  intro nam' wai'
  exact ⟨rfl, gen, m, c, hg, hm, hc, hc3, ⟨x1, x2, x3, x4, x5, x6, x7⟩, ⟨y1, y2, y3, y4⟩⟩
theorem i_vc_name {k : Nat} {u : SX} {v : SY} (I : i_Rel k u v) (hk : k + 3 ≤ 1536) (v1 : Int32) : wpX_name (fun r => wpY_name (fun r' v' => r' = r ∧ i_Rel (k + 3) u v') v v1) u v1 := by
  obtain ⟨gc, go, cc, cn, ag, A, kn, ks⟩ := u
  obtain ⟨mm, cl, sz, car, cod, nam, wai, grp, lis⟩ := v
  obtain ⟨gen, m, c, hg, hm, hc, hc3, ⟨x1, x2, x3, x4, x5, x6, x7⟩, ⟨y1, y2, y3, y4⟩⟩ := I
  have hN := cb_c6 hc3
  refine cx_name hc3 x3 x6 (fun y hy e => cy_name y1 hg hm y3 y2 hc hc3 (fun y' hy' e' nam' wai' => ?_) (fun z => absurd ⟨y, hy, e⟩ z)) (fun z => cy_name y1 hg hm y3 y2 hc hc3 (fun y' hy' e' => absurd ⟨y', hy', e'⟩ z) (fun _ => ?_))
  · rw [e, nI_eq (by omega) (by omega)] at e'
    subst e'
    exact ⟨rfl, gen, m, c, hg, hm, hc, hc3, ⟨x1, x2, x3, x4, x5, x6, x7⟩, ⟨y1, y2, y3, y4⟩⟩
  · exact ⟨rfl, gen, m, c, hg, hm, hc, hc3, ⟨x1, x2, x3, x4, x5, x6, x7⟩, ⟨y1, y2, y3, y4⟩⟩
theorem i_vc_size {k : Nat} {u : SX} {v : SY} (I : i_Rel k u v) (hk : k + 3 ≤ 1536) (v1 : Int32) : wpX_size (fun r => wpY_size (fun r' v' => r' = r ∧ i_Rel (k + 3) u v') v v1) u v1 := by
  obtain ⟨gc, go, cc, cn, ag, A, kn, ks⟩ := u
  obtain ⟨mm, cl, sz, car, cod, nam, wai, grp, lis⟩ := v
  obtain ⟨gen, m, c, hg, hm, hc, hc3, ⟨x1, x2, x3, x4, x5, x6, x7⟩, ⟨y1, y2, y3, y4⟩⟩ := I
  have hN := cb_c6 hc3
  refine cx_size hc hg hc3 x3 x6 x7 (fun y hy e => cy_size y1 hg hm y3 y2 hc hc3 (fun y' hy' e' nam' wai' => ?_) (fun z => absurd ⟨y, hy, e⟩ z)) (fun z => cy_size y1 hg hm y3 y2 hc hc3 (fun y' hy' e' => absurd ⟨y', hy', e'⟩ z) (fun _ => ?_))
  · rw [e, nI_eq (by omega) (by omega)] at e'
    subst e'
    exact ⟨rfl, gen, m, c, hg, hm, hc, hc3, ⟨x1, x2, x3, x4, x5, x6, x7⟩, ⟨y1, y2, y3, y4⟩⟩
  · exact ⟨rfl, gen, m, c, hg, hm, hc, hc3, ⟨x1, x2, x3, x4, x5, x6, x7⟩, ⟨y1, y2, y3, y4⟩⟩
theorem i_vc_alike {k : Nat} {u : SX} {v : SY} (I : i_Rel k u v) (hk : k + 3 ≤ 1536) (v1 : Int32) (v2 : Int32) : wpX_alike (fun r => wpY_alike (fun r' v' => r' = r ∧ i_Rel (k + 3) u v') v v1 v2) u v1 v2 := by
  obtain ⟨gc, go, cc, cn, ag, A, kn, ks⟩ := u
  obtain ⟨mm, cl, sz, car, cod, nam, wai, grp, lis⟩ := v
  obtain ⟨gen, m, c, hg, hm, hc, hc3, ⟨x1, x2, x3, x4, x5, x6, x7⟩, ⟨y1, y2, y3, y4⟩⟩ := I
  have hN := cb_c6 hc3
  refine cx_alike hc hc3 x3 x6 ?_ ?_ ?_
  · intro y z hy hz e1 e2 h
    refine cy_alike y1 hg hm y3 y2 hc hc3 (fun y' z' hy' hz' e1' e2' h' nam' wai' => ⟨rfl, gen, m, c, hg, hm, hc, hc3, ⟨x1, x2, x3, x4, x5, x6, x7⟩, ⟨y1, y2, y3, y4⟩⟩) (fun y' z' hy' hz' e1' e2' h' => ?_) (fun w => absurd ⟨⟨y, hy, e1⟩, ⟨z, hz, e2⟩⟩ w)
    rw [e1, nI_eq (by omega) (by omega)] at e1'
    rw [e2, nI_eq (by omega) (by omega)] at e2'
    subst e1' e2'
    exact absurd h h'
  · intro y z hy hz e1 e2 h
    refine cy_alike y1 hg hm y3 y2 hc hc3 (fun y' z' hy' hz' e1' e2' h' => ?_) (fun y' z' hy' hz' e1' e2' h' nam' wai' => ⟨rfl, gen, m, c, hg, hm, hc, hc3, ⟨x1, x2, x3, x4, x5, x6, x7⟩, ⟨y1, y2, y3, y4⟩⟩) (fun w => absurd ⟨⟨y, hy, e1⟩, ⟨z, hz, e2⟩⟩ w)
    rw [e1, nI_eq (by omega) (by omega)] at e1'
    rw [e2, nI_eq (by omega) (by omega)] at e2'
    subst e1' e2'
    exact absurd h' h
  · intro w
    exact cy_alike y1 hg hm y3 y2 hc hc3 (fun y' z' hy' hz' e1' e2' h' => absurd ⟨⟨y', hy', e1'⟩, ⟨z', hz', e2'⟩⟩ w) (fun y' z' hy' hz' e1' e2' h' => absurd ⟨⟨y', hy', e1'⟩, ⟨z', hz', e2'⟩⟩ w) (fun _ => ⟨rfl, gen, m, c, hg, hm, hc, hc3, ⟨x1, x2, x3, x4, x5, x6, x7⟩, ⟨y1, y2, y3, y4⟩⟩)
theorem i_vc_still {k : Nat} {u : SX} {v : SY} (I : i_Rel k u v) (hk : k + 3 ≤ 1536) : wpX_still (fun r => wpY_still (fun r' v' => r' = r ∧ i_Rel (k + 3) u v') v) u := by
  obtain ⟨gc, go, cc, cn, ag, A, kn, ks⟩ := u
  obtain ⟨mm, cl, sz, car, cod, nam, wai, grp, lis⟩ := v
  obtain ⟨gen, m, c, hg, hm, hc, hc3, ⟨x1, x2, x3, x4, x5, x6, x7⟩, ⟨y1, y2, y3, y4⟩⟩ := I
  refine cx_still hc hc3 x3 x6 x7 (cy_still y1 hg hm y3 y2 hc hc3 ?_)
  intro nam' wai'
  exact ⟨rfl, gen, m, c, hg, hm, hc, hc3, ⟨x1, x2, x3, x4, x5, x6, x7⟩, ⟨y1, y2, y3, y4⟩⟩
theorem i_vc_selfExchanged {k : Nat} {u : SX} {v : SY} (I : i_Rel k u v) (hk : k + 3 ≤ 1536) : wpX_selfExchanged (fun r => wpY_selfExchanged (fun r' v' => r' = r ∧ i_Rel (k + 3) u v') v) u := by
  obtain ⟨gc, go, cc, cn, ag, A, kn, ks⟩ := u
  obtain ⟨mm, cl, sz, car, cod, nam, wai, grp, lis⟩ := v
  obtain ⟨gen, m, c, hg, hm, hc, hc3, ⟨x1, x2, x3, x4, x5, x6, x7⟩, ⟨y1, y2, y3, y4⟩⟩ := I
  refine cx_self x2 hc hc3 x3 x6 (cy_self y1 hg hm y3 y2 hc hc3 ?_)
  intro nam' wai'
  exact ⟨rfl, gen, m, c, hg, hm, hc, hc3, ⟨x1, x2, x3, x4, x5, x6, x7⟩, ⟨y1, y2, y3, y4⟩⟩
theorem i_vc_orbits {k : Nat} {u : SX} {v : SY} (I : i_Rel k u v) (hk : k + 3 ≤ 1536) : wpX_orbits (fun r => wpY_orbits (fun r' => r' = r ∧ i_Rel (k + 3) u v) v) u := by
  obtain ⟨gc, go, cc, cn, ag, A, kn, ks⟩ := u
  obtain ⟨mm, cl, sz, car, cod, nam, wai, grp, lis⟩ := v
  obtain ⟨gen, m, c, hg, hm, hc, hc3, ⟨x1, x2, x3, x4, ⟨gr, n, hE, hn, eo, eA⟩, x6, x7⟩, ⟨y1, y2, y3, y4⟩⟩ := I
  exact cx_orbits hg hE eo hn eA (cy_orbits y1 hg hm y3 ⟨rfl, gen, m, c, hg, hm, hc, hc3, ⟨x1, x2, x3, x4, ⟨gr, n, hE, hn, eo, eA⟩, x6, x7⟩, ⟨y1, y2, y3, y4⟩⟩)
theorem i_vc_pairKinds {k : Nat} {u : SX} {v : SY} (I : i_Rel k u v) (hk : k + 3 ≤ 1536) : wpX_pairKinds (fun r => wpY_pairKinds (fun r' => r' = r ∧ i_Rel (k + 3) u v) v) u := by
  obtain ⟨gc, go, cc, cn, ag, A, kn, ks⟩ := u
  obtain ⟨mm, cl, sz, car, cod, nam, wai, grp, lis⟩ := v
  obtain ⟨gen, m, c, hg, hm, hc, hc3, ⟨x1, x2, x3, x4, ⟨gr, n, hE, hn, eo, eA⟩, x6, x7⟩, ⟨y1, y2, y3, y4⟩⟩ := I
  exact cx_pairKinds hg hE eo hn eA (cy_pairKinds y1 hg hm y3 ⟨rfl, gen, m, c, hg, hm, hc, hc3, ⟨x1, x2, x3, x4, ⟨gr, n, hE, hn, eo, eA⟩, x6, x7⟩, ⟨y1, y2, y3, y4⟩⟩)
theorem i_vc_colours {k : Nat} {u : SX} {v : SY} (I : i_Rel k u v) (hk : k + 3 ≤ 1536) (v1 : Int32) : wpX_colours (fun r u' => wpY_colours (fun r' v' => r' = r ∧ i_Rel (k + 3) u' v') v v1) u v1 := by
  obtain ⟨gc, go, cc, cn, ag, A, kn, ks⟩ := u
  obtain ⟨mm, cl, sz, car, cod, nam, wai, grp, lis⟩ := v
  obtain ⟨gen, m, c, hg, hm, hc, hc3, ⟨x1, x2, x3, x4, ⟨gr, n, hE, hn, eo, eA⟩, x6, x7⟩, ⟨y1, y2, y3, y4⟩⟩ := I
  have old : i_Rel (k + 3) (gc, go, cc, cn, ag, A, kn, ks) (mm, cl, sz, car, cod, nam, wai, grp, lis) := ⟨gen, m, c, hg, hm, hc, hc3, ⟨x1, x2, x3, x4, ⟨gr, n, hE, hn, eo, eA⟩, x6, x7⟩, ⟨y1, y2, y3, y4⟩⟩
  by_cases h1 : v1 < 1
  · exact br_t h1 (br_t h1 ⟨rfl, old⟩)
  · by_cases h3 : v1 ≤ 3
    · refine br_f h1 (br_t h3 ?_)
      have hp : ¬ v1 < 0 := fun z => h1 (Int32.lt_of_lt_of_le z (by decide))
      obtain ⟨j, hj, rfl⟩ := nI_of hp
      have j3 : j ≤ 3 := (nI_leI hj (b := 3) (by omega)).mp h3
      have j1 : 0 < j := by
        have := (not_congr (nI_ltI hj (b := 1) (by omega))).mp h1
        omega
      refine cx_gather (c := j) hg rfl j1 j3 eo hn hE eA ?_
      intro kn' ks' k1 k2
      refine br_f h1 (br_t h3 ⟨?_, gen, m, j, hg, hm, j1, j3, ⟨x1, rfl, rfl, x4, ⟨gr, n, hE, hn, eo, eA⟩, k1, k2⟩, ⟨y1, rfl, y3, y4⟩⟩)
      rw [y2, x2]
    · exact br_f h1 (br_f h3 (br_f h1 (br_f h3 ⟨rfl, old⟩)))
theorem i_vc_remove {k : Nat} {u : SX} {v : SY} (I : i_Rel k u v) (hk : k + 3 ≤ 1536) : wpX_remove (fun r u' => wpY_remove (fun r' v' => r' = r ∧ i_Rel (k + 3) u' v') v) u := by
  obtain ⟨gc, go, cc, cn, ag, A, kn, ks⟩ := u
  obtain ⟨mm, cl, sz, car, cod, nam, wai, grp, lis⟩ := v
  obtain ⟨gen, m, c, hg, hm, hc, hc3, ⟨x1, x2, x3, x4, ⟨gr, n, hE, hn, eo, eA⟩, x6, x7⟩, ⟨y1, y2, y3, y4⟩⟩ := I
  have old : i_Rel (k + 3) (gc, go, cc, cn, ag, A, kn, ks) (mm, cl, sz, car, cod, nam, wai, grp, lis) := ⟨gen, m, c, hg, hm, hc, hc3, ⟨x1, x2, x3, x4, ⟨gr, n, hE, hn, eo, eA⟩, x6, x7⟩, ⟨y1, y2, y3, y4⟩⟩
  cases m with
  | zero =>
    exact br_f (by rw [x1]; decide) (br_t y1 ⟨rfl, old⟩)
  | succ q =>
    have hg' : ck_gok gen q := fun i hi => hg i (by omega)
    refine br_t (by rw [x1]; exact nI_lt (a := 0) (by omega) (by omega)) (nm_r (e' := nI q) (by rw [x1]; exact nI_pred q) ⟨vp_in_nI (by omega) (by omega), ?_⟩)
    rw [nI_clamp (n := q) (by omega)]
    refine nm_e (cx_close hg' (by omega) rfl (fun i hi => x4 i (by omega)) ?_)
    intro go' A' gr' n' hE' hn' eo' eA'
    refine cx_gather hg' x2 hc hc3 eo' hn' hE' eA' ?_
    intro kn' ks' k1 k2
    refine br_f (by rw [y1]; exact nI_ne0 (by omega) (by omega)) (nm_r (e' := nI q) (by rw [y1]; exact nI_pred q) ⟨vp_in_nI (by omega) (by omega), ?_, gen, q, c, hg', by omega, hc, hc3, ⟨rfl, x2, rfl, fun i hi => x4 i (by omega), ⟨gr', n', hE', hn', eo', eA'⟩, k1, k2⟩, ⟨rfl, y2, fun i hi => y3 i (by omega), fun i hi => y4 i (by omega)⟩⟩)
    rw [nI_clamp (n := q) (by omega), y4 q (by omega), x4 q (by omega)]
/-- Y writes the digits of a new generator -/
theorem cy_add23 {post : Int32 → SY → Prop} {mm cl sz : Int32} {cod nam wai grp lis : Nat → Int32} {car0 : Nat → Int32} {g m : Nat} (em : mm = nI m) (hm : m < 3) (hg : g < 46656)
    (H : ∀ car' : Nat → Int32, (∀ j, j < 6 * m → car' j = car0 j) → (∀ p, p < 6 → car' (6 * m + p) = nI (ck_dg 6 g p)) → post (nI (m + 1)) (nI (m + 1), cl, sz, car', upd cod m (nI g), nam, wai, grp, lis)) :
    ∀ d i : Nat, i + d = 6 → ∀ car : Nat → Int32, (∀ j, j < 6 * m → car j = car0 j) → (∀ p, p < i → car (6 * m + p) = nI (ck_dg 6 g p)) → wY_add_23 post (nI g) mm cl sz (d + 1) (nI i) car cod nam wai grp lis := by
  subst em
  intro d
  induction d with
  | zero =>
    intro i hi car h1 h2
    refine br_t (nI_le (a := 6) (by omega) (by omega)) ⟨vp_in_nI hm (by omega), ?_⟩
    rw [nI_clamp (n := m) (by omega)]
    exact nm_e (nm_r (nI_1 m) (H car h1 fun p hp => h2 p (by omega)))
  | succ d ih =>
    intro i hi car h1 h2
    refine br_f (nI_ge (b := 6) (by omega) (by omega)) (cy_digit g 6 i rfl rfl rfl (by omega) (by omega) (by omega) (by omega) ?_)
    rw [cb_ix m i rfl rfl]
    refine ⟨vp_in_nI (by omega) (by omega), ?_⟩
    rw [nI_clamp (n := 6 * m + i) (by omega)]
    refine nm_e (nm_r (nI_1 i) (ih (i + 1) (by omega) _ ?_ ?_))
    · intro j hj
      rw [pk_un (by omega)]
      exact h1 j hj
    · intro p hp
      by_cases z : p = i
      · rw [z]; exact pk_us
      · rw [pk_un (by omega)]
        exact h2 p (by omega)
theorem i_vc_add {k : Nat} {u : SX} {v : SY} (I : i_Rel k u v) (hk : k + 3 ≤ 1536) (v1 : Int32) : wpX_add (fun r u' => wpY_add (fun r' v' => r' = r ∧ i_Rel (k + 3) u' v') v v1) u v1 := by
  obtain ⟨gc, go, cc, cn, ag, A, kn, ks⟩ := u
  obtain ⟨mm, cl, sz, car, cod, nam, wai, grp, lis⟩ := v
  obtain ⟨gen, m, c, hg, hm, hc, hc3, ⟨x1, x2, x3, x4, ⟨gr, n, hE, hn, eo, eA⟩, x6, x7⟩, ⟨y1, y2, y3, y4⟩⟩ := I
  have old : i_Rel (k + 3) (gc, go, cc, cn, ag, A, kn, ks) (mm, cl, sz, car, cod, nam, wai, grp, lis) := ⟨gen, m, c, hg, hm, hc, hc3, ⟨x1, x2, x3, x4, ⟨gr, n, hE, hn, eo, eA⟩, x6, x7⟩, ⟨y1, y2, y3, y4⟩⟩
  unfold wpX_add
  refine cx_isRear v1 (fun g e hlt hs => br_f (by decide) ?_) (fun z => br_t rfl ?_)
  · by_cases h3 : m < 3
    · have hpg := ck_sn_pm hlt hs
      have hg' : ck_gok (ck_app gen m g) (m + 1) := by
        intro i hi
        by_cases z : i = m
        · rw [z, ck_app_s]; exact hpg
        · rw [ck_app_n (by omega)]; exact hg i (by omega)
      refine br_t (by rw [x1]; exact nI_lt (b := 3) h3 (by omega)) ⟨by rw [x1]; exact vp_in_nI h3 (by omega), ?_⟩
      have eag : ∀ i, i < m + 1 → upd ag m v1 i = nI (ck_app gen m g i) := by
        intro i hi
        by_cases z : i = m
        · rw [z, pk_us, ck_app_s]; exact e
        · rw [pk_un z, ck_app_n (by omega)]
          exact x4 i (by omega)
      rw [x1, nI_clamp (n := m) (by omega)]
      refine nm_e (nm_r (nI_1 m) (cx_close hg' (by omega) rfl eag ?_))
      intro go' A' gr' n' hE' hn' eo' eA'
      refine cx_gather hg' x2 hc hc3 eo' hn' hE' eA' ?_
      intro kn' ks' k1 k2
      show wpY_add _ _ _
      unfold wpY_add
      refine cy_isRear v1 (fun _ _ _ _ => br_f (by decide) (br_f ?_ ⟨7, ?_⟩)) (fun z => absurd ⟨g, e, hlt, hs⟩ z)
      · rw [y1]
        intro w
        have := (nI_eq (a := m) (b := 3) (by omega) (by omega)).mp w
        omega
      · subst e
        refine cy_add23 (car0 := car) y1 h3 hlt ?_ 6 0 (by omega) car (fun _ _ => rfl) (fun p hp => by omega)
        intro car' c1 c2
        refine ⟨rfl, ck_app gen m g, m + 1, c, hg', by omega, hc, hc3, ⟨rfl, x2, rfl, eag, ⟨gr', n', hE', hn', eo', eA'⟩, k1, k2⟩, ⟨rfl, y2, ?_, ?_⟩⟩
        · intro i hi p hp
          by_cases z : i = m
          · rw [z, ck_app_s]; exact c2 p hp
          · rw [ck_app_n (by omega), c1 _ (by omega)]
            exact y3 i (by omega) p hp
        · intro i hi
          by_cases z : i = m
          · rw [z, ck_app_s]; exact pk_us
          · rw [ck_app_n (by omega), pk_un z]
            exact y4 i (by omega)
    · have m3 : m = 3 := by omega
      refine br_f (by rw [x1]; exact nI_nlt (b := 3) (by omega) (by omega)) ?_
      unfold wpY_add
      exact cy_isRear v1 (fun _ _ _ _ => br_f (by decide) (br_t (by rw [y1, m3]; rfl) ⟨rfl, old⟩)) (fun z => absurd ⟨g, e, hlt, hs⟩ z)
  · show wpY_add _ _ _
    unfold wpY_add
    exact cy_isRear v1 (fun g e hlt hs => absurd ⟨g, e, hlt, hs⟩ z) (fun _ => br_t rfl ⟨rfl, old⟩)
end
