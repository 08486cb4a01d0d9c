/-! numbers of six digits, rearrangements, colourings, the group: no printed predicate stands here -/
def ck_dg (b x i : Nat) : Nat := x / b ^ i % b
def ck_enc (b : Nat) (f : Nat → Nat) : Nat → Nat
  | 0 => 0
  | n + 1 => ck_enc b f n + f n * b ^ n
theorem ck_dg_lt {b : Nat} (hb : 0 < b) (x i : Nat) : ck_dg b x i < b := Nat.mod_lt _ hb
theorem ck_enc_congr {b : Nat} {f g : Nat → Nat} : ∀ {n : Nat}, (∀ i, i < n → f i = g i) → ck_enc b f n = ck_enc b g n := by
  intro n
  induction n with
  | zero => intro _; rfl
  | succ n ih =>
    intro h
    show ck_enc b f n + f n * b ^ n = ck_enc b g n + g n * b ^ n
    rw [ih (fun i hi => h i (by omega)), h n (by omega)]
theorem ck_enc_lt {b : Nat} {f : Nat → Nat} : ∀ {n : Nat}, (∀ i, i < n → f i < b) → ck_enc b f n < b ^ n := by
  intro n
  induction n with
  | zero => intro _; exact Nat.one_pos
  | succ n ih =>
    intro h
    have h1 := ih (fun i hi => h i (by omega))
    have h2 : (f n + 1) * b ^ n ≤ b * b ^ n := Nat.mul_le_mul_right _ (h n (by omega))
    rw [Nat.succ_mul] at h2
    show ck_enc b f n + f n * b ^ n < b ^ (n + 1)
    rw [Nat.pow_succ, Nat.mul_comm (b ^ n) b]
    omega
theorem ck_enc_dg {b : Nat} {f : Nat → Nat} : ∀ {n : Nat}, (∀ i, i < n → f i < b) → ∀ {i : Nat}, i < n → ck_dg b (ck_enc b f n) i = f i := by
  intro n
  induction n with
  | zero => intro _ i hi; omega
  | succ n ih =>
    intro h i hi
    have hb : 0 < b := Nat.lt_of_le_of_lt (Nat.zero_le _) (h n (by omega))
    have hl := ck_enc_lt (fun i hi => h i (Nat.lt_succ_of_lt hi)) (n := n)
    show (ck_enc b f n + f n * b ^ n) / b ^ i % b = f i
    by_cases e : i = n
    · subst e
      rw [Nat.add_mul_div_right _ _ (Nat.pow_pos hb), Nat.div_eq_of_lt hl, Nat.zero_add, Nat.mod_eq_of_lt (h i hi)]
    · have hin : i < n := by omega
      obtain ⟨d, rfl⟩ : ∃ d, n = d + 1 + i := ⟨n - i - 1, by omega⟩
      have e2 : f (d + 1 + i) * b ^ (d + 1 + i) = (f (d + 1 + i) * b ^ d * b) * b ^ i := by
        rw [Nat.pow_add, Nat.pow_succ, Nat.mul_assoc, Nat.mul_assoc, Nat.mul_assoc]
      rw [e2, Nat.add_mul_div_right _ _ (Nat.pow_pos hb), Nat.add_mul_mod_self_right]
      exact ih (fun i hi => h i (by omega)) hin
theorem ck_enc_of {b : Nat} (x : Nat) : ∀ n, ck_enc b (ck_dg b x) n = x % b ^ n := by
  intro n
  induction n with
  | zero => rw [Nat.pow_zero, Nat.mod_one]; rfl
  | succ n ih =>
    show ck_enc b (ck_dg b x) n + x / b ^ n % b * b ^ n = _
    rw [ih, Nat.mod_pow_succ, Nat.mul_comm]
theorem ck_ext {b n x y : Nat} (hx : x < b ^ n) (hy : y < b ^ n) (h : ∀ i, i < n → ck_dg b x i = ck_dg b y i) : x = y := by
  have e := ck_enc_congr (b := b) h
  rw [ck_enc_of, ck_enc_of, Nat.mod_eq_of_lt hx, Nat.mod_eq_of_lt hy] at e
  exact e
theorem ck_enc_upd {b : Nat} {h : Nat → Nat} {t v : Nat} (h0 : h t = 0) : ∀ {n : Nat}, t < n → ck_enc b (fun p => if p = t then v else h p) n = ck_enc b h n + v * b ^ t := by
  intro n
  induction n with
  | zero => intro z; omega
  | succ n ih =>
    intro ht
    show ck_enc b (fun p => if p = t then v else h p) n + (if n = t then v else h n) * b ^ n = ck_enc b h n + h n * b ^ n + v * b ^ t
    by_cases e : n = t
    · subst e
      rw [if_pos rfl, h0, Nat.zero_mul, Nat.add_zero]
      congr 1
      exact ck_enc_congr (fun i hi => if_neg (by omega))
    · rw [if_neg e, ih (by omega)]
      omega
/-! rearrangements -/
def ck_pm (g : Nat) : Prop := g < 46656 ∧ ∀ i, i < 6 → ∀ j, j < 6 → ck_dg 6 g i = ck_dg 6 g j → i = j
def ck_cmp (a b : Nat) : Nat := ck_enc 6 (fun p => ck_dg 6 b (ck_dg 6 a p)) 6
theorem ck_d6 (x i : Nat) : ck_dg 6 x i < 6 := Nat.mod_lt _ (by decide)
theorem ck_cmp_lt (a b : Nat) : ck_cmp a b < 46656 := ck_enc_lt (b := 6) (n := 6) (fun _ _ => ck_d6 _ _)
theorem ck_cmp_dg (a b : Nat) {p : Nat} (hp : p < 6) : ck_dg 6 (ck_cmp a b) p = ck_dg 6 b (ck_dg 6 a p) := ck_enc_dg (b := 6) (n := 6) (f := fun p => ck_dg 6 b (ck_dg 6 a p)) (fun _ _ => ck_d6 _ _) hp
theorem ck_ext6 {x y : Nat} (hx : x < 46656) (hy : y < 46656) (h : ∀ i, i < 6 → ck_dg 6 x i = ck_dg 6 y i) : x = y := ck_ext (b := 6) (n := 6) hx hy h
theorem ck_id_dg : ∀ i, i < 6 → ck_dg 6 44790 i = i := by decide
theorem ck_pm_id : ck_pm 44790 := ⟨by decide, fun i hi j hj h => by rw [ck_id_dg i hi, ck_id_dg j hj] at h; exact h⟩
theorem ck_pm_cmp {a b : Nat} (ha : ck_pm a) (hb : ck_pm b) : ck_pm (ck_cmp a b) := ⟨ck_cmp_lt a b, fun i hi j hj h => by
  rw [ck_cmp_dg _ _ hi, ck_cmp_dg _ _ hj] at h
  exact ha.2 i hi j hj (hb.2 _ (ck_d6 _ _) _ (ck_d6 _ _) h)⟩
theorem ck_cmp_assoc (a b c : Nat) : ck_cmp (ck_cmp a b) c = ck_cmp a (ck_cmp b c) := by
  refine ck_ext6 (ck_cmp_lt _ _) (ck_cmp_lt _ _) fun i hi => ?_
  rw [ck_cmp_dg _ _ hi, ck_cmp_dg _ _ hi, ck_cmp_dg _ _ hi, ck_cmp_dg _ _ (ck_d6 _ _)]
theorem ck_id_cmp {a : Nat} (h : a < 46656) : ck_cmp 44790 a = a := by
  refine ck_ext6 (ck_cmp_lt _ _) h fun i hi => ?_
  rw [ck_cmp_dg _ _ hi, ck_id_dg i hi]
theorem ck_cmp_id {a : Nat} (h : a < 46656) : ck_cmp a 44790 = a := by
  refine ck_ext6 (ck_cmp_lt _ _) h fun i hi => ?_
  rw [ck_cmp_dg _ _ hi, ck_id_dg _ (ck_d6 _ _)]
def ck_f (l : List Nat) : List Nat := (List.range 6).filter fun x => !l.contains x
def ck_L : List Nat := (List.range 6).flatMap fun a => (ck_f [a]).flatMap fun b => (ck_f [a, b]).flatMap fun c => (ck_f [a, b, c]).flatMap fun d => (ck_f [a, b, c, d]).flatMap fun e => (ck_f [a, b, c, d, e]).map fun f => ((((((0 + a * 6 ^ 0) + b * 6 ^ 1) + c * 6 ^ 2) + d * 6 ^ 3) + e * 6 ^ 4) + f * 6 ^ 5)
theorem ck_L_len : ck_L.length = 720 := by decide +kernel
theorem ck_memf {l : List Nat} {x : Nat} (hx : x < 6) (h : ∀ y, y ∈ l → x ≠ y) : x ∈ ck_f l := by
  refine List.mem_filter.mpr ⟨List.mem_range.mpr hx, ?_⟩
  cases e : l.contains x with
  | false => rfl
  | true => exact absurd rfl (h x (List.contains_iff_mem.mp e))
theorem ck_memL {g : Nat} (h : ck_pm g) : g ∈ ck_L := by
  have n (i j : Nat) (hi : i < 6) (hj : j < 6) (hij : i ≠ j) : ck_dg 6 g i ≠ ck_dg 6 g j := fun e => hij (h.2 i hi j hj e)
  refine List.mem_flatMap.mpr ⟨ck_dg 6 g 0, List.mem_range.mpr (ck_d6 _ _), ?_⟩
  refine List.mem_flatMap.mpr ⟨ck_dg 6 g 1, ck_memf (ck_d6 _ _) ?_, ?_⟩
  · intro y hy
    simp only [List.mem_cons, List.not_mem_nil, or_false] at hy
    rcases hy with rfl <;> exact n _ _ (by decide) (by decide) (by decide)
  refine List.mem_flatMap.mpr ⟨ck_dg 6 g 2, ck_memf (ck_d6 _ _) ?_, ?_⟩
  · intro y hy
    simp only [List.mem_cons, List.not_mem_nil, or_false] at hy
    rcases hy with rfl | rfl <;> exact n _ _ (by decide) (by decide) (by decide)
  refine List.mem_flatMap.mpr ⟨ck_dg 6 g 3, ck_memf (ck_d6 _ _) ?_, ?_⟩
  · intro y hy
    simp only [List.mem_cons, List.not_mem_nil, or_false] at hy
    rcases hy with rfl | rfl | rfl <;> exact n _ _ (by decide) (by decide) (by decide)
  refine List.mem_flatMap.mpr ⟨ck_dg 6 g 4, ck_memf (ck_d6 _ _) ?_, ?_⟩
  · intro y hy
    simp only [List.mem_cons, List.not_mem_nil, or_false] at hy
    rcases hy with rfl | rfl | rfl | rfl <;> exact n _ _ (by decide) (by decide) (by decide)
  refine List.mem_map.mpr ⟨ck_dg 6 g 5, ck_memf (ck_d6 _ _) ?_, ?_⟩
  · intro y hy
    simp only [List.mem_cons, List.not_mem_nil, or_false] at hy
    rcases hy with rfl | rfl | rfl | rfl | rfl <;> exact n _ _ (by decide) (by decide) (by decide)
  · have e := ck_enc_of (b := 6) g 6
    rw [Nat.mod_eq_of_lt h.1] at e
    exact e
/-- every place is reached -/
theorem ck_sur {g : Nat} (h : ck_pm g) {p : Nat} (hp : p < 6) : ∃ i, i < 6 ∧ ck_dg 6 g i = p := by
  have key : ∀ g, g ∈ ck_L → ∀ p, p < 6 → (List.range 6).any (fun i => ck_dg 6 g i == p) = true := by decide +kernel
  have k := key g (ck_memL h) p hp
  rw [List.any_eq_true] at k
  obtain ⟨i, hi, e⟩ := k
  exact ⟨i, List.mem_range.mp hi, eq_of_beq e⟩
def ck_pw (g : Nat) : Nat → Nat
  | 0 => 44790
  | n + 1 => ck_cmp (ck_pw g n) g
theorem ck_pw_add (g : Nat) (m : Nat) : ∀ n, ck_pw g (m + n) = ck_cmp (ck_pw g m) (ck_pw g n) := by
  intro n
  induction n with
  | zero =>
    have h : ck_pw g m < 46656 := by
      cases m with
      | zero => exact (by decide : 44790 < 46656)
      | succ m => exact ck_cmp_lt _ _
    exact (ck_cmp_id h).symm
  | succ n ih =>
    show ck_cmp (ck_pw g (m + n)) g = ck_cmp (ck_pw g m) (ck_cmp (ck_pw g n) g)
    rw [ih, ck_cmp_assoc]
def ck_sq (g : Nat) : Nat := ck_cmp g g
theorem ck_60 : ∀ g, g ∈ ck_L → (let a := ck_sq (ck_sq g); let b := ck_sq a; let c := ck_sq b; let d := ck_sq c; ck_cmp (ck_cmp a b) (ck_cmp c d)) = 44790 := by decide +kernel
theorem ck_pw60 {g : Nat} (h : ck_pm g) : ck_pw g 60 = 44790 := by
  have h1 : ck_pw g 1 = g := ck_id_cmp h.1
  have h2 : ck_pw g 2 = ck_sq g := by rw [show (2 : Nat) = 1 + 1 from rfl, ck_pw_add, h1]; rfl
  have h4 : ck_pw g 4 = ck_sq (ck_sq g) := by rw [show (4 : Nat) = 2 + 2 from rfl, ck_pw_add, h2]; rfl
  have h8 : ck_pw g 8 = ck_sq (ck_sq (ck_sq g)) := by rw [show (8 : Nat) = 4 + 4 from rfl, ck_pw_add, h4]; rfl
  have h16 : ck_pw g 16 = ck_sq (ck_sq (ck_sq (ck_sq g))) := by rw [show (16 : Nat) = 8 + 8 from rfl, ck_pw_add, h8]; rfl
  have h32 : ck_pw g 32 = ck_sq (ck_sq (ck_sq (ck_sq (ck_sq g)))) := by rw [show (32 : Nat) = 16 + 16 from rfl, ck_pw_add, h16]; rfl
  have e : ck_pw g 60 = ck_cmp (ck_cmp (ck_pw g 4) (ck_pw g 8)) (ck_cmp (ck_pw g 16) (ck_pw g 32)) := by
    rw [← ck_pw_add, ← ck_pw_add, ← ck_pw_add]
  rw [e, h4, h8, h16, h32]
  exact ck_60 g (ck_memL h)
/-! colourings -/
def ck_sum (f : Nat → Nat) : Nat → Nat
  | 0 => 0
  | n + 1 => ck_sum f n + f n
def ck_act (c g x : Nat) : Nat := ck_sum (fun i => ck_dg c x i * c ^ ck_dg 6 g i) 6
theorem ck_act_aux {c g : Nat} (x : Nat) (hc : 0 < c) (hg : ck_pm g) : ∀ n, n ≤ 6 → ∃ h : Nat → Nat, (∀ p, h p < c) ∧ (∀ p, (∀ i, i < n → ck_dg 6 g i ≠ p) → h p = 0) ∧ (∀ i, i < n → h (ck_dg 6 g i) = ck_dg c x i) ∧ ck_sum (fun i => ck_dg c x i * c ^ ck_dg 6 g i) n = ck_enc c h 6 := by
  intro n
  induction n with
  | zero =>
    intro _
    refine ⟨fun _ => 0, fun _ => hc, fun _ _ => rfl, fun i hi => by omega, ?_⟩
    show 0 = ck_enc c (fun _ => 0) 6
    simp [ck_enc]
  | succ n ih =>
    intro hn
    obtain ⟨h, h1, h2, h3, h4⟩ := ih (by omega)
    refine ⟨fun p => if p = ck_dg 6 g n then ck_dg c x n else h p, ?_, ?_, ?_, ?_⟩
    · intro p
      show (if p = ck_dg 6 g n then ck_dg c x n else h p) < c
      split
      · exact ck_dg_lt hc _ _
      · exact h1 p
    · intro p hp
      show (if p = ck_dg 6 g n then ck_dg c x n else h p) = 0
      rw [if_neg (fun e => hp n (by omega) e.symm)]
      exact h2 p fun i hi => hp i (by omega)
    · intro i hi
      show (if ck_dg 6 g i = ck_dg 6 g n then ck_dg c x n else h (ck_dg 6 g i)) = ck_dg c x i
      by_cases e : i = n
      · rw [e, if_pos rfl]
      · rw [if_neg (fun z => e (hg.2 i (by omega) n (by omega) z))]
        exact h3 i (by omega)
    · have h0 : h (ck_dg 6 g n) = 0 := h2 _ fun i hi z => by
        have := hg.2 i (by omega) n (by omega) z
        omega
      rw [ck_enc_upd h0 (ck_d6 g n), ← h4]
      rfl
theorem ck_act_lt {c g : Nat} (x : Nat) (hc : 0 < c) (hg : ck_pm g) : ck_act c g x < c ^ 6 := by
  obtain ⟨h, h1, _, _, h4⟩ := ck_act_aux x hc hg 6 (Nat.le_refl 6)
  show ck_sum _ 6 < _
  rw [h4]
  exact ck_enc_lt fun i _ => h1 i
theorem ck_act_dg {c g : Nat} (x : Nat) (hc : 0 < c) (hg : ck_pm g) {i : Nat} (hi : i < 6) : ck_dg c (ck_act c g x) (ck_dg 6 g i) = ck_dg c x i := by
  obtain ⟨h, h1, _, h3, h4⟩ := ck_act_aux x hc hg 6 (Nat.le_refl 6)
  show ck_dg c (ck_sum _ 6) _ = _
  rw [h4, ck_enc_dg (fun i _ => h1 i) (ck_d6 g i), h3 i hi]
theorem ck_act_eq {c g x y : Nat} (hc : 0 < c) (hg : ck_pm g) (hy : y < c ^ 6) (h : ∀ i, i < 6 → ck_dg c y (ck_dg 6 g i) = ck_dg c x i) : y = ck_act c g x := by
  refine ck_ext hy (ck_act_lt x hc hg) fun p hp => ?_
  obtain ⟨i, hi, rfl⟩ := ck_sur hg hp
  rw [h i hi, ck_act_dg x hc hg hi]
theorem ck_act_id {c x : Nat} (hc : 0 < c) (hx : x < c ^ 6) : ck_act c 44790 x = x :=
  (ck_act_eq hc ck_pm_id hx fun i hi => by rw [ck_id_dg i hi]).symm
theorem ck_act_cmp {c g h : Nat} (x : Nat) (hc : 0 < c) (hg : ck_pm g) (hh : ck_pm h) : ck_act c (ck_cmp g h) x = ck_act c h (ck_act c g x) :=
  (ck_act_eq hc (ck_pm_cmp hg hh) (ck_act_lt _ hc hh) fun i hi => by
    rw [ck_cmp_dg _ _ hi, ck_act_dg _ hc hh (ck_d6 _ _), ck_act_dg _ hc hg hi]).symm
/-! the group of the first m generators -/
def ck_G (gen : Nat → Nat) (m x : Nat) : Prop := ∃ w : List Nat, (∀ i, i ∈ w → i < m) ∧ x = w.foldl (fun a i => ck_cmp a (gen i)) 44790
def ck_gok (gen : Nat → Nat) (m : Nat) : Prop := ∀ i, i < m → ck_pm (gen i)
theorem ck_G_id (gen : Nat → Nat) (m : Nat) : ck_G gen m 44790 := ⟨[], fun _ h => (nomatch h), rfl⟩
theorem ck_G_step {gen : Nat → Nat} {m x i : Nat} (h : ck_G gen m x) (hi : i < m) : ck_G gen m (ck_cmp x (gen i)) := by
  obtain ⟨w, hw, rfl⟩ := h
  refine ⟨w ++ [i], ?_, by rw [List.foldl_append]; rfl⟩
  intro j hj
  rcases List.mem_append.mp hj with h | h
  · exact hw j h
  · rw [List.mem_singleton.mp h]; exact hi
theorem ck_G_ind {gen : Nat → Nat} {m : Nat} {P : Nat → Prop} (h0 : P 44790) (hs : ∀ x, ck_G gen m x → P x → ∀ i, i < m → P (ck_cmp x (gen i))) {x : Nat} (hx : ck_G gen m x) : P x := by
  obtain ⟨w, hw, rfl⟩ := hx
  have key : ∀ (w : List Nat) (a : Nat), (∀ i, i ∈ w → i < m) → ck_G gen m a → P a → P (w.foldl (fun a i => ck_cmp a (gen i)) a) := by
    intro w
    induction w with
    | nil => intro a _ _ h; exact h
    | cons j w ih =>
      intro a hw ha hp
      have hj : j < m := hw j (List.mem_cons_self ..)
      exact ih _ (fun i hi => hw i (List.mem_cons_of_mem _ hi)) (ck_G_step ha hj) (hs a ha hp j hj)
  exact key w _ hw (ck_G_id gen m) h0
theorem ck_G_pm {gen : Nat → Nat} {m x : Nat} (hg : ck_gok gen m) (hx : ck_G gen m x) : ck_pm x :=
  ck_G_ind (P := ck_pm) ck_pm_id (fun _ _ h i hi => ck_pm_cmp h (hg i hi)) hx
theorem ck_G_mul {gen : Nat → Nat} {m x y : Nat} (hg : ck_gok gen m) (hx : ck_G gen m x) (hy : ck_G gen m y) : ck_G gen m (ck_cmp x y) :=
  ck_G_ind (P := fun y => ck_G gen m (ck_cmp x y)) (by rw [ck_cmp_id (ck_G_pm hg hx).1]; exact hx) (fun y _ h i hi => by rw [← ck_cmp_assoc]; exact ck_G_step h hi) hy
theorem ck_G_pw {gen : Nat → Nat} {m x : Nat} (hg : ck_gok gen m) (hx : ck_G gen m x) : ∀ n, ck_G gen m (ck_pw x n) := by
  intro n
  induction n with
  | zero => exact ck_G_id gen m
  | succ n ih => exact ck_G_mul hg ih hx
theorem ck_G_inv {gen : Nat → Nat} {m x : Nat} (hg : ck_gok gen m) (hx : ck_G gen m x) : ∃ y, ck_G gen m y ∧ ck_cmp x y = 44790 ∧ ck_cmp y x = 44790 := by
  have hp := ck_G_pm hg hx
  refine ⟨ck_pw x 59, ck_G_pw hg hx 59, ?_, ?_⟩
  · have e := ck_pw_add x 1 59
    rw [show ck_pw x 1 = x from ck_id_cmp hp.1] at e
    rw [← e]
    exact ck_pw60 hp
  · exact ck_pw60 hp
theorem ck_G_congr {gen gen' : Nat → Nat} {m : Nat} (h : ∀ i, i < m → gen i = gen' i) {x : Nat} (hx : ck_G gen m x) : ck_G gen' m x :=
  ck_G_ind (P := ck_G gen' m) (ck_G_id gen' m) (fun x _ hx i hi => by rw [h i hi]; exact ck_G_step hx hi) hx
/-! kinds -/
def ck_R (gen : Nat → Nat) (m c x y : Nat) : Prop := ∃ g, ck_G gen m g ∧ y = ck_act c g x
theorem ck_R_lt {gen : Nat → Nat} {m c x y : Nat} (hg : ck_gok gen m) (hc : 0 < c) (h : ck_R gen m c x y) : y < c ^ 6 := by
  obtain ⟨g, h1, rfl⟩ := h
  exact ck_act_lt x hc (ck_G_pm hg h1)
theorem ck_R_rf {gen : Nat → Nat} {m c x : Nat} (hc : 0 < c) (hx : x < c ^ 6) : ck_R gen m c x x := ⟨44790, ck_G_id gen m, (ck_act_id hc hx).symm⟩
theorem ck_R_sy {gen : Nat → Nat} {m c x y : Nat} (hg : ck_gok gen m) (hc : 0 < c) (hx : x < c ^ 6) (h : ck_R gen m c x y) : ck_R gen m c y x := by
  obtain ⟨g, h1, rfl⟩ := h
  obtain ⟨k, hk, e, _⟩ := ck_G_inv hg h1
  refine ⟨k, hk, ?_⟩
  rw [← ck_act_cmp x hc (ck_G_pm hg h1) (ck_G_pm hg hk), e, ck_act_id hc hx]
theorem ck_R_tr {gen : Nat → Nat} {m c x y z : Nat} (hg : ck_gok gen m) (hc : 0 < c) (h : ck_R gen m c x y) (h' : ck_R gen m c y z) : ck_R gen m c x z := by
  obtain ⟨g, h1, rfl⟩ := h
  obtain ⟨k, h2, rfl⟩ := h'
  exact ⟨ck_cmp g k, ck_G_mul hg h1 h2, (ck_act_cmp x hc (ck_G_pm hg h1) (ck_G_pm hg h2)).symm⟩
/-! counting -/
noncomputable def ck_ct (p : Nat → Prop) : Nat → Nat
  | 0 => 0
  | n + 1 => ck_ct p n + @ite Nat (p n) (Classical.propDecidable (p n)) 1 0
theorem ck_ct_t {p : Nat → Prop} {n : Nat} (h : p n) : ck_ct p (n + 1) = ck_ct p n + 1 := by
  rw [ck_ct, if_pos h]
theorem ck_ct_f {p : Nat → Prop} {n : Nat} (h : ¬ p n) : ck_ct p (n + 1) = ck_ct p n := by
  rw [ck_ct, if_neg h, Nat.add_zero]
theorem ck_ct_le (p : Nat → Prop) : ∀ n, ck_ct p n ≤ n := by
  intro n
  induction n with
  | zero => exact Nat.le_refl 0
  | succ n ih =>
    by_cases h : p n
    · rw [ck_ct_t h]; omega
    · rw [ck_ct_f h]; omega
theorem ck_ct_congr {p q : Nat → Prop} : ∀ {n : Nat}, (∀ i, i < n → (p i ↔ q i)) → ck_ct p n = ck_ct q n := by
  intro n
  induction n with
  | zero => intro _; rfl
  | succ n ih =>
    intro h
    have e := ih fun i hi => h i (by omega)
    by_cases hp : p n
    · rw [ck_ct_t hp, ck_ct_t ((h n (by omega)).mp hp), e]
    · rw [ck_ct_f hp, ck_ct_f (fun z => hp ((h n (by omega)).mpr z)), e]
/-- gr lists, without repeats, just what P holds of -/
def ck_En (gr : Nat → Nat) (n : Nat) (P : Nat → Prop) : Prop := (∀ x, P x ↔ ∃ e, e < n ∧ gr e = x) ∧ ∀ e, e < n → ∀ e', e' < n → gr e = gr e' → e = e'
theorem ck_nodup {gr : Nat → Nat} {n : Nat} (h : ∀ e, e < n → ∀ e', e' < n → gr e = gr e' → e = e') : ((List.range n).map gr).Nodup := by
  rw [List.nodup_iff_pairwise_ne, List.pairwise_map]
  refine List.Pairwise.imp_of_mem ?_ (List.nodup_iff_pairwise_ne.mp List.nodup_range)
  intro a b ha hb hab e
  exact hab (h a (List.mem_range.mp ha) b (List.mem_range.mp hb) e)
theorem ck_En_mem {gr : Nat → Nat} {n : Nat} {P : Nat → Prop} (h : ck_En gr n P) (x : Nat) : x ∈ (List.range n).map gr ↔ P x := by
  rw [h.1 x, List.mem_map]
  constructor
  · rintro ⟨e, he, rfl⟩
    exact ⟨e, List.mem_range.mp he, rfl⟩
  · rintro ⟨e, he, rfl⟩
    exact ⟨e, List.mem_range.mpr he, rfl⟩
theorem ck_ct_list (p : Nat → Prop) (gr : Nat → Nat) : ∀ n, ck_ct (fun e => p (gr e)) n = ((List.range n).map gr).countP (fun x => @decide (p x) (Classical.propDecidable (p x))) := by
  intro n
  induction n with
  | zero => rfl
  | succ n ih =>
    rw [List.range_succ, List.map_append, List.countP_append, ← ih]
    by_cases h : p (gr n)
    · rw [ck_ct_t (p := fun e => p (gr e)) h]
      simp [List.countP_cons, h]
    · rw [ck_ct_f (p := fun e => p (gr e)) h]
      simp [List.countP_cons, h]
theorem ck_En_ct {gr gr' : Nat → Nat} {n n' : Nat} {P : Nat → Prop} (h : ck_En gr n P) (h' : ck_En gr' n' P) (p : Nat → Prop) : ck_ct (fun e => p (gr e)) n = ck_ct (fun e => p (gr' e)) n' := by
  rw [ck_ct_list, ck_ct_list]
  refine List.Perm.countP_eq _ ((List.perm_ext_iff_of_nodup (ck_nodup h.2) (ck_nodup h'.2)).mpr fun x => ?_)
  rw [ck_En_mem h, ck_En_mem h']
theorem ck_En_len {gr gr' : Nat → Nat} {n n' : Nat} {P : Nat → Prop} (h : ck_En gr n P) (h' : ck_En gr' n' P) : n = n' := by
  have e := List.Perm.length_eq ((List.perm_ext_iff_of_nodup (ck_nodup h.2) (ck_nodup h'.2)).mpr fun x => by rw [ck_En_mem h, ck_En_mem h'])
  simpa using e
/-- at most 720 different rearrangements -/
theorem ck_720 {gr : Nat → Nat} {n : Nat} (h : ∀ e, e < n → ∀ e', e' < n → gr e = gr e' → e = e') (hp : ∀ e, e < n → ck_pm (gr e)) : n ≤ 720 := by
  have k := List.Nodup.length_le_of_subset (ck_nodup h) (l₂ := ck_L) (fun x hx => by
    obtain ⟨e, he, rfl⟩ := List.mem_map.mp hx
    exact ck_memL (hp e (List.mem_range.mp he)))
  rw [ck_L_len] at k
  simpa using k
