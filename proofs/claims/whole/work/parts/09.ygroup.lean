/-! Y: the group is listed -/
def ck_ls (g i : Nat) : Nat → Nat → Nat
  | 0, _ => 0
  | d + 1, k => (if ck_dg 6 g k < ck_dg 6 g i then 1 else 0) + ck_ls g i d (k + 1)
def ck_pla (g : Nat) : Nat → Nat
  | 0 => 0
  | i + 1 => ck_pla g i * (6 - i) + ck_ls g i (5 - i) (i + 1)
theorem ck_pla_L : ck_L.map (fun g => ck_pla g 6) = List.range 720 := by decide +kernel
theorem ck_pla_at {i : Nat} (hi : i < ck_L.length) : ck_pla (ck_L[i]) 6 = i := by
  have h7 : i < 720 := by rw [← ck_L_len]; exact hi
  have k := congrArg (fun l : List Nat => l[i]?) ck_pla_L
  rw [List.getElem?_map, List.getElem?_eq_getElem hi, List.getElem?_range h7] at k
  exact Option.some.inj k
theorem ck_pla_lt {g : Nat} (h : ck_pm g) : ck_pla g 6 < 720 := by
  obtain ⟨i, hi, rfl⟩ := List.mem_iff_getElem.mp (ck_memL h)
  rw [ck_pla_at hi, ← ck_L_len]
  exact hi
theorem ck_pla_inj {g h : Nat} (hg : ck_pm g) (hh : ck_pm h) (e : ck_pla g 6 = ck_pla h 6) : g = h := by
  obtain ⟨i, hi, rfl⟩ := List.mem_iff_getElem.mp (ck_memL hg)
  obtain ⟨j, hj, rfl⟩ := List.mem_iff_getElem.mp (ck_memL hh)
  rw [ck_pla_at hi, ck_pla_at hj] at e
  subst e
  rfl
/-- Horner: the digits from i on, d of them -/
def ck_hr (b : Nat) (f : Nat → Nat) : Nat → Nat → Nat
  | 0, _ => 0
  | d + 1, i => b * ck_hr b f d (i + 1) + f i
theorem ck_hr_enc (b : Nat) (f : Nat → Nat) : ∀ d k : Nat, ck_enc b f k + b ^ k * ck_hr b f d k = ck_enc b f (k + d) := by
  intro d
  induction d with
  | zero => intro k; rfl
  | succ d ih =>
    intro k
    have e := ih (k + 1)
    rw [show k + 1 + d = k + (d + 1) from by omega] at e
    rw [← e]
    show ck_enc b f k + b ^ k * (b * ck_hr b f d (k + 1) + f k) = ck_enc b f k + f k * b ^ k + b ^ (k + 1) * ck_hr b f d (k + 1)
    rw [Nat.mul_add, ← Nat.mul_assoc, ← Nat.pow_succ, Nat.mul_comm (f k), Nat.add_right_comm, Nat.add_assoc]
theorem ck_hr_6 (b : Nat) (f : Nat → Nat) : ck_hr b f 6 0 = ck_enc b f 6 := by
  have e := ck_hr_enc b f 6 0
  rw [Nat.pow_zero, Nat.one_mul] at e
  rw [show ck_enc b f 0 = 0 from rfl, Nat.zero_add, Nat.zero_add] at e
  exact e
theorem cb_ix {y r : Int32} (n p : Nat) (ey : y = nI n) (er : r = nI p) : 6 * y + r = nI (6 * n + p) := by
  subst ey er
  show nI 6 * nI n + nI p = _
  rw [pk_mul, nI_add]
def ck_car (gen : Nat → Nat) (m : Nat) (car : Nat → Int32) : Prop := ∀ i, i < m → ∀ p, p < 6 → car (6 * i + p) = nI (ck_dg 6 (gen i) p)
/-- what is listed -/
def ck_LI (lis : Nat → Int32) (gr : Nat → Nat) (n : Nat) : Prop := ∀ g, ck_pm g → (lis (ck_pla g 6) = 0 ↔ ¬ ck_has gr n g)
theorem cb_b1 : vp_nar .boolean 1 = 1 := by rfl
theorem cb_b0 : vp_nar .boolean 0 = 0 := by rfl
theorem ck_LI_app {lis : Nat → Int32} {gr : Nat → Nat} {n x : Nat} (h : ck_LI lis gr n) (hx : ck_pm x) : ck_LI (upd lis (ck_pla x 6) 1) (ck_app gr n x) (n + 1) := by
  intro g hg
  by_cases z : g = x
  · subst z
    rw [pk_us]
    exact ⟨fun e => absurd e (by decide), fun w => absurd ck_has_new w⟩
  · rw [pk_un (fun e => z (ck_pla_inj hg hx e)), h g hg]
    constructor
    · rintro w ⟨q, hq, e⟩
      by_cases v : q = n
      · rw [v, ck_app_s] at e
        exact z e.symm
      · rw [ck_app_n (by omega)] at e
        exact w ⟨q, by omega, e⟩
    · intro w v
      exact w (ck_has_app v)
section
variable {mm cl sz : Int32} {car cod nam wai grp lis : Nat → Int32} {gen : Nat → Nat} {m c : Nat}
theorem cy_pl18 {post : Int32 → Prop} {J4 : Int32 → Int32 → Prop} {g num i : Nat} (hg : g < 46656) (hi : i < 6) : ∀ d k acc : Nat, k + d = 6 → J4 (nI (num * (6 - i) + (acc + ck_ls g i d k))) (nI (i + 1)) → wY_place_18 post J4 (nI g) (nI num) (nI i) mm cl sz car cod nam wai grp lis (d + 1) (nI acc) (nI k) := by
  intro d
  induction d with
  | zero =>
    intro k acc hk hJ
    refine br_t (nI_le (a := 6) (by omega) (by omega)) (nm_r (e' := nI (num * (6 - i) + acc)) ?_ (nm_r (nI_1 i) hJ))
    rw [show (6 : Int32) - nI i = nI (6 - i) from pk_sub (a := 6) (by omega), pk_mul, nI_add]
  | succ d ih =>
    intro k acc hk hJ
    have h1 := ck_d6 g k
    have h2 := ck_d6 g i
    have e : ck_ls g i (d + 1) k = (if ck_dg 6 g k < ck_dg 6 g i then 1 else 0) + ck_ls g i d (k + 1) := rfl
    refine br_f (nI_ge (b := 6) (by omega) (by omega)) ?_
    refine cy_digit g 6 k rfl rfl rfl (by omega) (by omega) (by omega) (by omega) ?_
    refine cy_digit g 6 i rfl rfl rfl (by omega) (by omega) (by omega) (by omega) ?_
    refine pk_le (ck_dg 6 g i) (ck_dg 6 g k) (fun z => nm_r (nI_1 k) (ih (k + 1) acc (by omega) ?_)) (fun z => nm_r (nI_1 acc) (nm_r (nI_1 k) (ih (k + 1) (acc + 1) (by omega) ?_)))
    · rw [if_neg (by omega), Nat.zero_add] at e
      rw [e] at hJ
      exact hJ
    · rw [if_pos z] at e
      rw [e, ← Nat.add_assoc acc] at hJ
      exact hJ
theorem cy_place {post : Int32 → Prop} (g : Nat) {p0 : Int32} (e0 : p0 = nI g) (hg : g < 46656) (h : post (nI (ck_pla g 6))) : wpY_place post (mm, cl, sz, car, cod, nam, wai, grp, lis) p0 := by
  subst e0
  have key : ∀ d i : Nat, i + d = 6 → wY_place_4 post (nI g) mm cl sz car cod nam wai grp lis (d + 1) (nI (ck_pla g i)) (nI i) := by
    intro d
    induction d with
    | zero =>
      intro i hi
      have e : i = 6 := by omega
      subst e
      exact br_t (nI_le (a := 6) (b := 6) (by omega) (by omega)) h
    | succ d ih =>
      intro i hi
      refine br_f (nI_ge (b := 6) (by omega) (by omega)) (nm_r (nI_1 i) ⟨5 - i + 1, ?_⟩)
      refine cy_pl18 hg (by omega) (5 - i) (i + 1) 0 (by omega) ?_
      rw [Nat.zero_add]
      exact ih (i + 1) (by omega)
  exact ⟨7, key 6 0 (by omega)⟩
theorem cy_followed {post : Int32 → Prop} (g n : Nat) {p0 p1 : Int32} (e0 : p0 = nI g) (e1 : p1 = nI n) (hg : g < 46656) (hn : n < m) (hm : m ≤ 3) (hcar : ck_car gen m car) (h : post (nI (ck_cmp g (gen n)))) : wpY_followed post (mm, cl, sz, car, cod, nam, wai, grp, lis) p0 p1 := by
  subst e0 e1
  have key : ∀ j : Nat, j ≤ 6 → wY_followed_5 post (nI g) (nI n) mm cl sz car cod nam wai grp lis (j + 1) (nI (ck_hr 6 (fun p => ck_dg 6 (gen n) (ck_dg 6 g p)) (6 - j) j)) (nI j + (-1)) := by
    intro j
    induction j with
    | zero =>
      intro _
      refine br_t (by decide) ?_
      rw [ck_hr_6]
      exact h
    | succ j ih =>
      intro hj
      rw [pk_m1]
      have hd := ck_d6 g j
      refine br_f (nI_pos (by omega)) (cy_digit g 6 j rfl rfl rfl (by omega) (by omega) (by omega) (by omega) ?_)
      rw [cb_ix n (ck_dg 6 g j) rfl rfl]
      refine ⟨vp_in_nI (by omega) (by omega), ?_⟩
      rw [nI_clamp (by omega), hcar n hn _ hd]
      refine nm_r (e' := nI (ck_hr 6 (fun p => ck_dg 6 (gen n) (ck_dg 6 g p)) (6 - j) j)) ?_ (nm_e (ih (by omega)))
      rw [show (6 : Nat) - j = (6 - (j + 1)) + 1 from by omega]
      exact cb_ix _ _ rfl rfl
  exact ⟨7, key 6 (by omega)⟩
theorem cy_list {post : SY → Prop} (x : Nat) {n : Nat} {p0 : Int32} (e0 : p0 = nI x) (hx : ck_pm x) (eo : sz = nI n) (h1 : ¬ lis (ck_pla x 6) = 0 → post (mm, cl, sz, car, cod, nam, wai, grp, lis)) (h0 : lis (ck_pla x 6) = 0 → n < 720 ∧ post (mm, cl, nI (n + 1), car, cod, nam, wai, upd grp n (nI x), upd lis (ck_pla x 6) 1)) : wpY_list post (mm, cl, sz, car, cod, nam, wai, grp, lis) p0 := by
  subst e0
  have hl := ck_pla_lt hx
  unfold wpY_list
  refine cy_place x rfl hx.1 ⟨vp_in_nI hl (by omega), ?_⟩
  rw [nI_clamp (n := ck_pla x 6) (by omega)]
  refine br_c (fun z => ⟨vp_in_nI hl (by omega), ?_⟩) h1
  obtain ⟨hn, k⟩ := h0 z
  subst eo
  rw [cb_b1]
  refine nm_e ⟨vp_in_nI hn (by omega), ?_⟩
  rw [nI_clamp (n := n) (by omega)]
  exact nm_e (nm_r (nI_1 n) k)
theorem cy_lg45 {post : SY → Prop} {J35 : Int32 → Int32 → Int32 → Int32 → (Nat → Int32) → (Nat → Int32) → (Nat → Int32) → (Nat → Int32) → (Nat → Int32) → (Nat → Int32) → Prop} {e : Nat} (hg : ck_gok gen m) (hm : m ≤ 3) (hcar : ck_car gen m car)
    (H : ∀ (sz' : Int32) (grp' lis' : Nat → Int32) (gr' : Nat → Nat) (n' : Nat), ck_B gen m gr' n' → sz' = nI n' → (∀ e, e < n' → grp' e = nI (gr' e)) → ck_LI lis' gr' n' → e < n' → ck_wo gen m gr' n' (e + 1) → J35 (nI (e + 1)) (nI m) cl sz' car cod nam wai grp' lis') :
    ∀ d i : Nat, i + d = m → ∀ (sz : Int32) (grp lis : Nat → Int32) (gr : Nat → Nat) (n : Nat), ck_B gen m gr n → sz = nI n → (∀ e, e < n → grp e = nI (gr e)) → ck_LI lis gr n → e < n → ck_wo gen m gr n e → (∀ j, j < i → ck_has gr n (ck_cmp (gr e) (gen j))) → wY_listGroup_45 post J35 (nI e) (d + 1) (nI i) (nI m) cl sz car cod nam wai grp lis := by
  intro d
  induction d with
  | zero =>
    intro i hi sz grp lis gr n hB eo eA hL he hw hj
    refine br_t (nI_le (by omega) (by omega)) (nm_r (nI_1 e) (H sz grp lis gr n hB eo eA hL he ?_))
    intro e' he' j hjm
    by_cases z : e' = e
    · rw [z]; exact hj j (by omega)
    · exact hw e' (by omega) j hjm
  | succ d ih =>
    intro i hi sz grp lis gr n hB eo eA hL he hw hj
    have hn := ck_B_le hg hB
    refine br_f (nI_ge (by omega) (by omega)) ⟨vp_in_nI (by omega) (by omega), ?_⟩
    have hG := hB.2.2.1 e he
    have hGx := ck_G_step hG (show i < m by omega)
    refine cy_followed (gr e) i (by rw [nI_clamp (by omega), eA e he]) rfl (ck_G_pm hg hG).1 (by omega) hm hcar ?_
    refine cy_list (ck_cmp (gr e) (gen i)) rfl (ck_G_pm hg hGx) eo (fun z => ?_) (fun z => ?_)
    · have hh : ck_has gr n (ck_cmp (gr e) (gen i)) := Classical.byContradiction fun w => z ((hL _ (ck_G_pm hg hGx)).mpr w)
      refine nm_r (nI_1 i) (ih (i + 1) (by omega) sz grp lis gr n hB eo eA hL he hw ?_)
      intro j hji
      by_cases w : j = i
      · rw [w]; exact hh
      · exact hj j (by omega)
    · have hh := (hL _ (ck_G_pm hg hGx)).mp z
      refine ⟨ck_B_lt hg hB hGx hh, ?_⟩
      have hx' := ck_ext2_app gr n (ck_cmp (gr e) (gen i))
      refine nm_r (nI_1 i) (ih (i + 1) (by omega) _ _ _ _ (n + 1) (ck_B_app hB hGx hh) rfl (ck_updA eA) (ck_LI_app hL (ck_G_pm hg hGx)) (by omega) (ck_wo_ext hx' (by omega) hw) ?_)
      intro j hji
      rw [hx'.2 e he]
      by_cases w : j = i
      · rw [w]; exact ck_has_new
      · exact ck_ext2_has hx' (hj j (by omega))
theorem cy_lg35 {post : SY → Prop} (hg : ck_gok gen m) (hm : m ≤ 3) (hcar : ck_car gen m car)
    (H : ∀ (sz' : Int32) (grp' lis' : Nat → Int32) (gr' : Nat → Nat) (n' : Nat), ck_En gr' n' (ck_G gen m) → n' ≤ 720 → sz' = nI n' → (∀ e, e < n' → grp' e = nI (gr' e)) → post (nI m, cl, sz', car, cod, nam, wai, grp', lis')) :
    ∀ d e : Nat, e + d = 720 → ∀ (sz : Int32) (grp lis : Nat → Int32) (gr : Nat → Nat) (n : Nat), ck_B gen m gr n → sz = nI n → (∀ e, e < n → grp e = nI (gr e)) → ck_LI lis gr n → ck_wo gen m gr n e → wY_listGroup_35 post (d + 1) (nI e) (nI m) cl sz car cod nam wai grp lis := by
  intro d
  induction d with
  | zero =>
    intro e he sz grp lis gr n hB eo eA hL hw
    have hn := ck_B_le hg hB
    exact br_t (by rw [eo]; exact nI_le (by omega) (by omega)) (H sz grp lis gr n (ck_B_En hB fun q hq i hi => hw q (by omega) i hi) hn eo eA)
  | succ d ih =>
    intro e he sz grp lis gr n hB eo eA hL hw
    have hn := ck_B_le hg hB
    by_cases z : e < n
    · refine br_f (by rw [eo]; exact nI_ge z (by omega)) ⟨m + 1, ?_⟩
      refine cy_lg45 hg hm hcar ?_ m 0 (by omega) sz grp lis gr n hB eo eA hL z hw (fun j hj => by omega)
      intro sz' grp' lis' gr' n' hB' eo' eA' hL' _ hw'
      exact ih (e + 1) (by omega) sz' grp' lis' gr' n' hB' eo' eA' hL' hw'
    · exact br_t (by rw [eo]; exact nI_le (by omega) (by omega)) (H sz grp lis gr n (ck_B_En hB fun q hq i hi => hw q (by omega) i hi) hn eo eA)
theorem cy_lg2 {post : SY → Prop} (em : mm = nI m) (hg : ck_gok gen m) (hm : m ≤ 3) (hcar : ck_car gen m car)
    (H : ∀ (sz' : Int32) (grp' lis' : Nat → Int32) (gr' : Nat → Nat) (n' : Nat), ck_En gr' n' (ck_G gen m) → n' ≤ 720 → sz' = nI n' → (∀ e, e < n' → grp' e = nI (gr' e)) → post (mm, cl, sz', car, cod, nam, wai, grp', lis')) :
    ∀ d i : Nat, i + d = 720 → ∀ lis : Nat → Int32, (∀ j, j < i → lis j = 0) → wY_listGroup_2 post mm cl sz (d + 1) (nI i) car cod nam wai grp lis := by
  subst em
  intro d
  induction d with
  | zero =>
    intro i hi lis h
    refine br_t (nI_le (a := 720) (by omega) (by omega)) ?_
    have hz : ∀ g, ck_pm g → lis (ck_pla g 6) = 0 := fun g hg => h _ (by have := ck_pla_lt hg; omega)
    refine cy_list (n := 0) 44790 rfl ck_pm_id rfl (fun z => absurd (hz _ ck_pm_id) z) (fun _ => ⟨by omega, ?_⟩)
    have hL0 : ck_LI lis (fun _ => 44790) 0 := fun g hg => ⟨fun _ => by rintro ⟨q, hq, _⟩; omega, fun _ => hz g hg⟩
    have e1 : ck_app (fun _ => 44790) 0 44790 = fun _ => 44790 := by
      funext j
      unfold ck_app
      split <;> rfl
    refine ⟨721, cy_lg35 hg hm hcar H 720 0 (by omega) _ _ _ (fun _ => 44790) 1 (ck_B_0 gen m rfl) rfl ?_ ?_ (fun e he => by omega)⟩
    · intro e he
      have z : e = 0 := by omega
      subst z
      exact pk_us
    · have k := ck_LI_app hL0 ck_pm_id
      rw [e1] at k
      exact k
  | succ d ih =>
    intro i hi lis h
    refine br_f (nI_ge (b := 720) (by omega) (by omega)) ⟨vp_in_nI (by omega) (by omega), ?_⟩
    rw [nI_clamp (n := i) (by omega), cb_b0]
    refine nm_e (nm_r (nI_1 i) (ih (i + 1) (by omega) _ ?_))
    intro j hj
    by_cases z : j = i
    · rw [z]; exact pk_us
    · rw [pk_un z]
      exact h j (by omega)
theorem cy_listGroup {post : SY → Prop} (em : mm = nI m) (hg : ck_gok gen m) (hm : m ≤ 3) (hcar : ck_car gen m car)
    (H : ∀ (sz' : Int32) (grp' lis' : Nat → Int32) (gr' : Nat → Nat) (n' : Nat), ck_En gr' n' (ck_G gen m) → n' ≤ 720 → sz' = nI n' → (∀ e, e < n' → grp' e = nI (gr' e)) → post (mm, cl, sz', car, cod, nam, wai, grp', lis')) :
    wpY_listGroup post (mm, cl, sz, car, cod, nam, wai, grp, lis) :=
  ⟨721, cy_lg2 em hg hm hcar H 720 0 (by omega) lis (fun j hj => by omega)⟩
end
