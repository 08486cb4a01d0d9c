/-! Y: order and withCycles -/
def ck_wk (g : Nat) : Nat → Nat → Nat → Option Nat
  | 0, _, _ => none
  | f + 1, s, q => if s.testBit q then some s else ck_wk g f (s ||| 2 ^ q) (ck_dg 6 g q)
def ck_cyY (g : Nat) : Nat → Option (Nat × Nat)
  | 0 => some (0, 0)
  | i + 1 => match ck_cyY g i with
    | none => none
    | some (s, n) => match ck_wk g 7 s i with
      | none => none
      | some s' => some (s', n + if s.testBit i then 0 else 1)
theorem ck_cyY_L : ∀ g, g ∈ ck_L → (∀ i, i < 7 → (ck_cyY g i).isSome = true) ∧ (ck_cyY g 6).map Prod.snd = some (ck_cy g 6) := by decide +kernel
theorem ck_wk_lt (g : Nat) : ∀ f s q s' : Nat, s < 64 → q < 6 → ck_wk g f s q = some s' → s' < 64 := by
  intro f
  induction f with
  | zero => intro s q s' _ _ h; exact absurd h (by intro z; cases z)
  | succ f ih =>
    intro s q s' hs hq h
    have e : ck_wk g (f + 1) s q = if s.testBit q then some s else ck_wk g f (s ||| 2 ^ q) (ck_dg 6 g q) := rfl
    rw [e] at h
    by_cases z : s.testBit q = true
    · rw [if_pos z] at h
      cases h
      exact hs
    · rw [if_neg z] at h
      exact ih _ _ _ (cb_or_lt hs hq) (ck_d6 g q) h
section
variable {mm cl sz : Int32} {car cod nam wai grp lis : Nat → Int32} {gen : Nat → Nat} {m c : Nat}
theorem cy_wk {post : Int32 → Prop} {J7 : Int32 → Int32 → Int32 → Prop} {g i s' : Nat} {x3 : Int32} (hg : g < 46656) (hJ : J7 (nI s') x3 (nI (i + 1))) : ∀ f s q : Nat, s < 64 → q < 6 → ck_wk g f s q = some s' → wY_cycles_35 post J7 (nI g) x3 (nI i) mm cl sz car cod nam wai grp lis f (nI s) (nI q) := by
  intro f
  induction f with
  | zero => intro s q _ _ h; exact absurd h (by intro z; cases z)
  | succ f ih =>
    intro s q hs hq h
    have e : ck_wk g (f + 1) s q = if s.testBit q then some s else ck_wk g f (s ||| 2 ^ q) (ck_dg 6 g q) := rfl
    rw [e] at h
    have eb := cb_bit s hs q hq
    by_cases z : s.testBit q = true
    · rw [if_pos z] at h
      cases h
      rw [if_pos z] at eb
      exact br_f (by rw [eb]; decide) (nm_r (nI_1 i) hJ)
    · rw [if_neg z] at h
      rw [if_neg z] at eb
      refine br_t (by rw [eb]; rfl) (nm_r (e' := nI (s ||| 2 ^ q)) (by rw [cb_sh q hq, cb_or]) ?_)
      exact cy_digit g 6 q rfl rfl rfl (by omega) (by omega) (by omega) (by omega) (ih _ _ (cb_or_lt hs hq) (ck_d6 g q) h)
theorem cy_cycles {post : Int32 → Prop} (g : Nat) {p0 : Int32} (e0 : p0 = nI g) (hg : ck_pm g) (h : post (nI (ck_cy g 6))) : wpY_cycles post (mm, cl, sz, car, cod, nam, wai, grp, lis) p0 := by
  subst e0
  obtain ⟨k1, k2⟩ := ck_cyY_L g (ck_memL hg)
  have key : ∀ d i s n : Nat, i + d = 6 → s < 64 → ck_cyY g i = some (s, n) → wY_cycles_7 post (nI g) mm cl sz car cod nam wai grp lis (d + 1) (nI s) (nI n) (nI i) := by
    intro d
    induction d with
    | zero =>
      intro i s n hi hs e
      have z : i = 6 := by omega
      subst z
      rw [e] at k2
      have k3 : n = ck_cy g 6 := Option.some.inj k2
      subst k3
      exact br_t (nI_le (a := 6) (b := 6) (by omega) (by omega)) h
    | succ d ih =>
      intro i s n hi hs e
      have kk := k1 (i + 1) (by omega)
      have e2 : ck_cyY g (i + 1) = match ck_wk g 7 s i with | none => none | some s' => some (s', n + if s.testBit i then 0 else 1) := by
        show (match ck_cyY g i with | none => none | some (s, n) => match ck_wk g 7 s i with | none => none | some s' => some (s', n + if s.testBit i then 0 else 1)) = _
        rw [e]
      cases w : ck_wk g 7 s i with
      | none =>
        rw [w] at e2
        rw [e2] at kk
        exact absurd (show false = true from kk) (by decide)
      | some s' =>
        rw [w] at e2
        have hs' := ck_wk_lt g 7 s i s' hs (by omega) w
        have kn := ih (i + 1) s' _ (by omega) hs' e2
        have eb := cb_bit s hs i (by omega)
        refine br_f (nI_ge (b := 6) (by omega) (by omega)) ?_
        by_cases z : s.testBit i = true
        · rw [if_pos z] at eb
          rw [if_pos z] at kn
          exact br_f (by rw [eb]; decide) ⟨7, cy_wk hg.1 kn 7 s i hs (by omega) w⟩
        · rw [if_neg z] at eb
          rw [if_neg z] at kn
          exact br_t (by rw [eb]; rfl) (nm_r (nI_1 n) ⟨7, cy_wk hg.1 kn 7 s i hs (by omega) w⟩)
  exact ⟨7, key 6 0 0 0 (by omega) (by omega) rfl⟩
theorem cy_order {post : Int32 → SY → Prop} (em : mm = nI m) (hg : ck_gok gen m) (hm : m ≤ 3) (hcar : ck_car gen m car)
    (H : ∀ (sz' : Int32) (grp' lis' : Nat → Int32) (gr' : Nat → Nat) (n' : Nat), ck_En gr' n' (ck_G gen m) → post (nI n') (mm, cl, sz', car, cod, nam, wai, grp', lis')) :
    wpY_order post (mm, cl, sz, car, cod, nam, wai, grp, lis) := by
  unfold wpY_order
  refine cy_listGroup em hg hm hcar ?_
  intro sz' grp' lis' gr' n' hE _ eo _
  have k := H sz' grp' lis' gr' n' hE
  rw [← eo] at k
  exact k
theorem cy_withCycles {post : Int32 → SY → Prop} {p0 : Int32} (em : mm = nI m) (hg : ck_gok gen m) (hm : m ≤ 3) (hcar : ck_car gen m car)
    (H : ∀ (sz' : Int32) (grp' lis' : Nat → Int32) (gr' : Nat → Nat) (n' : Nat), ck_En gr' n' (ck_G gen m) → post (nI (ck_ct (fun e => nI (ck_cy (gr' e) 6) = p0) n')) (mm, cl, sz', car, cod, nam, wai, grp', lis')) :
    wpY_withCycles post (mm, cl, sz, car, cod, nam, wai, grp, lis) p0 := by
  unfold wpY_withCycles
  refine cy_listGroup em hg hm hcar ?_
  intro sz' grp' lis' gr n hE hn eo eA
  refine ⟨n + 1, cl_cnt (fun f r i => wY_withCycles_8 post p0 mm cl sz' car cod nam wai grp' lis' f r i) (fun e => nI (ck_cy (gr e) 6) = p0) n ?_ ?_⟩
  · exact br_t (by rw [eo]; exact nI_le (by omega) (by omega)) (H sz' grp' lis' gr n hE)
  · intro f i r hi ht hf
    refine br_f (by rw [eo]; exact nI_ge (by omega) (by omega)) ⟨vp_in_nI (by omega) (by omega), ?_⟩
    refine cy_cycles (gr i) (by rw [nI_clamp (n := i) (by omega), eA i hi]) (ck_G_pm hg ((hE.1 _).mpr ⟨i, hi, rfl⟩)) ?_
    exact br_c (fun z => nm_r (nI_1 r) (nm_r (nI_1 i) (ht z))) (fun z => nm_r (nI_1 i) (hf z))
end
