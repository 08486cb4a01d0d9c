/-! the relation, and what is owed -/
def ck_RX (gen : Nat → Nat) (m c : Nat) (u : SX) : Prop := match u with
  | (gc, go, cc, cn, ag, A, kn, ks) => gc = nI m ∧ cc = nI c ∧ cn = nI (c ^ 6) ∧ (∀ i, i < m → ag i = nI (gen i)) ∧ (∃ gr n, ck_En gr n (ck_G gen m) ∧ n ≤ 720 ∧ go = nI n ∧ ∀ e, e < n → A e = nI (gr e)) ∧ (∀ y, y < c ^ 6 → kn y = nI (ck_nm gen m c y)) ∧ (∀ y, y < c ^ 6 → ck_nm gen m c y = y → ks y = nI (ck_ct (ck_R gen m c y) (c ^ 6)))
def ck_RY (gen : Nat → Nat) (m c : Nat) (v : SY) : Prop := match v with
  | (mm, cl, _, car, cod, _, _, _, _) => mm = nI m ∧ cl = nI c ∧ ck_car gen m car ∧ ∀ i, i < m → cod i = nI (gen i)
def i_Rel (_ : Nat) (u : SX) (v : SY) : Prop := ∃ (gen : Nat → Nat) (m c : Nat), ck_gok gen m ∧ m ≤ 3 ∧ 0 < c ∧ c ≤ 3 ∧ ck_RX gen m c u ∧ ck_RY gen m c v
theorem i_up {k : Nat} {u : SX} {v : SY} (h : i_Rel k u v) : i_Rel (k + 3) u v := h
section
variable {gc go cc cn : Int32} {ag A kn ks : Nat → Int32} {gen : Nat → Nat} {m c : Nat}
/-- X works all out anew -/
theorem cx_anew {post : SX → Prop} (hg : ck_gok gen m) (hm : m ≤ 3) (hc : 0 < c) (hc3 : c ≤ 3) (em : gc = nI m) (ec : cc = nI c) (eg : ∀ i, i < m → ag i = nI (gen i)) (H : ∀ (go' : Int32) (A' kn' ks' : Nat → Int32), ck_RX gen m c (gc, go', cc, nI (c ^ 6), ag, A', kn', ks') → post (gc, go', cc, nI (c ^ 6), ag, A', kn', ks')) : wpX_closeGroup (fun u => wpX_gatherKinds post u) (gc, go, cc, cn, ag, A, kn, ks) := by
  refine cx_close hg hm em eg ?_
  intro go' A' gr n hE hn eo eA
  refine cx_gather hg ec hc hc3 eo hn hE eA ?_
  intro kn' ks' h1 h2
  exact H go' A' kn' ks' ⟨em, ec, rfl, eg, ⟨gr, n, hE, hn, eo, eA⟩, h1, h2⟩
end
theorem i_vc0 : wpX_init (fun u => wpY_init (fun v => i_Rel 0 u v)) := by
  have hg : ck_gok (fun _ => 0) 0 := fun i hi => absurd hi (by omega)
  unfold wpX_init
  refine cx_close (gen := fun _ => 0) (m := 0) hg (by omega) rfl (fun i hi => by omega) ?_
  intro go' A' gr n hE hn eo eA
  refine cx_gather (c := 2) hg rfl (by omega) (by omega) eo hn hE eA ?_
  intro kn' ks' h1 h2
  exact ⟨fun _ => 0, 0, 2, hg, by omega, by omega, by omega, ⟨rfl, rfl, rfl, fun i hi => by omega, ⟨gr, n, hE, hn, eo, eA⟩, h1, h2⟩, rfl, rfl, fun i hi => by omega, fun i hi => by omega⟩
theorem i_vc_order {k : Nat} {u : SX} {v : SY} (I : i_Rel k u v) (hk : k + 3 ≤ 1536) : wpX_order (fun r => wpY_order (fun r' v' => r' = r ∧ i_Rel (k + 3) u v') v) u := by
  obtain ⟨gc, go, cc, cn, ag, A, kn, ks⟩ := u
  obtain ⟨mm, cl, sz, car, cod, nam, wai, grp, lis⟩ := v
  obtain ⟨gen, m, c, hg, hm, hc, hc3, ⟨x1, x2, x3, x4, ⟨gr, n, hE, hn, eo, eA⟩, x6, x7⟩, ⟨y1, y2, y3, y4⟩⟩ := I
  unfold wpX_order
  dsimp only
  refine cy_order y1 hg hm y3 ?_
  intro sz' grp' lis' gr' n' hE'
  refine ⟨?_, gen, m, c, hg, hm, hc, hc3, ⟨x1, x2, x3, x4, ⟨gr, n, hE, hn, eo, eA⟩, x6, x7⟩, ⟨y1, y2, y3, y4⟩⟩
  rw [eo, ck_En_len hE hE']
theorem i_vc_withCycles {k : Nat} {u : SX} {v : SY} (I : i_Rel k u v) (hk : k + 3 ≤ 1536) (v1 : Int32) : wpX_withCycles (fun r => wpY_withCycles (fun r' v' => r' = r ∧ i_Rel (k + 3) u v') v v1) u v1 := by
  obtain ⟨gc, go, cc, cn, ag, A, kn, ks⟩ := u
  obtain ⟨mm, cl, sz, car, cod, nam, wai, grp, lis⟩ := v
  obtain ⟨gen, m, c, hg, hm, hc, hc3, ⟨x1, x2, x3, x4, ⟨gr, n, hE, hn, eo, eA⟩, x6, x7⟩, ⟨y1, y2, y3, y4⟩⟩ := I
  refine cx_withCycles eo hn (fun e he => (ck_G_pm hg ((hE.1 _).mpr ⟨e, he, rfl⟩)).1) eA ?_
  refine cy_withCycles y1 hg hm y3 ?_
  intro sz' grp' lis' gr' n' hE'
  refine ⟨?_, gen, m, c, hg, hm, hc, hc3, ⟨x1, x2, x3, x4, ⟨gr, n, hE, hn, eo, eA⟩, x6, x7⟩, ⟨y1, y2, y3, y4⟩⟩
  exact congrArg nI (ck_En_ct hE' hE fun x => nI (ck_cy x 6) = v1)
theorem i_vc_kinds {k : Nat} {u : SX} {v : SY} (I : i_Rel k u v) (hk : k + 3 ≤ 1536) : wpX_kinds (fun r => wpY_kinds (fun r' v' => r' = r ∧ i_Rel (k + 3) u v') v) u := by
  obtain ⟨gc, go, cc, cn, ag, A, kn, ks⟩ := u
  obtain ⟨mm, cl, sz, car, cod, nam, wai, grp, lis⟩ := v
  obtain ⟨gen, m, c, hg, hm, hc, hc3, ⟨x1, x2, x3, x4, x5, x6, x7⟩, ⟨y1, y2, y3, y4⟩⟩ := I
  refine cx_kinds hc hc3 x3 x6 (cy_kinds y1 hg hm y3 y2 hc hc3 ?_)
  intro nam' wai'
  exact ⟨rfl, gen, m, c, hg, hm, hc, hc3, ⟨x1, x2, x3, x4, x5, x6, x7⟩, ⟨y1, y2, y3, y4⟩⟩
theorem i_vc_kindsWith {k : Nat} {u : SX} {v : SY} (I : i_Rel k u v) (hk : k + 3 ≤ 1536) (v1 : Int32) (v2 : Int32) : wpX_kindsWith (fun r => wpY_kindsWith (fun r' v' => r' = r ∧ i_Rel (k + 3) u v') v v1 v2) u v1 v2 := by
  obtain ⟨gc, go, cc, cn, ag, A, kn, ks⟩ := u
  obtain ⟨mm, cl, sz, car, cod, nam, wai, grp, lis⟩ := v
  obtain ⟨gen, m, c, hg, hm, hc, hc3, ⟨x1, x2, x3, x4, x5, x6, x7⟩, ⟨y1, y2, y3, y4⟩⟩ := I
  refine cx_kindsWith x2 hc hc3 x3 x6 (cy_kindsWith y1 hg hm y3 y2 hc hc3 ?_)
  intro nam' wai'
  exact ⟨rfl, gen, m, c, hg, hm, hc, hc3, ⟨x1, x2, x3, x4, x5, x6, x7⟩, ⟨y1, y2, y3, y4⟩⟩
theorem i_vc_kindsWithAll {k : Nat} {u : SX} {v : SY} (I : i_Rel k u v) (hk : k + 3 ≤ 1536) : wpX_kindsWithAll (fun r => wpY_kindsWithAll (fun r' v' => r' = r ∧ i_Rel (k + 3) u v') v) u := by
  obtain ⟨gc, go, cc, cn, ag, A, kn, ks⟩ := u
  obtain ⟨mm, cl, sz, car, cod, nam, wai, grp, lis⟩ := v
  obtain ⟨gen, m, c, hg, hm, hc, hc3, ⟨x1, x2, x3, x4, x5, x6, x7⟩, ⟨y1, y2, y3, y4⟩⟩ := I
  refine cx_kindsWithAll x2 hc hc3 x3 x6 (cy_kindsWithAll y1 hg hm y3 y2 hc hc3 ?_)
  intro nam' wai'
  exact ⟨rfl, gen, m, c, hg, hm, hc, hc3, ⟨x1, x2, x3, x4, x5, x6, x7⟩, ⟨y1, y2, y3, y4⟩⟩
theorem i_vc_name {k : Nat} {u : SX} {v : SY} (I : i_Rel k u v) (hk : k + 3 ≤ 1536) (v1 : Int32) : wpX_name (fun r => wpY_name (fun r' v' => r' = r ∧ i_Rel (k + 3) u v') v v1) u v1 := by
  obtain ⟨gc, go, cc, cn, ag, A, kn, ks⟩ := u
  obtain ⟨mm, cl, sz, car, cod, nam, wai, grp, lis⟩ := v
  obtain ⟨gen, m, c, hg, hm, hc, hc3, ⟨x1, x2, x3, x4, x5, x6, x7⟩, ⟨y1, y2, y3, y4⟩⟩ := I
  have hN := cb_c6 hc3
  refine cx_name hc3 x3 x6 (fun y hy e => cy_name y1 hg hm y3 y2 hc hc3 (fun y' hy' e' nam' wai' => ?_) (fun z => absurd ⟨y, hy, e⟩ z)) (fun z => cy_name y1 hg hm y3 y2 hc hc3 (fun y' hy' e' => absurd ⟨y', hy', e'⟩ z) (fun _ => ?_))
  · rw [e, nI_eq (by omega) (by omega)] at e'
    subst e'
    exact ⟨rfl, gen, m, c, hg, hm, hc, hc3, ⟨x1, x2, x3, x4, x5, x6, x7⟩, ⟨y1, y2, y3, y4⟩⟩
  · exact ⟨rfl, gen, m, c, hg, hm, hc, hc3, ⟨x1, x2, x3, x4, x5, x6, x7⟩, ⟨y1, y2, y3, y4⟩⟩
theorem i_vc_size {k : Nat} {u : SX} {v : SY} (I : i_Rel k u v) (hk : k + 3 ≤ 1536) (v1 : Int32) : wpX_size (fun r => wpY_size (fun r' v' => r' = r ∧ i_Rel (k + 3) u v') v v1) u v1 := by
  obtain ⟨gc, go, cc, cn, ag, A, kn, ks⟩ := u
  obtain ⟨mm, cl, sz, car, cod, nam, wai, grp, lis⟩ := v
  obtain ⟨gen, m, c, hg, hm, hc, hc3, ⟨x1, x2, x3, x4, x5, x6, x7⟩, ⟨y1, y2, y3, y4⟩⟩ := I
  have hN := cb_c6 hc3
  refine cx_size hc hg hc3 x3 x6 x7 (fun y hy e => cy_size y1 hg hm y3 y2 hc hc3 (fun y' hy' e' nam' wai' => ?_) (fun z => absurd ⟨y, hy, e⟩ z)) (fun z => cy_size y1 hg hm y3 y2 hc hc3 (fun y' hy' e' => absurd ⟨y', hy', e'⟩ z) (fun _ => ?_))
  · rw [e, nI_eq (by omega) (by omega)] at e'
    subst e'
    exact ⟨rfl, gen, m, c, hg, hm, hc, hc3, ⟨x1, x2, x3, x4, x5, x6, x7⟩, ⟨y1, y2, y3, y4⟩⟩
  · exact ⟨rfl, gen, m, c, hg, hm, hc, hc3, ⟨x1, x2, x3, x4, x5, x6, x7⟩, ⟨y1, y2, y3, y4⟩⟩
theorem i_vc_alike {k : Nat} {u : SX} {v : SY} (I : i_Rel k u v) (hk : k + 3 ≤ 1536) (v1 : Int32) (v2 : Int32) : wpX_alike (fun r => wpY_alike (fun r' v' => r' = r ∧ i_Rel (k + 3) u v') v v1 v2) u v1 v2 := by
  obtain ⟨gc, go, cc, cn, ag, A, kn, ks⟩ := u
  obtain ⟨mm, cl, sz, car, cod, nam, wai, grp, lis⟩ := v
  obtain ⟨gen, m, c, hg, hm, hc, hc3, ⟨x1, x2, x3, x4, x5, x6, x7⟩, ⟨y1, y2, y3, y4⟩⟩ := I
  have hN := cb_c6 hc3
  refine cx_alike hc hc3 x3 x6 ?_ ?_ ?_
  · intro y z hy hz e1 e2 h
    refine cy_alike y1 hg hm y3 y2 hc hc3 (fun y' z' hy' hz' e1' e2' h' nam' wai' => ⟨rfl, gen, m, c, hg, hm, hc, hc3, ⟨x1, x2, x3, x4, x5, x6, x7⟩, ⟨y1, y2, y3, y4⟩⟩) (fun y' z' hy' hz' e1' e2' h' => ?_) (fun w => absurd ⟨⟨y, hy, e1⟩, ⟨z, hz, e2⟩⟩ w)
    rw [e1, nI_eq (by omega) (by omega)] at e1'
    rw [e2, nI_eq (by omega) (by omega)] at e2'
    subst e1' e2'
    exact absurd h h'
  · intro y z hy hz e1 e2 h
    refine cy_alike y1 hg hm y3 y2 hc hc3 (fun y' z' hy' hz' e1' e2' h' => ?_) (fun y' z' hy' hz' e1' e2' h' nam' wai' => ⟨rfl, gen, m, c, hg, hm, hc, hc3, ⟨x1, x2, x3, x4, x5, x6, x7⟩, ⟨y1, y2, y3, y4⟩⟩) (fun w => absurd ⟨⟨y, hy, e1⟩, ⟨z, hz, e2⟩⟩ w)
    rw [e1, nI_eq (by omega) (by omega)] at e1'
    rw [e2, nI_eq (by omega) (by omega)] at e2'
    subst e1' e2'
    exact absurd h' h
  · intro w
    exact cy_alike y1 hg hm y3 y2 hc hc3 (fun y' z' hy' hz' e1' e2' h' => absurd ⟨⟨y', hy', e1'⟩, ⟨z', hz', e2'⟩⟩ w) (fun y' z' hy' hz' e1' e2' h' => absurd ⟨⟨y', hy', e1'⟩, ⟨z', hz', e2'⟩⟩ w) (fun _ => ⟨rfl, gen, m, c, hg, hm, hc, hc3, ⟨x1, x2, x3, x4, x5, x6, x7⟩, ⟨y1, y2, y3, y4⟩⟩)
theorem i_vc_still {k : Nat} {u : SX} {v : SY} (I : i_Rel k u v) (hk : k + 3 ≤ 1536) : wpX_still (fun r => wpY_still (fun r' v' => r' = r ∧ i_Rel (k + 3) u v') v) u := by
  obtain ⟨gc, go, cc, cn, ag, A, kn, ks⟩ := u
  obtain ⟨mm, cl, sz, car, cod, nam, wai, grp, lis⟩ := v
  obtain ⟨gen, m, c, hg, hm, hc, hc3, ⟨x1, x2, x3, x4, x5, x6, x7⟩, ⟨y1, y2, y3, y4⟩⟩ := I
  refine cx_still hc hc3 x3 x6 x7 (cy_still y1 hg hm y3 y2 hc hc3 ?_)
  intro nam' wai'
  exact ⟨rfl, gen, m, c, hg, hm, hc, hc3, ⟨x1, x2, x3, x4, x5, x6, x7⟩, ⟨y1, y2, y3, y4⟩⟩
theorem i_vc_selfExchanged {k : Nat} {u : SX} {v : SY} (I : i_Rel k u v) (hk : k + 3 ≤ 1536) : wpX_selfExchanged (fun r => wpY_selfExchanged (fun r' v' => r' = r ∧ i_Rel (k + 3) u v') v) u := by
  obtain ⟨gc, go, cc, cn, ag, A, kn, ks⟩ := u
  obtain ⟨mm, cl, sz, car, cod, nam, wai, grp, lis⟩ := v
  obtain ⟨gen, m, c, hg, hm, hc, hc3, ⟨x1, x2, x3, x4, x5, x6, x7⟩, ⟨y1, y2, y3, y4⟩⟩ := I
  refine cx_self x2 hc hc3 x3 x6 (cy_self y1 hg hm y3 y2 hc hc3 ?_)
  intro nam' wai'
  exact ⟨rfl, gen, m, c, hg, hm, hc, hc3, ⟨x1, x2, x3, x4, x5, x6, x7⟩, ⟨y1, y2, y3, y4⟩⟩
theorem i_vc_orbits {k : Nat} {u : SX} {v : SY} (I : i_Rel k u v) (hk : k + 3 ≤ 1536) : wpX_orbits (fun r => wpY_orbits (fun r' => r' = r ∧ i_Rel (k + 3) u v) v) u := by
  obtain ⟨gc, go, cc, cn, ag, A, kn, ks⟩ := u
  obtain ⟨mm, cl, sz, car, cod, nam, wai, grp, lis⟩ := v
  obtain ⟨gen, m, c, hg, hm, hc, hc3, ⟨x1, x2, x3, x4, ⟨gr, n, hE, hn, eo, eA⟩, x6, x7⟩, ⟨y1, y2, y3, y4⟩⟩ := I
  exact cx_orbits hg hE eo hn eA (cy_orbits y1 hg hm y3 ⟨rfl, gen, m, c, hg, hm, hc, hc3, ⟨x1, x2, x3, x4, ⟨gr, n, hE, hn, eo, eA⟩, x6, x7⟩, ⟨y1, y2, y3, y4⟩⟩)
theorem i_vc_pairKinds {k : Nat} {u : SX} {v : SY} (I : i_Rel k u v) (hk : k + 3 ≤ 1536) : wpX_pairKinds (fun r => wpY_pairKinds (fun r' => r' = r ∧ i_Rel (k + 3) u v) v) u := by
  obtain ⟨gc, go, cc, cn, ag, A, kn, ks⟩ := u
  obtain ⟨mm, cl, sz, car, cod, nam, wai, grp, lis⟩ := v
  obtain ⟨gen, m, c, hg, hm, hc, hc3, ⟨x1, x2, x3, x4, ⟨gr, n, hE, hn, eo, eA⟩, x6, x7⟩, ⟨y1, y2, y3, y4⟩⟩ := I
  exact cx_pairKinds hg hE eo hn eA (cy_pairKinds y1 hg hm y3 ⟨rfl, gen, m, c, hg, hm, hc, hc3, ⟨x1, x2, x3, x4, ⟨gr, n, hE, hn, eo, eA⟩, x6, x7⟩, ⟨y1, y2, y3, y4⟩⟩)
theorem i_vc_colours {k : Nat} {u : SX} {v : SY} (I : i_Rel k u v) (hk : k + 3 ≤ 1536) (v1 : Int32) : wpX_colours (fun r u' => wpY_colours (fun r' v' => r' = r ∧ i_Rel (k + 3) u' v') v v1) u v1 := by
  obtain ⟨gc, go, cc, cn, ag, A, kn, ks⟩ := u
  obtain ⟨mm, cl, sz, car, cod, nam, wai, grp, lis⟩ := v
  obtain ⟨gen, m, c, hg, hm, hc, hc3, ⟨x1, x2, x3, x4, ⟨gr, n, hE, hn, eo, eA⟩, x6, x7⟩, ⟨y1, y2, y3, y4⟩⟩ := I
  have old : i_Rel (k + 3) (gc, go, cc, cn, ag, A, kn, ks) (mm, cl, sz, car, cod, nam, wai, grp, lis) := ⟨gen, m, c, hg, hm, hc, hc3, ⟨x1, x2, x3, x4, ⟨gr, n, hE, hn, eo, eA⟩, x6, x7⟩, ⟨y1, y2, y3, y4⟩⟩
  by_cases h1 : v1 < 1
  · exact br_t h1 (br_t h1 ⟨rfl, old⟩)
  · by_cases h3 : v1 ≤ 3
    · refine br_f h1 (br_t h3 ?_)
      have hp : ¬ v1 < 0 := fun z => h1 (Int32.lt_of_lt_of_le z (by decide))
      obtain ⟨j, hj, rfl⟩ := nI_of hp
      have j3 : j ≤ 3 := (nI_leI hj (b := 3) (by omega)).mp h3
      have j1 : 0 < j := by
        have := (not_congr (nI_ltI hj (b := 1) (by omega))).mp h1
        omega
      refine cx_gather (c := j) hg rfl j1 j3 eo hn hE eA ?_
      intro kn' ks' k1 k2
      refine br_f h1 (br_t h3 ⟨?_, gen, m, j, hg, hm, j1, j3, ⟨x1, rfl, rfl, x4, ⟨gr, n, hE, hn, eo, eA⟩, k1, k2⟩, ⟨y1, rfl, y3, y4⟩⟩)
      rw [y2, x2]
    · exact br_f h1 (br_f h3 (br_f h1 (br_f h3 ⟨rfl, old⟩)))
theorem i_vc_remove {k : Nat} {u : SX} {v : SY} (I : i_Rel k u v) (hk : k + 3 ≤ 1536) : wpX_remove (fun r u' => wpY_remove (fun r' v' => r' = r ∧ i_Rel (k + 3) u' v') v) u := by
  obtain ⟨gc, go, cc, cn, ag, A, kn, ks⟩ := u
  obtain ⟨mm, cl, sz, car, cod, nam, wai, grp, lis⟩ := v
  obtain ⟨gen, m, c, hg, hm, hc, hc3, ⟨x1, x2, x3, x4, ⟨gr, n, hE, hn, eo, eA⟩, x6, x7⟩, ⟨y1, y2, y3, y4⟩⟩ := I
  have old : i_Rel (k + 3) (gc, go, cc, cn, ag, A, kn, ks) (mm, cl, sz, car, cod, nam, wai, grp, lis) := ⟨gen, m, c, hg, hm, hc, hc3, ⟨x1, x2, x3, x4, ⟨gr, n, hE, hn, eo, eA⟩, x6, x7⟩, ⟨y1, y2, y3, y4⟩⟩
  cases m with
  | zero =>
    exact br_f (by rw [x1]; decide) (br_t y1 ⟨rfl, old⟩)
  | succ q =>
    have hg' : ck_gok gen q := fun i hi => hg i (by omega)
    refine br_t (by rw [x1]; exact nI_lt (a := 0) (by omega) (by omega)) (nm_r (e' := nI q) (by rw [x1]; exact nI_pred q) ⟨vp_in_nI (by omega) (by omega), ?_⟩)
    rw [nI_clamp (n := q) (by omega)]
    refine nm_e (cx_close hg' (by omega) rfl (fun i hi => x4 i (by omega)) ?_)
    intro go' A' gr' n' hE' hn' eo' eA'
    refine cx_gather hg' x2 hc hc3 eo' hn' hE' eA' ?_
    intro kn' ks' k1 k2
    refine br_f (by rw [y1]; exact nI_ne0 (by omega) (by omega)) (nm_r (e' := nI q) (by rw [y1]; exact nI_pred q) ⟨vp_in_nI (by omega) (by omega), ?_, gen, q, c, hg', by omega, hc, hc3, ⟨rfl, x2, rfl, fun i hi => x4 i (by omega), ⟨gr', n', hE', hn', eo', eA'⟩, k1, k2⟩, ⟨rfl, y2, fun i hi => y3 i (by omega), fun i hi => y4 i (by omega)⟩⟩)
    rw [nI_clamp (n := q) (by omega), y4 q (by omega), x4 q (by omega)]
/-- Y writes the digits of a new generator -/
theorem cy_add23 {post : Int32 → SY → Prop} {mm cl sz : Int32} {cod nam wai grp lis : Nat → Int32} {car0 : Nat → Int32} {g m : Nat} (em : mm = nI m) (hm : m < 3) (hg : g < 46656)
    (H : ∀ car' : Nat → Int32, (∀ j, j < 6 * m → car' j = car0 j) → (∀ p, p < 6 → car' (6 * m + p) = nI (ck_dg 6 g p)) → post (nI (m + 1)) (nI (m + 1), cl, sz, car', upd cod m (nI g), nam, wai, grp, lis)) :
    ∀ d i : Nat, i + d = 6 → ∀ car : Nat → Int32, (∀ j, j < 6 * m → car j = car0 j) → (∀ p, p < i → car (6 * m + p) = nI (ck_dg 6 g p)) → wY_add_23 post (nI g) mm cl sz (d + 1) (nI i) car cod nam wai grp lis := by
  subst em
  intro d
  induction d with
  | zero =>
    intro i hi car h1 h2
    refine br_t (nI_le (a := 6) (by omega) (by omega)) ⟨vp_in_nI hm (by omega), ?_⟩
    rw [nI_clamp (n := m) (by omega)]
    exact nm_e (nm_r (nI_1 m) (H car h1 fun p hp => h2 p (by omega)))
  | succ d ih =>
    intro i hi car h1 h2
    refine br_f (nI_ge (b := 6) (by omega) (by omega)) (cy_digit g 6 i rfl rfl rfl (by omega) (by omega) (by omega) (by omega) ?_)
    rw [cb_ix m i rfl rfl]
    refine ⟨vp_in_nI (by omega) (by omega), ?_⟩
    rw [nI_clamp (n := 6 * m + i) (by omega)]
    refine nm_e (nm_r (nI_1 i) (ih (i + 1) (by omega) _ ?_ ?_))
    · intro j hj
      rw [pk_un (by omega)]
      exact h1 j hj
    · intro p hp
      by_cases z : p = i
      · rw [z]; exact pk_us
      · rw [pk_un (by omega)]
        exact h2 p (by omega)
theorem i_vc_add {k : Nat} {u : SX} {v : SY} (I : i_Rel k u v) (hk : k + 3 ≤ 1536) (v1 : Int32) : wpX_add (fun r u' => wpY_add (fun r' v' => r' = r ∧ i_Rel (k + 3) u' v') v v1) u v1 := by
  obtain ⟨gc, go, cc, cn, ag, A, kn, ks⟩ := u
  obtain ⟨mm, cl, sz, car, cod, nam, wai, grp, lis⟩ := v
  obtain ⟨gen, m, c, hg, hm, hc, hc3, ⟨x1, x2, x3, x4, ⟨gr, n, hE, hn, eo, eA⟩, x6, x7⟩, ⟨y1, y2, y3, y4⟩⟩ := I
  have old : i_Rel (k + 3) (gc, go, cc, cn, ag, A, kn, ks) (mm, cl, sz, car, cod, nam, wai, grp, lis) := ⟨gen, m, c, hg, hm, hc, hc3, ⟨x1, x2, x3, x4, ⟨gr, n, hE, hn, eo, eA⟩, x6, x7⟩, ⟨y1, y2, y3, y4⟩⟩
  unfold wpX_add
  refine cx_isRear v1 (fun g e hlt hs => br_f (by decide) ?_) (fun z => br_t rfl ?_)
  · by_cases h3 : m < 3
    · have hpg := ck_sn_pm hlt hs
      have hg' : ck_gok (ck_app gen m g) (m + 1) := by
        intro i hi
        by_cases z : i = m
        · rw [z, ck_app_s]; exact hpg
        · rw [ck_app_n (by omega)]; exact hg i (by omega)
      refine br_t (by rw [x1]; exact nI_lt (b := 3) h3 (by omega)) ⟨by rw [x1]; exact vp_in_nI h3 (by omega), ?_⟩
      have eag : ∀ i, i < m + 1 → upd ag m v1 i = nI (ck_app gen m g i) := by
        intro i hi
        by_cases z : i = m
        · rw [z, pk_us, ck_app_s]; exact e
        · rw [pk_un z, ck_app_n (by omega)]
          exact x4 i (by omega)
      rw [x1, nI_clamp (n := m) (by omega)]
      refine nm_e (nm_r (nI_1 m) (cx_close hg' (by omega) rfl eag ?_))
      intro go' A' gr' n' hE' hn' eo' eA'
      refine cx_gather hg' x2 hc hc3 eo' hn' hE' eA' ?_
      intro kn' ks' k1 k2
      show wpY_add _ _ _
      unfold wpY_add
      refine cy_isRear v1 (fun _ _ _ _ => br_f (by decide) (br_f ?_ ⟨7, ?_⟩)) (fun z => absurd ⟨g, e, hlt, hs⟩ z)
      · rw [y1]
        intro w
        have := (nI_eq (a := m) (b := 3) (by omega) (by omega)).mp w
        omega
      · subst e
        refine cy_add23 (car0 := car) y1 h3 hlt ?_ 6 0 (by omega) car (fun _ _ => rfl) (fun p hp => by omega)
        intro car' c1 c2
        refine ⟨rfl, ck_app gen m g, m + 1, c, hg', by omega, hc, hc3, ⟨rfl, x2, rfl, eag, ⟨gr', n', hE', hn', eo', eA'⟩, k1, k2⟩, ⟨rfl, y2, ?_, ?_⟩⟩
        · intro i hi p hp
          by_cases z : i = m
          · rw [z, ck_app_s]; exact c2 p hp
          · rw [ck_app_n (by omega), c1 _ (by omega)]
            exact y3 i (by omega) p hp
        · intro i hi
          by_cases z : i = m
          · rw [z, ck_app_s]; exact pk_us
          · rw [ck_app_n (by omega), pk_un z]
            exact y4 i (by omega)
    · have m3 : m = 3 := by omega
      refine br_f (by rw [x1]; exact nI_nlt (b := 3) (by omega) (by omega)) ?_
      unfold wpY_add
      exact cy_isRear v1 (fun _ _ _ _ => br_f (by decide) (br_t (by rw [y1, m3]; rfl) ⟨rfl, old⟩)) (fun z => absurd ⟨g, e, hlt, hs⟩ z)
  · show wpY_add _ _ _
    unfold wpY_add
    exact cy_isRear v1 (fun g e hlt hs => absurd ⟨g, e, hlt, hs⟩ z) (fun _ => br_t rfl ⟨rfl, old⟩)
