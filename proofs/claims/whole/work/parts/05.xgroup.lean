/-! X: the group is listed -/
/-- gr' goes on from gr -/
def ck_ext2 (gr : Nat → Nat) (n : Nat) (gr' : Nat → Nat) (n' : Nat) : Prop := n ≤ n' ∧ ∀ e, e < n → gr' e = gr e
theorem ck_ext2_rf (gr : Nat → Nat) (n : Nat) : ck_ext2 gr n gr n := ⟨Nat.le_refl n, fun _ _ => rfl⟩
theorem ck_ext2_app (gr : Nat → Nat) (n x : Nat) : ck_ext2 gr n (ck_app gr n x) (n + 1) := ⟨Nat.le_succ n, fun _ h => ck_app_n h⟩
theorem ck_ext2_has {gr gr' : Nat → Nat} {n n' x : Nat} (h : ck_ext2 gr n gr' n') (hx : ck_has gr n x) : ck_has gr' n' x := by
  obtain ⟨q, hq, e⟩ := hx
  exact ⟨q, Nat.lt_of_lt_of_le hq h.1, (h.2 q hq).trans e⟩
theorem ck_updA {A : Nat → Int32} {gr : Nat → Nat} {n x : Nat} (eA : ∀ e, e < n → A e = nI (gr e)) : ∀ e, e < n + 1 → upd A n (nI x) e = nI (ck_app gr n x e) := by
  intro e he
  by_cases z : e = n
  · subst z
    rw [pk_us, ck_app_s]
  · rw [pk_un z, ck_app_n (by omega), eA e (by omega)]
/-- places before e are worked off -/
def ck_wo (gen : Nat → Nat) (m : Nat) (gr : Nat → Nat) (n e : Nat) : Prop := ∀ e', e' < e → ∀ j, j < m → ck_has gr n (ck_cmp (gr e') (gen j))
theorem ck_wo_ext {gen : Nat → Nat} {m : Nat} {gr gr' : Nat → Nat} {n n' e : Nat} (h : ck_ext2 gr n gr' n') (he : e ≤ n) (w : ck_wo gen m gr n e) : ck_wo gen m gr' n' e := by
  intro e' he' j hj
  rw [h.2 e' (by omega)]
  exact ck_ext2_has h (w e' he' j hj)
section
variable {gc go cc cn : Int32} {ag A kn ks : Nat → Int32} {gen : Nat → Nat} {m : Nat}
theorem cx_inG {post : Int32 → Prop} {gr : Nat → Nat} {n x : Nat} (eo : go = nI n) (hn : n ≤ 720) (eA : ∀ e, e < n → A e = nI (gr e)) (hx : x < 2 ^ 31) (hb : ∀ e, e < n → gr e < 2 ^ 31) (h1 : ck_has gr n x → post 1) (h0 : ¬ ck_has gr n x → post 0) : ∀ d i : Nat, i + d = n → (∀ j, j < i → gr j ≠ x) → wX_isInGroup_2 post (nI x) gc go cc cn ag A kn ks (d + 1) (nI i) := by
  subst eo
  intro d
  induction d with
  | zero =>
    intro i hi hno
    refine br_t (nI_le (by omega) (by omega)) (h0 ?_)
    rintro ⟨q, hq, e⟩
    exact hno q (by omega) e
  | succ d ih =>
    intro i hi hno
    refine br_f (nI_ge (by omega) (by omega)) ⟨vp_in_nI (by omega) (by omega), ?_⟩
    have hbi := hb i (by omega)
    refine pk_eq (gr i) x (fun e => h1 ⟨i, by omega, e⟩) (fun e => nm_r (nI_1 i) (ih (i + 1) (by omega) ?_)) (by rw [nI_clamp (by omega), eA i (by omega)])
    intro j hj
    by_cases z : j = i
    · rw [z]; exact e
    · exact hno j (by omega)
theorem cx_enlist {post : SX → Prop} {gr : Nat → Nat} {n x : Nat} {p0 : Int32} (e0 : p0 = nI x) (hg : ck_gok gen m) (hB : ck_B gen m gr n) (hx : ck_G gen m x) (eo : go = nI n) (eA : ∀ e, e < n → A e = nI (gr e))
    (H : ∀ (go' : Int32) (A' : Nat → Int32) (gr' : Nat → Nat) (n' : Nat), ck_B gen m gr' n' → go' = nI n' → (∀ e, e < n' → A' e = nI (gr' e)) → ck_ext2 gr n gr' n' → ck_has gr' n' x → post (gc, go', cc, cn, ag, A', kn, ks)) :
    wpX_enlist post (gc, go, cc, cn, ag, A, kn, ks) p0 := by
  subst e0
  have hn := ck_B_le hg hB
  have hpx := (ck_G_pm hg hx).1
  have hb : ∀ e, e < n → gr e < 2 ^ 31 := fun e he => Nat.lt_trans (ck_G_pm hg (hB.2.2.1 e he)).1 (by decide)
  refine ⟨n + 1, cx_inG eo hn eA (by omega) hb ?_ ?_ n 0 (by omega) (fun j hj => by omega)⟩
  · intro hh
    exact br_f (by decide) (H go A gr n hB eo eA (ck_ext2_rf gr n) hh)
  · intro hh
    have hl := ck_B_lt hg hB hx hh
    subst eo
    refine br_t rfl (br_f (nI_ge (b := 720) hl (by omega)) ⟨vp_in_nI hl (by omega), ?_⟩)
    rw [nI_clamp (by omega)]
    refine nm_e (nm_r (nI_1 n) ?_)
    exact H _ _ _ _ (ck_B_app hB hx hh) rfl (ck_updA eA) (ck_ext2_app gr n x) ck_has_new
theorem cx_cl32 {post : SX → Prop} {J15 : Int32 → Int32 → Int32 → Int32 → Int32 → (Nat → Int32) → (Nat → Int32) → (Nat → Int32) → (Nat → Int32) → Prop} {e : Nat} (hg : ck_gok gen m) (hm : m ≤ 3) (eg : ∀ i, i < m → ag i = nI (gen i))
    (H : ∀ (go' : Int32) (A' : Nat → Int32) (gr' : Nat → Nat) (n' : Nat), ck_B gen m gr' n' → go' = nI n' → (∀ e, e < n' → A' e = nI (gr' e)) → e < n' → ck_wo gen m gr' n' (e + 1) → J15 (nI (e + 1)) (nI m) go' cc cn ag A' kn ks) :
    ∀ d i : Nat, i + d = m → ∀ (go : Int32) (A : Nat → Int32) (gr : Nat → Nat) (n : Nat), ck_B gen m gr n → go = nI n → (∀ e, e < n → A e = nI (gr e)) → e < n → ck_wo gen m gr n e → (∀ j, j < i → ck_has gr n (ck_cmp (gr e) (gen j))) → wX_closeGroup_32 post J15 (nI e) (d + 1) (nI i) (nI m) go cc cn ag A kn ks := by
  intro d
  induction d with
  | zero =>
    intro i hi go A gr n hB eo eA he hw hj
    refine br_t (nI_le (by omega) (by omega)) (nm_r (nI_1 e) (H go A gr n hB eo eA he ?_))
    intro e' he' j hjm
    by_cases z : e' = e
    · rw [z]; exact hj j (by omega)
    · exact hw e' (by omega) j hjm
  | succ d ih =>
    intro i hi go A gr n hB eo eA he hw hj
    have hn := ck_B_le hg hB
    refine br_f (nI_ge (by omega) (by omega)) ⟨vp_in_nI (by omega) (by omega), vp_in_nI (by omega) (by omega), ?_⟩
    have hG := hB.2.2.1 e he
    refine cx_oneAfter (gr e) (gen i) (by rw [nI_clamp (by omega), eA e he]) (by rw [nI_clamp (by omega), eg i (by omega)]) (ck_G_pm hg hG).1 (hg i (by omega)).1 ?_
    refine cx_enlist rfl hg hB (ck_G_step hG (by omega)) eo eA ?_
    intro go' A' gr' n' hB' eo' eA' hx' hh'
    refine nm_r (nI_1 i) (ih (i + 1) (by omega) go' A' gr' n' hB' eo' eA' (Nat.lt_of_lt_of_le he hx'.1) (ck_wo_ext hx' (by omega) hw) ?_)
    intro j hji
    rw [hx'.2 e he]
    by_cases z : j = i
    · rw [z]; exact hh'
    · exact ck_ext2_has hx' (hj j (by omega))
theorem cx_cl15 {post : SX → Prop} (hg : ck_gok gen m) (hm : m ≤ 3) (eg : ∀ i, i < m → ag i = nI (gen i))
    (H : ∀ (go' : Int32) (A' : Nat → Int32) (gr' : Nat → Nat) (n' : Nat), ck_En gr' n' (ck_G gen m) → n' ≤ 720 → go' = nI n' → (∀ e, e < n' → A' e = nI (gr' e)) → post (nI m, go', cc, cn, ag, A', kn, ks)) :
    ∀ d e : Nat, e + d = 720 → ∀ (go : Int32) (A : Nat → Int32) (gr : Nat → Nat) (n : Nat), ck_B gen m gr n → go = nI n → (∀ e, e < n → A e = nI (gr e)) → ck_wo gen m gr n e → wX_closeGroup_15 post (d + 1) (nI e) (nI m) go cc cn ag A kn ks := by
  intro d
  induction d with
  | zero =>
    intro e he go A gr n hB eo eA hw
    have hn := ck_B_le hg hB
    exact br_t (nI_le (a := 720) (by omega) (by omega)) (H go A gr n (ck_B_En hB fun q hq i hi => hw q (by omega) i hi) hn eo eA)
  | succ d ih =>
    intro e he go A gr n hB eo eA hw
    have hn := ck_B_le hg hB
    refine br_f (nI_ge (b := 720) (by omega) (by omega)) ?_
    by_cases z : e < n
    · refine br_f (by rw [eo]; exact nI_ge z (by omega)) ⟨m + 1, ?_⟩
      refine cx_cl32 hg hm eg ?_ m 0 (by omega) go A gr n hB eo eA z hw (fun j hj => by omega)
      intro go' A' gr' n' hB' eo' eA' _ hw'
      exact ih (e + 1) (by omega) go' A' gr' n' hB' eo' eA' hw'
    · exact br_t (by rw [eo]; exact nI_le (by omega) (by omega)) (H go A gr n (ck_B_En hB fun q hq i hi => hw q (by omega) i hi) hn eo eA)
theorem cx_close {post : SX → Prop} (hg : ck_gok gen m) (hm : m ≤ 3) (ec : gc = nI m) (eg : ∀ i, i < m → ag i = nI (gen i))
    (H : ∀ (go' : Int32) (A' : Nat → Int32) (gr' : Nat → Nat) (n' : Nat), ck_En gr' n' (ck_G gen m) → n' ≤ 720 → go' = nI n' → (∀ e, e < n' → A' e = nI (gr' e)) → post (gc, go', cc, cn, ag, A', kn, ks)) :
    wpX_closeGroup post (gc, go, cc, cn, ag, A, kn, ks) := by
  subst ec
  refine nm_e ⟨721, cx_cl15 hg hm eg H 720 0 (by omega) 1 _ (fun _ => 44790) 1 (ck_B_0 gen m rfl) rfl ?_ (fun e he => by omega)⟩
  intro e he
  have z : e = 0 := by omega
  subst z
  exact pk_us
end
