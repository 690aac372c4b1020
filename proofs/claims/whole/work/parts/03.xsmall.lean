section
variable {xn xr xc xR xC : Int32} {tk ta nu fl fk fa dc vl fo tr sk ri ci en : Nat → Int32}
theorem sk_p3 (k : Int32) : sk_p k ≤ 3 := by
  unfold sk_p
  split
  · omega
  split
  · omega
  split <;> omega
theorem xa_cellT {post : Int32 → Prop} {c : Nat} (hc : c < 16) (h : post 1) : wpX_isCell post (nI c) :=
  br_f (nI_pos (by omega)) (br_f (nI_ge (b := 16) hc (by decide)) h)
theorem xa_cellF {post : Int32 → Prop} {p : Int32} (hp : p < 0 ∨ nI 16 ≤ p) (h : post 0) : wpX_isCell post p :=
  br_c (fun _ => h) (fun n => br_t (hp.resolve_left n) h)
theorem xa_pops {post : Int32 → Prop} {k k' : Int32} (e : k = k') (h : post (nI (sk_p k'))) : wpX_popsOf post k := by
  subst e
  unfold sk_p at h
  refine br_c (fun k0 => ?_) (fun k0 => br_c (fun k1 => ?_) (fun k1 => br_c (fun k7 => ?_) (fun k7 => ?_)))
  · rw [if_pos k0] at h; exact h
  · rw [if_neg k0, if_pos k1] at h; exact h
  · rw [if_neg k0, if_neg k1, if_pos k7] at h; exact h
  · rw [if_neg k0, if_neg k1, if_neg k7] at h; exact h
theorem sk_step {K : Nat → Int32} {t : Nat} (h : sk_p (K t) ≤ sk_h K t) : nI (sk_h K t) - nI (sk_p (K t)) + 1 = nI (sk_h K (t + 1)) := by
  rw [pk_sub h, nI_1]
  rfl
theorem xa_sound {post : Int32 → Prop} {n : Nat} (TK : Nat → Int32) (hn : n ≤ 8) (hT : ∀ t, t < n → tk t = TK t) (h1 : sk_S TK n → post 1) (h0 : ¬ sk_S TK n → post 0) : wpX_typedIsSound post (nI n, xr, xc, xR, xC, tk, ta, nu, fl, fk, fa, dc, vl, fo, tr, sk, ri, ci, en) := by
  have L : ∀ d t, t + d = n → (∀ i, i < t → sk_p (TK i) ≤ sk_h TK i) → wX_typedIsSound_4 post (nI n) xr xc xR xC tk ta nu fl fk fa dc vl fo tr sk ri ci en (d + 1) (nI (sk_h TK t)) (nI t) := by
    intro d
    induction d with
    | zero =>
      intro t ht hi
      have e : t = n := ht
      subst e
      have hh := sk_ht TK t
      exact br_t (nI_le (Nat.le_refl t) (by omega)) (pk_eq (sk_h TK t) 1 (fun e => h1 ⟨hi, e⟩) (fun e => h0 (fun z => e z.2)))
    | succ d ih =>
      intro t ht hi
      have hh := sk_ht TK t
      have hp3 := sk_p3 (TK t)
      refine br_f (nI_ge (by omega) (by omega)) ⟨vp_in_nI (by omega) (by omega), xa_pops (k' := TK t) (by rw [nI_clamp (by omega)]; exact hT t (by omega)) ?_⟩
      refine pk_le (sk_p (TK t)) (sk_h TK t) (fun hp => nm_r (sk_step hp) (nm_r (nI_1 t) (ih (t + 1) (by omega) ?_))) (fun hp => h0 (fun z => ?_))
      · intro i hi'
        by_cases e : i = t
        · subst e; exact hp
        · exact hi i (by omega)
      · have := z.1 t (by omega)
        omega
  exact ⟨n + 1, L n 0 (by omega) (fun i hi => absurd hi (Nat.not_lt_zero i))⟩
/-- cell i is named by one of the first n typed tokens -/
def sh_N (TK TA : Nat → Int32) (n i : Nat) : Prop := i < 16 ∧ ∃ t, t < n ∧ TK t = 1 ∧ TA t = nI i
theorem xa_named {post : Int32 → Prop} {n : Nat} (TK TA : Nat → Int32) (hn : n ≤ 8) (hT : ∀ t, t < n → tk t = TK t ∧ ta t = TA t) (hV : ∀ t, t < n → sh_tok (TK t) (TA t))
    (h : ∀ m : Int32, (∀ i, i < 32 → (bt m i = true ↔ sh_N TK TA n i)) → post m) : wpX_cellsNamedByTyped post (nI n, xr, xc, xR, xC, tk, ta, nu, fl, fk, fa, dc, vl, fo, tr, sk, ri, ci, en) := by
  have L : ∀ d t, t + d = n → ∀ m : Int32, (∀ i, i < 32 → (bt m i = true ↔ sh_N TK TA t i)) → wX_cellsNamedByTyped_4 post (nI n) xr xc xR xC tk ta nu fl fk fa dc vl fo tr sk ri ci en (d + 1) m (nI t) := by
    intro d
    induction d with
    | zero =>
      intro t ht m hm
      have e : t = n := ht
      subst e
      exact br_t (nI_le (Nat.le_refl t) (by omega)) (h m hm)
    | succ d ih =>
      intro t ht m hm
      have et := hT t (by omega)
      have ec : (nI t).toNatClampNeg = t := nI_clamp (by omega)
      have hin : vp_in (nI t) 8 := vp_in_nI (by omega) (by omega)
      refine br_f (nI_ge (by omega) (by omega)) ⟨hin, br_c (fun k1 => ?_) (fun k1 => nm_r (nI_1 t) (ih (t + 1) (by omega) m ?_))⟩
      · have k1 : TK t = 1 := by rw [← et.1]; rw [ec] at k1; exact k1
        obtain ⟨b, hb, eb⟩ := (hV t (by omega)).2 k1
        refine ⟨hin, nm_r (e' := m ||| ((1 : Int32) <<< (nI b &&& 31))) (by rw [ec, et.2, eb]) (nm_r (nI_1 t) (ih (t + 1) (by omega) _ ?_))⟩
        intro i hi
        rw [bi_or1 (by omega) hi, hm i hi]
        constructor
        · intro z
          rcases z with ⟨z1, s, z2, z3⟩ | z
          · exact ⟨z1, s, by omega, z3⟩
          · subst z; exact ⟨hb, t, by omega, k1, eb⟩
        · intro ⟨z1, s, z2, z3, z4⟩
          by_cases e : s = t
          · subst e
            right
            rw [eb, nI_eq (by omega) (by omega)] at z4
            exact z4.symm
          · exact Or.inl ⟨z1, s, by omega, z3, z4⟩
      · have k1 : ¬ TK t = 1 := by rw [← et.1]; rw [ec] at k1; exact k1
        intro i hi
        rw [hm i hi]
        constructor
        · intro ⟨z1, s, z2, z3⟩
          exact ⟨z1, s, by omega, z3⟩
        · intro ⟨z1, s, z2, z3, z4⟩
          have e : s ≠ t := fun e => k1 (e ▸ z3)
          exact ⟨z1, s, by omega, z3, z4⟩
  refine ⟨n + 1, L n 0 (by omega) 0 ?_⟩
  intro i _
  rw [b_0]
  exact ⟨fun z => absurd z (by decide), fun ⟨_, s, z, _⟩ => absurd z (Nat.not_lt_zero s)⟩
/-- cell a is z, or depends on it -/
def sh_R (D : Nat → Nat → Prop) (z a : Nat) : Prop := a = z ∨ gr_T D a z
/-- the words of X's sets for the graph D -/
def sh_B (D : Nat → Nat → Prop) (dc : Nat → Int32) : Prop := ∀ c, c < 16 → ∀ i, i < 32 → (bt (dc c) i = true ↔ D c i)
def sh_dm (D : Nat → Nat → Prop) : Prop := ∀ c a, D c a → c < 16 ∧ a < 16
theorem sh_R16 {D : Nat → Nat → Prop} (hd : sh_dm D) {z a : Nat} (hz : z < 16) (h : sh_R D z a) : a < 16 := by
  rcases h with h | h
  · omega
  · obtain ⟨b, hb, _⟩ := gr_head h
    exact (hd _ _ hb).1
def xa_I (D : Nat → Nat → Prop) (z p x : Nat) (m : Int32) : Prop :=
  (∀ i, i < 32 → bt m i = true → sh_R D z i) ∧ bt m z = true ∧ (∀ a, a < 16 → sh_R D z a → (gr_r D a < p ∨ (gr_r D a ≤ p ∧ a < x)) → bt m a = true)
theorem xa_dep15 {post : Int32 → Prop} {J : Int32 → Int32 → Prop} {D : Nat → Nat → Prop} (hA : gr_A D) (hd : sh_dm D) (hB : sh_B D dc) {z p : Nat} (hz : z < 16) (hp : p < 16)
    (h : ∀ m, xa_I D z (p + 1) 0 m → J m (nI (p + 1))) : ∀ d x, x + d = 16 → ∀ m, xa_I D z p x m → wX_cellAndDependents_15 post J (nI p) xn xr xc xR xC tk ta nu fl fk fa dc vl fo tr sk ri ci en (d + 1) m (nI x) := by
  intro d
  induction d with
  | zero =>
    intro x hx m hm
    have e : x = 16 := hx
    subst e
    refine br_t (nI_le (Nat.le_refl 16) (by decide)) (nm_r (nI_1 p) (h m ⟨hm.1, hm.2.1, ?_⟩))
    intro a ha hr h2
    exact hm.2.2 a ha hr (by omega)
  | succ d ih =>
    intro x hx m hm
    have ec : (nI x).toNatClampNeg = x := nI_clamp (by omega)
    obtain ⟨m1, m2, m3⟩ := hm
    refine br_f (nI_ge (b := 16) (by omega) (by decide)) ⟨vp_in_nI (by omega) (by omega), br_c (fun k => ?_) (fun k => ?_)⟩
    · rw [ec, bi_and0] at k
      refine nm_r (nI_1 x) (ih (x + 1) (by omega) m ⟨m1, m2, ?_⟩)
      intro a ha hr h2
      by_cases e : a = x ∧ ¬ gr_r D a < p
      · obtain ⟨e, e2⟩ := e
        subst e
        rcases hr with hr | hr
        · subst hr; exact m2
        · obtain ⟨b, hb, hb2⟩ := gr_head hr
          have hb16 := (hd _ _ hb).2
          have hlt := gr_rD hA hb16 hb
          have hm' := m3 b hb16 hb2 (by omega)
          exact absurd ⟨(hB a ha b (by omega)).mpr hb, hm'⟩ (k b (by omega))
      · exact m3 a ha hr (by omega)
    · rw [ec, bi_and0] at k
      have k : ∃ i, i < 32 ∧ bt (dc x) i = true ∧ bt m i = true := by
        refine Classical.byContradiction fun n => k (fun i hi z => n ⟨i, hi, z⟩)
      obtain ⟨i, hi, k1, k2⟩ := k
      have kD := (hB x (by omega) i hi).mp k1
      have kR := m1 i hi k2
      have xR : sh_R D z x := Or.inr (gr_cons kD kR)
      refine nm_e (nm_r (nI_1 x) (ih (x + 1) (by omega) _ ⟨?_, ?_, ?_⟩))
      · intro j hj b
        rw [bi_or1 (by omega) hj] at b
        rcases b with b | b
        · exact m1 j hj b
        · subst b; exact xR
      · rw [bi_or1 (by omega) (by omega)]; exact Or.inl m2
      · intro a ha hr h2
        rw [bi_or1 (by omega) (by omega)]
        by_cases e : a = x
        · exact Or.inr e
        · exact Or.inl (m3 a ha hr (by omega))
theorem xa_dep {post : Int32 → Prop} {D : Nat → Nat → Prop} (hA : gr_A D) (hd : sh_dm D) (hB : sh_B D dc) {z : Nat} (hz : z < 16)
    (h : ∀ m : Int32, (∀ i, i < 32 → (bt m i = true ↔ sh_R D z i)) → post m) : wpX_cellAndDependents post (xn, xr, xc, xR, xC, tk, ta, nu, fl, fk, fa, dc, vl, fo, tr, sk, ri, ci, en) (nI z) := by
  have L : ∀ d p, p + d = 16 → ∀ m, xa_I D z p 0 m → wX_cellAndDependents_6 post xn xr xc xR xC tk ta nu fl fk fa dc vl fo tr sk ri ci en (d + 1) m (nI p) := by
    intro d
    induction d with
    | zero =>
      intro p hp m hm
      have e : p = 16 := hp
      subst e
      refine br_t (nI_le (Nat.le_refl 16) (by decide)) (h m fun i hi => ⟨hm.1 i hi, fun hr => ?_⟩)
      have h16 := sh_R16 hd hz hr
      exact hm.2.2 i h16 hr (Or.inl (gr_r16 hA h16))
    | succ d ih =>
      intro p hp m hm
      exact br_f (nI_ge (b := 16) (by omega) (by decide)) ⟨17, xa_dep15 hA hd hB hz (by omega) (fun m' hm' => ih (p + 1) (by omega) m' hm') 16 0 rfl m hm⟩
  refine nm_e ⟨17, L 16 0 rfl _ ⟨?_, ?_, ?_⟩⟩
  · intro i hi b
    rw [bi_one (by omega) hi] at b
    exact Or.inl (of_decide_eq_true b)
  · rw [bi_one (by omega) (by omega)]; exact decide_eq_true rfl
  · intro a _ _ h2
    omega
theorem xa_judge {post : Int32 → Prop} {n : Nat} (TK TA : Nat → Int32) (hn : n ≤ 8) (hT : ∀ t, t < n → tk t = TK t ∧ ta t = TA t) (hV : ∀ t, t < n → sh_tok (TK t) (TA t))
    {D : Nat → Nat → Prop} (hA : gr_A D) (hd : sh_dm D) (hB : sh_B D dc) {z : Nat} (hz : z < 16)
    (h1 : ¬ sk_S TK n → post (-4)) (h2 : sk_S TK n → (∃ a, sh_N TK TA n a ∧ sh_R D z a) → post (-5)) (h3 : sk_S TK n → (∀ a, sh_N TK TA n a → ¬ sh_R D z a) → post 0) : wpX_judgeTyped post (nI n, xr, xc, xR, xC, tk, ta, nu, fl, fk, fa, dc, vl, fo, tr, sk, ri, ci, en) (nI z) := by
  unfold wpX_judgeTyped
  refine xa_sound TK hn (fun t ht => (hT t ht).1) (fun hs => br_f (by decide) ?_) (fun hs => br_t rfl (h1 hs))
  refine xa_dep hA hd hB hz (fun m hm => ?_)
  refine xa_named TK TA hn hT hV (fun m' hm' => ?_)
  refine br_c (fun k => h3 hs ?_) (fun k => h2 hs ?_)
  · rw [bi_and0] at k
    intro a ha hr
    have := ha.1
    exact k a (by omega) ⟨(hm' a (by omega)).mpr ha, (hm a (by omega)).mpr hr⟩
  · rw [bi_and0] at k
    refine Classical.byContradiction fun n => k (fun i hi z => n ⟨i, (hm' i hi).mp z.1, (hm i hi).mp z.2⟩)
end
