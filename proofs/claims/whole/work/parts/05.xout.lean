def xa_W (g : Int32) (S : Nat → Int32) (D : Nat → Nat → Prop) (p x : Nat) (m : Int32) (v : Nat → Int32) : Prop :=
  (∀ a, a < 16 → bt m a = true → v a = S a) ∧ (∀ a, a < 16 → bt g a = true → bt m a = true) ∧ (∀ a, a < 16 → (gr_r D a < p ∨ (gr_r D a ≤ p ∧ a < x)) → bt m a = true)
theorem xa_Wput {g : Int32} {S : Nat → Int32} {D : Nat → Nat → Prop} {p x : Nat} {m : Int32} {v : Nat → Int32} {w : Int32} (hx : x < 16) (h : xa_W g S D p x m v) (hw : w = S x) :
    xa_W g S D p (x + 1) (m ||| ((1 : Int32) <<< (nI x &&& 31))) (upd v x w) := by
  obtain ⟨h1, h2, h3⟩ := h
  refine ⟨?_, ?_, ?_⟩
  · intro a ha hb
    rw [bi_or1 (by omega) (by omega)] at hb
    by_cases e : a = x
    · subst e; rw [pk_us]; exact hw
    · rw [pk_un e]; exact h1 a ha (hb.resolve_right e)
  · intro a ha hb
    rw [bi_or1 (by omega) (by omega)]; exact Or.inl (h2 a ha hb)
  · intro a ha hb
    rw [bi_or1 (by omega) (by omega)]
    by_cases e : a = x
    · exact Or.inr e
    · exact Or.inl (h3 a ha (by omega))
theorem xa_Wskip {g : Int32} {S : Nat → Int32} {D : Nat → Nat → Prop} {p x : Nat} {m : Int32} {v : Nat → Int32} (hx : x < 16) (h : xa_W g S D p x m v) (hw : gr_r D x ≤ p → bt m x = true) :
    xa_W g S D p (x + 1) m v := by
  obtain ⟨h1, h2, h3⟩ := h
  refine ⟨h1, h2, ?_⟩
  intro a ha hb
  by_cases e : a = x ∧ ¬ gr_r D a < p
  · obtain ⟨e, _⟩ := e
    subst e
    exact hw (by omega)
  · exact h3 a ha (by omega)
section
variable {xn xr xc xR xC : Int32} {tk ta nu fl fk fa dc vl fo tr sk ri ci en : Nat → Int32}
theorem xa_out15_values {post : SX → Prop} {J : Int32 → Int32 → Int32 → Int32 → Int32 → Int32 → Int32 → (Nat → Int32) → (Nat → Int32) → (Nat → Int32) → (Nat → Int32) → (Nat → Int32) → (Nat → Int32) → (Nat → Int32) → (Nat → Int32) → (Nat → Int32) → (Nat → Int32) → (Nat → Int32) → (Nat → Int32) → (Nat → Int32) → (Nat → Int32) → Prop}
    {L : Nat → Nat} {K A : Nat → Nat → Int32} (hO : sh_OK L K A) (hP : sh_P L K A fl fk fa) (hA : gr_A (sh_D L K A)) (hB : sh_B (sh_D L K A) dc) {g : Int32} {S : Nat → Int32} (hS : ∀ c, c < 16 → ¬ bt g c = true → S c = sh_F L K A nu c S)
    {p : Nat} (hp : p < 16) (h : ∀ m v s, xa_W g S (sh_D L K A) (p + 1) 0 m v → J m (nI (p + 1)) xn xr xc xR xC tk ta nu fl fk fa dc v fo tr s ri ci en) :
    ∀ d x, x + d = 16 → ∀ m v s, xa_W g S (sh_D L K A) p x m v → wX_workOutCells__values_15 post J (nI p) (d + 1) m (nI x) xn xr xc xR xC tk ta nu fl fk fa dc v fo tr s ri ci en := by
  intro d
  induction d with
  | zero =>
    intro x hx m v s hm
    have e : x = 16 := hx
    subst e
    refine br_t (nI_le (Nat.le_refl 16) (by decide)) (nm_r (nI_1 p) (h m v s ⟨hm.1, hm.2.1, ?_⟩))
    intro a ha h2
    exact hm.2.2 a ha (by omega)
  | succ d ih =>
    intro x hx m v s hm
    have hx16 : x < 16 := by omega
    have ec : (nI x).toNatClampNeg = x := nI_clamp (by omega)
    have hin : vp_in (nI x) 16 := vp_in_nI hx16 (by omega)
    refine br_f (nI_ge (b := 16) hx16 (by decide)) (xa_has (by omega) (fun hb => br_t rfl ⟨hin, br_c (fun k => ⟨hin, ?_⟩) (fun k => ?_)⟩) (fun hb => br_f (by decide) (nm_r (nI_1 x) (ih (x + 1) (by omega) m v s (xa_Wskip hx16 hm (fun _ => hb))))))
    · rw [ec, bi_and0] at k
      have hF : sh_F L K A nu x v = S x := by
        rw [hS x hx16 (fun z => hb (hm.2.1 x hx16 z))]
        apply sh_loc hO x hx16
        intro a ha
        have ha16 := ha.2.1
        apply hm.1 a ha16
        have k1 := k a (by omega)
        rw [bi_not (by omega)] at k1
        exact Classical.byContradiction fun q => k1 ⟨(hB x hx16 a (by omega)).mpr ha, q⟩
      obtain ⟨o1, o2, o3⟩ := hO x hx16
      obtain ⟨p1, p2⟩ := hP x hx16
      unfold sh_F at hF
      refine pk_le (L x) 0 (fun q => ?_) (fun q => ?_) (by rw [ec]; exact p1) rfl (by omega)
      · rw [if_pos (by omega)] at hF
        exact ⟨hin, hin, nm_r (e' := upd v x (nu x)) (by rw [ec]) (nm_e (nm_r (nI_1 x) (ih (x + 1) (by omega) _ _ s (xa_Wput hx16 hm hF))))⟩
      · rw [if_neg (by omega)] at hF
        refine xa_off_values hx16 o1 p1 p2 o2 (o3.resolve_left (by omega)) (fun s' => ?_)
        exact ⟨hin, nm_r (e' := upd v x (sk_ev (K x) (A x) (L x) v)) (by rw [ec]) (nm_e (nm_r (nI_1 x) (ih (x + 1) (by omega) _ _ s' (xa_Wput hx16 hm hF))))⟩
    · refine nm_r (nI_1 x) (ih (x + 1) (by omega) m v s (xa_Wskip hx16 hm (fun hr => ?_)))
      exfalso
      apply k
      rw [ec, bi_and0]
      intro i hi ⟨k1, k2⟩
      have hD := (hB x hx16 i hi).mp k1
      rw [bi_not hi] at k2
      have hlt := gr_rD hA hD.2.1 hD
      exact k2 (hm.2.2 i hD.2.1 (by omega))
theorem xa_out_values {post : SX → Prop} {L : Nat → Nat} {K A : Nat → Nat → Int32} (hO : sh_OK L K A) (hP : sh_P L K A fl fk fa) (hA : gr_A (sh_D L K A)) (hB : sh_B (sh_D L K A) dc) {g : Int32} {S : Nat → Int32} (hS : ∀ c, c < 16 → ¬ bt g c = true → S c = sh_F L K A nu c S)
    (hg : ∀ c, c < 16 → bt g c = true → vl c = S c) (h : ∀ v s, (∀ c, c < 16 → v c = S c) → post (xn, xr, xc, xR, xC, tk, ta, nu, fl, fk, fa, dc, v, fo, tr, s, ri, ci, en)) : wpX_workOutCells__values post (xn, xr, xc, xR, xC, tk, ta, nu, fl, fk, fa, dc, vl, fo, tr, sk, ri, ci, en) g := by
  have M : ∀ d p, p + d = 16 → ∀ m v s, xa_W g S (sh_D L K A) p 0 m v → wX_workOutCells__values_5 post (d + 1) m (nI p) xn xr xc xR xC tk ta nu fl fk fa dc v fo tr s ri ci en := by
    intro d
    induction d with
    | zero =>
      intro p hp m v s hm
      have e : p = 16 := hp
      subst e
      refine br_t (nI_le (Nat.le_refl 16) (by decide)) (h v s fun c hc => hm.1 c hc (hm.2.2 c hc (Or.inl (gr_r16 hA hc))))
    | succ d ih =>
      intro p hp m v s hm
      exact br_f (nI_ge (b := 16) (by omega) (by decide)) ⟨17, xa_out15_values hO hP hA hB hS (by omega) (fun m' v' s' hm' => ih (p + 1) (by omega) m' v' s' hm') 16 0 rfl m v s hm⟩
  refine ⟨17, M 16 0 rfl g vl sk ⟨hg, fun _ _ z => z, ?_⟩⟩
  intro a _ h2
  omega
end
section
variable {xn xr xc xR xC : Int32} {tk ta nu fl fk fa dc vl fo tr sk ri ci en : Nat → Int32}
theorem xa_out15_trialValues {post : SX → Prop} {J : Int32 → Int32 → Int32 → Int32 → Int32 → Int32 → Int32 → (Nat → Int32) → (Nat → Int32) → (Nat → Int32) → (Nat → Int32) → (Nat → Int32) → (Nat → Int32) → (Nat → Int32) → (Nat → Int32) → (Nat → Int32) → (Nat → Int32) → (Nat → Int32) → (Nat → Int32) → (Nat → Int32) → (Nat → Int32) → Prop}
    {L : Nat → Nat} {K A : Nat → Nat → Int32} (hO : sh_OK L K A) (hP : sh_P L K A fl fk fa) (hA : gr_A (sh_D L K A)) (hB : sh_B (sh_D L K A) dc) {g : Int32} {S : Nat → Int32} (hS : ∀ c, c < 16 → ¬ bt g c = true → S c = sh_F L K A nu c S)
    {p : Nat} (hp : p < 16) (h : ∀ m v s, xa_W g S (sh_D L K A) (p + 1) 0 m v → J m (nI (p + 1)) xn xr xc xR xC tk ta nu fl fk fa dc vl fo v s ri ci en) :
    ∀ d x, x + d = 16 → ∀ m v s, xa_W g S (sh_D L K A) p x m v → wX_workOutCells__trialValues_15 post J (nI p) (d + 1) m (nI x) xn xr xc xR xC tk ta nu fl fk fa dc vl fo v s ri ci en := by
  intro d
  induction d with
  | zero =>
    intro x hx m v s hm
    have e : x = 16 := hx
    subst e
    refine br_t (nI_le (Nat.le_refl 16) (by decide)) (nm_r (nI_1 p) (h m v s ⟨hm.1, hm.2.1, ?_⟩))
    intro a ha h2
    exact hm.2.2 a ha (by omega)
  | succ d ih =>
    intro x hx m v s hm
    have hx16 : x < 16 := by omega
    have ec : (nI x).toNatClampNeg = x := nI_clamp (by omega)
    have hin : vp_in (nI x) 16 := vp_in_nI hx16 (by omega)
    refine br_f (nI_ge (b := 16) hx16 (by decide)) (xa_has (by omega) (fun hb => br_t rfl ⟨hin, br_c (fun k => ⟨hin, ?_⟩) (fun k => ?_)⟩) (fun hb => br_f (by decide) (nm_r (nI_1 x) (ih (x + 1) (by omega) m v s (xa_Wskip hx16 hm (fun _ => hb))))))
    · rw [ec, bi_and0] at k
      have hF : sh_F L K A nu x v = S x := by
        rw [hS x hx16 (fun z => hb (hm.2.1 x hx16 z))]
        apply sh_loc hO x hx16
        intro a ha
        have ha16 := ha.2.1
        apply hm.1 a ha16
        have k1 := k a (by omega)
        rw [bi_not (by omega)] at k1
        exact Classical.byContradiction fun q => k1 ⟨(hB x hx16 a (by omega)).mpr ha, q⟩
      obtain ⟨o1, o2, o3⟩ := hO x hx16
      obtain ⟨p1, p2⟩ := hP x hx16
      unfold sh_F at hF
      refine pk_le (L x) 0 (fun q => ?_) (fun q => ?_) (by rw [ec]; exact p1) rfl (by omega)
      · rw [if_pos (by omega)] at hF
        exact ⟨hin, hin, nm_r (e' := upd v x (nu x)) (by rw [ec]) (nm_e (nm_r (nI_1 x) (ih (x + 1) (by omega) _ _ s (xa_Wput hx16 hm hF))))⟩
      · rw [if_neg (by omega)] at hF
        refine xa_off_trialValues hx16 o1 p1 p2 o2 (o3.resolve_left (by omega)) (fun s' => ?_)
        exact ⟨hin, nm_r (e' := upd v x (sk_ev (K x) (A x) (L x) v)) (by rw [ec]) (nm_e (nm_r (nI_1 x) (ih (x + 1) (by omega) _ _ s' (xa_Wput hx16 hm hF))))⟩
    · refine nm_r (nI_1 x) (ih (x + 1) (by omega) m v s (xa_Wskip hx16 hm (fun hr => ?_)))
      exfalso
      apply k
      rw [ec, bi_and0]
      intro i hi ⟨k1, k2⟩
      have hD := (hB x hx16 i hi).mp k1
      rw [bi_not hi] at k2
      have hlt := gr_rD hA hD.2.1 hD
      exact k2 (hm.2.2 i hD.2.1 (by omega))
theorem xa_out_trialValues {post : SX → Prop} {L : Nat → Nat} {K A : Nat → Nat → Int32} (hO : sh_OK L K A) (hP : sh_P L K A fl fk fa) (hA : gr_A (sh_D L K A)) (hB : sh_B (sh_D L K A) dc) {g : Int32} {S : Nat → Int32} (hS : ∀ c, c < 16 → ¬ bt g c = true → S c = sh_F L K A nu c S)
    (hg : ∀ c, c < 16 → bt g c = true → tr c = S c) (h : ∀ v s, (∀ c, c < 16 → v c = S c) → post (xn, xr, xc, xR, xC, tk, ta, nu, fl, fk, fa, dc, vl, fo, v, s, ri, ci, en)) : wpX_workOutCells__trialValues post (xn, xr, xc, xR, xC, tk, ta, nu, fl, fk, fa, dc, vl, fo, tr, sk, ri, ci, en) g := by
  have M : ∀ d p, p + d = 16 → ∀ m v s, xa_W g S (sh_D L K A) p 0 m v → wX_workOutCells__trialValues_5 post (d + 1) m (nI p) xn xr xc xR xC tk ta nu fl fk fa dc vl fo v s ri ci en := by
    intro d
    induction d with
    | zero =>
      intro p hp m v s hm
      have e : p = 16 := hp
      subst e
      refine br_t (nI_le (Nat.le_refl 16) (by decide)) (h v s fun c hc => hm.1 c hc (hm.2.2 c hc (Or.inl (gr_r16 hA hc))))
    | succ d ih =>
      intro p hp m v s hm
      exact br_f (nI_ge (b := 16) (by omega) (by decide)) ⟨17, xa_out15_trialValues hO hP hA hB hS (by omega) (fun m' v' s' hm' => ih (p + 1) (by omega) m' v' s' hm') 16 0 rfl m v s hm⟩
  refine ⟨17, M 16 0 rfl g tr sk ⟨hg, fun _ _ z => z, ?_⟩⟩
  intro a _ h2
  omega
end
section
variable {xn xr xc xR xC : Int32} {tk ta nu fl fk fa dc vl fo tr sk ri ci en : Nat → Int32}
theorem xa_chg {post : Int32 → Prop} (h : post (nI (gr_cnt (fun c => vl c ≠ fo c) 16))) : wpX_countChangedValues post (xn, xr, xc, xR, xC, tk, ta, nu, fl, fk, fa, dc, vl, fo, tr, sk, ri, ci, en) := by
  have L : ∀ d x, x + d = 16 → wX_countChangedValues_4 post xn xr xc xR xC tk ta nu fl fk fa dc vl fo tr sk ri ci en (d + 1) (nI (gr_cnt (fun c => vl c ≠ fo c) x)) (nI x) := by
    intro d
    induction d with
    | zero =>
      intro x hx
      have e : x = 16 := hx
      subst e
      exact br_t (nI_le (Nat.le_refl 16) (by decide)) h
    | succ d ih =>
      intro x hx
      have ec : (nI x).toNatClampNeg = x := nI_clamp (by omega)
      have hin : vp_in (nI x) 16 := vp_in_nI (by omega) (by omega)
      have ih := ih (x + 1) (by omega)
      refine br_f (nI_ge (b := 16) (by omega) (by decide)) ⟨hin, hin, br_c (fun k => nm_r (nI_1 x) ?_) (fun k => nm_r (nI_1 _) (nm_r (nI_1 x) ?_))⟩
      · rw [ec] at k
        rw [gr_c0 (fun q => q k)] at ih
        exact ih
      · rw [ec] at k
        rw [gr_c1 (P := fun c => vl c ≠ fo c) k] at ih
        exact ih
  exact ⟨17, L 16 0 rfl⟩
end
