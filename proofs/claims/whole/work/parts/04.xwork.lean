section
variable {xn xr xc xR xC : Int32} {tk ta nu fl fk fa dc vl fo tr sk ri ci en : Nat → Int32}
/-- the arrays fl, fk, fa hold the sheet L, K, A -/
def sh_P (L : Nat → Nat) (K A : Nat → Nat → Int32) (fl fk fa : Nat → Int32) : Prop := ∀ c, c < 16 → fl c = nI (L c) ∧ ∀ t, t < L c → fk (c * 8 + t) = K c t ∧ fa (c * 8 + t) = A c t
theorem xa_hold {post : SX → Prop} {n : Nat} (TK TA : Nat → Int32) (hn : n ≤ 8) (hT : ∀ t, t < n → tk t = TK t ∧ ta t = TA t) (hV : ∀ t, t < n → sh_tok (TK t) (TA t)) {z : Nat} (hz : z < 16)
    (h : ∀ (m : Int32) (fk' fa' : Nat → Int32), (∀ i, i < 32 → (bt m i = true ↔ sh_N TK TA n i)) → (∀ t, t < n → fk' (z * 8 + t) = TK t ∧ fa' (z * 8 + t) = TA t) →
      (∀ i, ¬ (z * 8 ≤ i ∧ i < z * 8 + 8) → fk' i = fk i ∧ fa' i = fa i) → post (nI n, xr, xc, xR, xC, tk, ta, nu, upd fl z (nI n), fk', fa', upd dc z m, vl, fo, tr, sk, ri, ci, en)) : wpX_holdTyped post (nI n, xr, xc, xR, xC, tk, ta, nu, fl, fk, fa, dc, vl, fo, tr, sk, ri, ci, en) (nI z) := by
  have L : ∀ d t, t + d = n → ∀ fk' fa' : Nat → Int32, (∀ s, s < t → fk' (z * 8 + s) = TK s ∧ fa' (z * 8 + s) = TA s) →
      (∀ i, ¬ (z * 8 ≤ i ∧ i < z * 8 + 8) → fk' i = fk i ∧ fa' i = fa i) → wX_holdTyped_7 post (nI z) (nI (z * 8)) (nI n) xr xc xR xC (d + 1) (nI t) tk ta nu fl fk' fa' dc vl fo tr sk ri ci en := by
    intro d
    induction d with
    | zero =>
      intro t ht fk' fa' h1 h2
      have e : t = n := ht
      subst e
      have ec : (nI z).toNatClampNeg = z := nI_clamp (by omega)
      have hin : vp_in (nI z) 16 := vp_in_nI hz (by omega)
      refine br_t (nI_le (Nat.le_refl t) (by omega)) ⟨hin, nm_r (e' := upd fl z (nI t)) (by rw [ec]) (xa_named TK TA hn hT hV (fun m hm => ⟨hin, nm_r (e' := upd dc z m) (by rw [ec]) (h m fk' fa' hm h1 h2)⟩))⟩
    | succ d ih =>
      intro t ht fk' fa' h1 h2
      have ec : (nI t).toNatClampNeg = t := nI_clamp (by omega)
      have ea : nI (z * 8) + nI t = nI (z * 8 + t) := nI_add _ _
      have ei : (nI (z * 8) + nI t).toNatClampNeg = z * 8 + t := by rw [ea, nI_clamp (by omega)]
      have hin : vp_in (nI t) 8 := vp_in_nI (by omega) (by omega)
      have hi2 : vp_in (nI (z * 8) + nI t) 128 := by rw [ea]; exact vp_in_nI (by omega) (by omega)
      have et := hT t (by omega)
      refine br_f (nI_ge (by omega) (by omega)) ⟨hin, hi2, nm_r (e' := upd fk' (z * 8 + t) (TK t)) (by rw [ei, ec, et.1]) ⟨hin, hi2, nm_r (e' := upd fa' (z * 8 + t) (TA t)) (by rw [ei, ec, et.2]) (nm_r (nI_1 t) (ih (t + 1) (by omega) _ _ ?_ ?_))⟩⟩
      · intro s hs
        by_cases e : s = t
        · subst e; rw [pk_us, pk_us]; exact ⟨rfl, rfl⟩
        · rw [pk_un (by omega), pk_un (by omega)]; exact h1 s (by omega)
      · intro i hi
        rw [pk_un (by omega), pk_un (by omega)]; exact h2 i hi
  refine nm_r (e' := nI (z * 8)) (pk_mul z 8) ⟨n + 1, L n 0 (by omega) fk fa (fun s hs => absurd hs (Nat.not_lt_zero s)) (fun i _ => ⟨rfl, rfl⟩)⟩
theorem xa_has {post : Int32 → Prop} {m : Int32} {c : Nat} (hc : c < 32) (h0 : ¬ bt m c = true → post 0) (h1 : bt m c = true → post 1) : wpX_contains post m (nI c) := by
  refine br_c (fun k => h0 ?_) (fun k => h1 ?_)
  · exact (bi_has hc).mp k
  · exact Classical.byContradiction fun n => k ((bi_has hc).mpr n)
theorem xa_comb {post : Int32 → Prop} {m : Nat} {k x y : Int32} (hk : k = nI m) (h2 : 2 ≤ m) (h6 : m ≤ 6) (h : post (sk_c k x y)) : wpX_combine post k x y := by
  subst hk
  refine br_f (nI_nlt (b := 2) h2 (by omega)) (br_f (nI_nlt (a := 6) h6 (by omega)) ?_)
  unfold sk_c at h
  refine br_c (fun k2 => ?_) (fun k2 => br_c (fun k3 => ?_) (fun k3 => br_c (fun k4 => ?_) (fun k4 => br_c (fun k5 => ?_) (fun k5 => br_c (fun k6 => ?_) (fun k6 => trivial)))))
  · rw [if_pos k2] at h; exact h
  · rw [if_neg k2, if_pos k3] at h; exact h
  · rw [if_neg k2, if_neg k3, if_pos k4] at h; exact h
  · rw [if_neg k2, if_neg k3, if_neg k4, if_pos k5] at h
    refine br_c (fun q => ?_) (fun q => ?_)
    · rw [if_pos q] at h; exact h
    · rw [if_neg q] at h; exact h
  · rw [if_neg k2, if_neg k3, if_neg k4, if_neg k5] at h
    refine br_c (fun q => ?_) (fun q => ?_)
    · rw [if_pos q] at h; exact h
    · rw [if_neg q] at h; exact h
end
section
variable {xn xr xc xR xC : Int32} {tk ta nu fl fk fa dc vl fo tr sk ri ci en : Nat → Int32}
theorem xa_off_values {post : Int32 → SX → Prop} {K A : Nat → Int32} {c l : Nat} (hc : c < 16) (hl : l ≤ 8) (el : fl c = nI l) (hf : ∀ t, t < l → fk (c * 8 + t) = K t ∧ fa (c * 8 + t) = A t) (hV : ∀ t, t < l → sh_tok (K t) (A t)) (hS : sk_S K l)
    (h : ∀ s, post (sk_ev K A l vl) (xn, xr, xc, xR, xC, tk, ta, nu, fl, fk, fa, dc, vl, fo, tr, s, ri, ci, en)) : wpX_workOffFormula__values post (xn, xr, xc, xR, xC, tk, ta, nu, fl, fk, fa, dc, vl, fo, tr, sk, ri, ci, en) (nI c) := by
  have L : ∀ d t, t + d = l → wX_workOffFormula__values_11 post (nI c) (nI (c * 8)) xn xr xc xR xC (d + 1) (nI (sk_h K t)) (nI t) tk ta nu fl fk fa dc vl fo tr (sk_st K A vl sk t) ri ci en := by
    intro d
    have ecc : (nI c).toNatClampNeg = c := nI_clamp (by omega)
    have hinc : vp_in (nI c) 16 := vp_in_nI hc (by omega)
    induction d with
    | zero =>
      intro t ht
      have e : t = l := ht
      subst e
      refine ⟨hinc, br_t (by rw [ecc, el]; exact nI_le (Nat.le_refl t) (by omega)) ?_⟩
      have := h (sk_st K A vl sk t)
      rw [← sk_end sk hS] at this
      exact this
    | succ d ih =>
      intro t ht
      have ec : (nI t).toNatClampNeg = t := nI_clamp (by omega)
      have ea : nI (c * 8) + nI t = nI (c * 8 + t) := nI_add _ _
      have ei : (nI (c * 8) + nI t).toNatClampNeg = c * 8 + t := by rw [ea, nI_clamp (by omega)]
      have hi2 : vp_in (nI (c * 8) + nI t) 128 := by rw [ea]; exact vp_in_nI (by omega) (by omega)
      obtain ⟨ek, ear⟩ := hf t (by omega)
      obtain ⟨⟨m, hm, em⟩, hcell⟩ := hV t (by omega)
      have hp := hS.1 t (by omega)
      have hh := sk_ht K t
      have ih := ih (t + 1) (by omega)
      have eh : sk_h K (t + 1) = sk_h K t - sk_p (K t) + 1 := rfl
      have es : sk_st K A vl sk (t + 1) = upd (sk_st K A vl sk t) (sk_h K t - sk_p (K t)) (sk_v (K t) (A t) vl (sk_st K A vl sk t) (sk_h K t - sk_p (K t))) := rfl
      rw [eh, es] at ih
      refine ⟨hinc, br_f (by rw [ecc, el]; exact nI_ge (by omega) (by omega)) ⟨hi2, nm_r (e' := K t) (by rw [ei, ek]) ⟨hi2, nm_r (e' := A t) (by rw [ei, ear]) (xa_pops rfl (nm_r (pk_sub hp) ?_))⟩⟩⟩
      generalize hb : sk_h K t - sk_p (K t) = b at ih ⊢
      have hb8 : b < 8 := by omega
      have ecb : (nI b).toNatClampNeg = b := nI_clamp (by omega)
      have hinb : vp_in (nI b) 8 := vp_in_nI hb8 (by omega)
      unfold sk_v at ih
      refine br_c (fun k0 => ⟨hinb, ?_⟩) (fun k0 => br_c (fun k1 => ?_) (fun k1 => br_c (fun k7 => ⟨hinb, ?_⟩) (fun k7 => ⟨hinb, ?_⟩)))
      · rw [if_pos k0] at ih
        exact nm_r (by rw [ecb]) (nm_r (nI_1 b) (nm_r (nI_1 t) ih))
      · rw [if_neg k0, if_pos k1] at ih
        obtain ⟨a, ha, ea'⟩ := hcell k1
        refine ⟨by rw [ea']; exact vp_in_nI ha (by omega), hinb, nm_r (by rw [ecb]) (nm_r (nI_1 b) (nm_r (nI_1 t) ih))⟩
      · rw [if_neg k0, if_neg k1, if_pos k7] at ih
        have e3 : sk_p (K t) = 3 := by unfold sk_p; rw [if_neg k0, if_neg k1, if_pos k7]
        have e1 : nI b + 1 = nI (b + 1) := nI_1 b
        have e2 : nI b + 2 = nI (b + 2) := nI_add b 2
        have ec1 : (nI b + 1).toNatClampNeg = b + 1 := by rw [e1, nI_clamp (by omega)]
        have ec2 : (nI b + 2).toNatClampNeg = b + 2 := by rw [e2, nI_clamp (by omega)]
        refine br_c (fun q => ?_) (fun q => ?_)
        · rw [ecb] at q
          rw [if_pos q] at ih
          exact ⟨by rw [e2]; exact vp_in_nI (by omega) (by omega), hinb, nm_r (by rw [ecb, ec2]) (nm_r (nI_1 b) (nm_r (nI_1 t) ih))⟩
        · rw [ecb] at q
          rw [if_neg q] at ih
          exact ⟨by rw [e1]; exact vp_in_nI (by omega) (by omega), hinb, nm_r (by rw [ecb, ec1]) (nm_r (nI_1 b) (nm_r (nI_1 t) ih))⟩
      · rw [if_neg k0, if_neg k1, if_neg k7] at ih
        have e2 : sk_p (K t) = 2 := by unfold sk_p; rw [if_neg k0, if_neg k1, if_neg k7]
        have e1 : nI b + 1 = nI (b + 1) := nI_1 b
        have ec1 : (nI b + 1).toNatClampNeg = b + 1 := by rw [e1, nI_clamp (by omega)]
        have n0 : m ≠ 0 := fun z => k0 (by rw [em, z]; rfl)
        have n1 : m ≠ 1 := fun z => k1 (by rw [em, z]; rfl)
        have n7 : m ≠ 7 := fun z => k7 (by rw [em, z]; rfl)
        refine ⟨by rw [e1]; exact vp_in_nI (by omega) (by omega), xa_comb em (by omega) (by omega) ⟨hinb, nm_r (by rw [ecb, ec1]) (nm_r (nI_1 b) (nm_r (nI_1 t) ih))⟩⟩
  refine nm_r (e' := nI (c * 8)) (pk_mul c 8) ⟨l + 1, L l 0 (by omega)⟩
end
section
variable {xn xr xc xR xC : Int32} {tk ta nu fl fk fa dc vl fo tr sk ri ci en : Nat → Int32}
theorem xa_off_trialValues {post : Int32 → SX → Prop} {K A : Nat → Int32} {c l : Nat} (hc : c < 16) (hl : l ≤ 8) (el : fl c = nI l) (hf : ∀ t, t < l → fk (c * 8 + t) = K t ∧ fa (c * 8 + t) = A t) (hV : ∀ t, t < l → sh_tok (K t) (A t)) (hS : sk_S K l)
    (h : ∀ s, post (sk_ev K A l tr) (xn, xr, xc, xR, xC, tk, ta, nu, fl, fk, fa, dc, vl, fo, tr, s, ri, ci, en)) : wpX_workOffFormula__trialValues post (xn, xr, xc, xR, xC, tk, ta, nu, fl, fk, fa, dc, vl, fo, tr, sk, ri, ci, en) (nI c) := by
  have L : ∀ d t, t + d = l → wX_workOffFormula__trialValues_11 post (nI c) (nI (c * 8)) xn xr xc xR xC (d + 1) (nI (sk_h K t)) (nI t) tk ta nu fl fk fa dc vl fo tr (sk_st K A tr sk t) ri ci en := by
    intro d
    have ecc : (nI c).toNatClampNeg = c := nI_clamp (by omega)
    have hinc : vp_in (nI c) 16 := vp_in_nI hc (by omega)
    induction d with
    | zero =>
      intro t ht
      have e : t = l := ht
      subst e
      refine ⟨hinc, br_t (by rw [ecc, el]; exact nI_le (Nat.le_refl t) (by omega)) ?_⟩
      have := h (sk_st K A tr sk t)
      rw [← sk_end sk hS] at this
      exact this
    | succ d ih =>
      intro t ht
      have ec : (nI t).toNatClampNeg = t := nI_clamp (by omega)
      have ea : nI (c * 8) + nI t = nI (c * 8 + t) := nI_add _ _
      have ei : (nI (c * 8) + nI t).toNatClampNeg = c * 8 + t := by rw [ea, nI_clamp (by omega)]
      have hi2 : vp_in (nI (c * 8) + nI t) 128 := by rw [ea]; exact vp_in_nI (by omega) (by omega)
      obtain ⟨ek, ear⟩ := hf t (by omega)
      obtain ⟨⟨m, hm, em⟩, hcell⟩ := hV t (by omega)
      have hp := hS.1 t (by omega)
      have hh := sk_ht K t
      have ih := ih (t + 1) (by omega)
      have eh : sk_h K (t + 1) = sk_h K t - sk_p (K t) + 1 := rfl
      have es : sk_st K A tr sk (t + 1) = upd (sk_st K A tr sk t) (sk_h K t - sk_p (K t)) (sk_v (K t) (A t) tr (sk_st K A tr sk t) (sk_h K t - sk_p (K t))) := rfl
      rw [eh, es] at ih
      refine ⟨hinc, br_f (by rw [ecc, el]; exact nI_ge (by omega) (by omega)) ⟨hi2, nm_r (e' := K t) (by rw [ei, ek]) ⟨hi2, nm_r (e' := A t) (by rw [ei, ear]) (xa_pops rfl (nm_r (pk_sub hp) ?_))⟩⟩⟩
      generalize hb : sk_h K t - sk_p (K t) = b at ih ⊢
      have hb8 : b < 8 := by omega
      have ecb : (nI b).toNatClampNeg = b := nI_clamp (by omega)
      have hinb : vp_in (nI b) 8 := vp_in_nI hb8 (by omega)
      unfold sk_v at ih
      refine br_c (fun k0 => ⟨hinb, ?_⟩) (fun k0 => br_c (fun k1 => ?_) (fun k1 => br_c (fun k7 => ⟨hinb, ?_⟩) (fun k7 => ⟨hinb, ?_⟩)))
      · rw [if_pos k0] at ih
        exact nm_r (by rw [ecb]) (nm_r (nI_1 b) (nm_r (nI_1 t) ih))
      · rw [if_neg k0, if_pos k1] at ih
        obtain ⟨a, ha, ea'⟩ := hcell k1
        refine ⟨by rw [ea']; exact vp_in_nI ha (by omega), hinb, nm_r (by rw [ecb]) (nm_r (nI_1 b) (nm_r (nI_1 t) ih))⟩
      · rw [if_neg k0, if_neg k1, if_pos k7] at ih
        have e3 : sk_p (K t) = 3 := by unfold sk_p; rw [if_neg k0, if_neg k1, if_pos k7]
        have e1 : nI b + 1 = nI (b + 1) := nI_1 b
        have e2 : nI b + 2 = nI (b + 2) := nI_add b 2
        have ec1 : (nI b + 1).toNatClampNeg = b + 1 := by rw [e1, nI_clamp (by omega)]
        have ec2 : (nI b + 2).toNatClampNeg = b + 2 := by rw [e2, nI_clamp (by omega)]
        refine br_c (fun q => ?_) (fun q => ?_)
        · rw [ecb] at q
          rw [if_pos q] at ih
          exact ⟨by rw [e2]; exact vp_in_nI (by omega) (by omega), hinb, nm_r (by rw [ecb, ec2]) (nm_r (nI_1 b) (nm_r (nI_1 t) ih))⟩
        · rw [ecb] at q
          rw [if_neg q] at ih
          exact ⟨by rw [e1]; exact vp_in_nI (by omega) (by omega), hinb, nm_r (by rw [ecb, ec1]) (nm_r (nI_1 b) (nm_r (nI_1 t) ih))⟩
      · rw [if_neg k0, if_neg k1, if_neg k7] at ih
        have e2 : sk_p (K t) = 2 := by unfold sk_p; rw [if_neg k0, if_neg k1, if_neg k7]
        have e1 : nI b + 1 = nI (b + 1) := nI_1 b
        have ec1 : (nI b + 1).toNatClampNeg = b + 1 := by rw [e1, nI_clamp (by omega)]
        have n0 : m ≠ 0 := fun z => k0 (by rw [em, z]; rfl)
        have n1 : m ≠ 1 := fun z => k1 (by rw [em, z]; rfl)
        have n7 : m ≠ 7 := fun z => k7 (by rw [em, z]; rfl)
        refine ⟨by rw [e1]; exact vp_in_nI (by omega) (by omega), xa_comb em (by omega) (by omega) ⟨hinb, nm_r (by rw [ecb, ec1]) (nm_r (nI_1 b) (nm_r (nI_1 t) ih))⟩⟩
  refine nm_r (e' := nI (c * 8)) (pk_mul c 8) ⟨l + 1, L l 0 (by omega)⟩
end
