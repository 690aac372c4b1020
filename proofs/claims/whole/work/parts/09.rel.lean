def re_T (n : Nat) (TK TA tk ta td tg : Nat → Int32) : Prop := n ≤ 8 ∧ ∀ t, t < n → tk t = TK t ∧ ta t = TA t ∧ td t = TK t ∧ tg t = TA t ∧ sh_tok (TK t) (TA t)
def re_I (r q : Nat) (ri ci ip : Nat → Int32) : Prop := r ≤ 4 ∧ q ≤ 4 ∧ (∀ i, i < r → ri i = ip i) ∧ (∀ j, j < q → ci j = ip (4 + j))
def re_E (R C : Nat) (en ey : Nat → Int32) : Prop := R ≤ 4 ∧ C ≤ 4 ∧ ∀ i j, i < R → j < C → en (i * 4 + j) = ey (i * 4 + j)
def re_S (L : Nat → Nat) (K A : Nat → Nat → Int32) (nu fl fk fa dc vl sz kd ag : Nat → Int32) : Prop :=
  sh_OK L K A ∧ sh_P L K A fl fk fa ∧ sh_P L K A sz kd ag ∧ gr_A (sh_D L K A) ∧ sh_B (sh_D L K A) dc ∧ (∀ c, c < 16 → vl c = so_S (sh_F L K A nu) c)
/-- both hold one sheet L, K, A (lengths, kinds, arguments), the same numbers, the same typed tokens TK, TA, inputs and table; no circle; X's sets are the graph's, X's values the sheet's -/
def i_Rel (k : Nat) (u : SX) (v : SY) : Prop := ∃ (n r q R C : Nat) (L : Nat → Nat) (K A : Nat → Nat → Int32) (TK TA tk ta nu fl fk fa dc vl fo tr sk ri ci en kd ag sz td tg ip ey vy bf st dp : Nat → Int32),
  u = (nI n, nI r, nI q, nI R, nI C, tk, ta, nu, fl, fk, fa, dc, vl, fo, tr, sk, ri, ci, en) ∧ v = (nI n, nI r, nI q, nI R, nI C, kd, ag, sz, nu, td, tg, ip, ey, vy, bf, st, dp) ∧
  re_T n TK TA tk ta td tg ∧ re_I r q ri ci ip ∧ re_E R C en ey ∧ re_S L K A nu fl fk fa dc vl sz kd ag
theorem re_mk {k n r q R C : Nat} {L : Nat → Nat} {K A : Nat → Nat → Int32} {TK TA tk ta nu fl fk fa dc vl fo tr sk ri ci en kd ag sz td tg ip ey vy bf st dp : Nat → Int32}
    (g1 : re_T n TK TA tk ta td tg) (g2 : re_I r q ri ci ip) (g3 : re_E R C en ey) (g4 : re_S L K A nu fl fk fa dc vl sz kd ag) :
    i_Rel k (nI n, nI r, nI q, nI R, nI C, tk, ta, nu, fl, fk, fa, dc, vl, fo, tr, sk, ri, ci, en) (nI n, nI r, nI q, nI R, nI C, kd, ag, sz, nu, td, tg, ip, ey, vy, bf, st, dp) := ⟨n, r, q, R, C, L, K, A, TK, TA, tk, ta, nu, fl, fk, fa, dc, vl, fo, tr, sk, ri, ci, en, kd, ag, sz, td, tg, ip, ey, vy, bf, st, dp, rfl, rfl, g1, g2, g3, g4⟩
theorem re_T0 (tk ta td tg : Nat → Int32) : re_T 0 tk ta tk ta td tg := ⟨Nat.zero_le 8, fun t z => absurd z (Nat.not_lt_zero t)⟩
theorem re_I0 (ri ci ip : Nat → Int32) : re_I 0 0 ri ci ip := ⟨Nat.zero_le 4, Nat.zero_le 4, fun t z => absurd z (Nat.not_lt_zero t), fun t z => absurd z (Nat.not_lt_zero t)⟩
theorem re_E0 (en ey : Nat → Int32) : re_E 0 0 en ey := ⟨Nat.zero_le 4, Nat.zero_le 4, fun t _ z _ => absurd z (Nat.not_lt_zero t)⟩
theorem i_up {k : Nat} {u : SX} {v : SY} (h : i_Rel k u v) : i_Rel (k + 4) u v := h
theorem re_D0 {K A : Nat → Nat → Int32} {c a : Nat} (h : sh_D (fun _ => 0) K A c a) : False := by
  obtain ⟨_, _, t, z, _⟩ := h
  exact Nat.not_lt_zero t z
theorem i_vc0 : wpX_init (fun u => wpY_init (fun v => i_Rel 0 u v)) := by
  refine re_mk (k := 0) (n := 0) (r := 0) (q := 0) (R := 0) (C := 0) (L := fun _ => 0) (K := fun _ _ => 0) (A := fun _ _ => 0) (re_T0 _ _ _ _) (re_I0 _ _ _) (re_E0 _ _) ⟨?_, ?_, ?_, ?_, ?_, ?_⟩
  · exact fun c _ => ⟨Nat.zero_le 8, fun t z => absurd z (Nat.not_lt_zero t), Or.inl rfl⟩
  · exact fun c _ => ⟨rfl, fun t z => absurd z (Nat.not_lt_zero t)⟩
  · exact fun c _ => ⟨rfl, fun t z => absurd z (Nat.not_lt_zero t)⟩
  · intro c h
    obtain ⟨a, ha, _⟩ := gr_head h
    exact re_D0 ha
  · intro c _ i _
    rw [b_0]
    exact ⟨fun z => absurd z (by decide), fun z => (re_D0 z).elim⟩
  · intro c _
    show (0 : Int32) = sh_F (fun _ => 0) (fun _ _ => 0) (fun _ _ => 0) (fun _ => 0) c (so_it (sh_F (fun _ => 0) (fun _ _ => 0) (fun _ _ => 0) (fun _ => 0)) 15)
    unfold sh_F
    rw [if_pos rfl]
section
variable {xn xr xc xR xC : Int32} {tk ta nu fl fk fa dc vl fo tr sk ri ci en : Nat → Int32}
variable {yn yr yc yR yC : Int32} {kd ag sz nb td tg ip ey vy bf st dp : Nat → Int32}
theorem re_not7 {x : Int32} (h : nI 8 ≤ x) : ¬ x ≤ 7 := fun z => absurd (Int32.le_trans h z) (by decide)
theorem xa_tok {post : Int32 → SX → Prop} {m : Nat} {y : Int32} (hm : m < 8) (hv : m = 1 → ∃ b, b < 16 ∧ y = nI b) (H : wX_token_28 post (nI m) y xn xr xc xR xC tk ta nu fl fk fa dc vl fo tr sk ri ci en) : wpX_token post (xn, xr, xc, xR, xC, tk, ta, nu, fl, fk, fa, dc, vl, fo, tr, sk, ri, ci, en) (nI m) y := by
  refine br_f (nI_pos (by omega)) (br_t (nI_le (b := 7) (by omega) (by decide)) (br_c (fun e => ?_) (fun e => H)))
  obtain ⟨b, hb, eb⟩ := hv ((nI_eq (b := 1) (by omega) (by decide)).mp e)
  rw [eb] at H ⊢
  exact xa_cellT hb (br_f (by decide) H)
theorem ya_tok {post : Int32 → SY → Prop} {m : Nat} {y : Int32} (hm : m < 8) (hv : m = 1 → ∃ b, b < 16 ∧ y = nI b) (H : wY_token_26 post (nI m) y yn yr yc yR yC kd ag sz nb td tg ip ey vy bf st dp) : wpY_token post (yn, yr, yc, yR, yC, kd, ag, sz, nb, td, tg, ip, ey, vy, bf, st, dp) (nI m) y := by
  refine br_f (nI_pos (by omega)) (br_f (nI_nlt (a := 7) (by omega) (by omega)) (br_c (fun e => ?_) (fun e => H)))
  obtain ⟨b, hb, eb⟩ := hv ((nI_eq (b := 1) (by omega) (by decide)).mp e)
  rw [eb] at H ⊢
  exact ya_badF hb (br_t rfl H)
end
theorem re_Tput {n : Nat} {TK TA tk ta td tg : Nat → Int32} {x y : Int32} (g : re_T n TK TA tk ta td tg) (hn : n < 8) (hv : sh_tok x y) : re_T (n + 1) (upd TK n x) (upd TA n y) (upd tk n x) (upd ta n y) (upd td n x) (upd tg n y) := by
  refine ⟨by omega, fun t ht => ?_⟩
  by_cases e : t = n
  · subst e
    rw [pk_us, pk_us, pk_us, pk_us, pk_us, pk_us]
    exact ⟨rfl, rfl, rfl, rfl, hv⟩
  · rw [pk_un e, pk_un e, pk_un e, pk_un e, pk_un e, pk_un e]
    exact g.2 t (by omega)
theorem i_vc_token {k : Nat} {u : SX} {v : SY} (I : i_Rel k u v) (hk : k + 4 ≤ 2048) (v1 : Int32) (v2 : Int32) : wpX_token (fun r u' => wpY_token (fun r' v' => r' = r ∧ i_Rel (k + 4) u' v') v v1 v2) u v1 v2 := by
  obtain ⟨n, r, q, R, C, L, K, A, TK, TA, tk, ta, nu, fl, fk, fa, dc, vl, fo, tr, sk, ri, ci, en, kd, ag, sz, td, tg, ip, ey, vy, bf, st, dp, rfl, rfl, g1, g2, g3, g4⟩ := I
  have hn := g1.1
  by_cases h0 : v1 < 0
  · exact br_t h0 (br_t h0 ⟨rfl, re_mk g1 g2 g3 g4⟩)
  rcases pk_ix v1 (n := 8) (by decide) with h | h | ⟨m, hm, rfl⟩
  · exact absurd h h0
  · exact br_f h0 (br_f (re_not7 h) (br_f h0 (br_t (Int32.not_le.mp (re_not7 h)) ⟨rfl, re_mk g1 g2 g3 g4⟩)))
  by_cases hv : m = 1 → ∃ b, b < 16 ∧ v2 = nI b
  · refine xa_tok hm hv (pk_lt n 8 (fun hlt => ?_) (fun hge => ?_))
    · have ec : (nI n).toNatClampNeg = n := nI_clamp (by omega)
      have hin : vp_in (nI n) 8 := vp_in_nI hlt (by omega)
      have n8 : ¬ nI n = 8 := fun z => absurd ((nI_eq (b := 8) (by omega) (by decide)).mp z) (by omega)
      refine ⟨hin, nm_r (by rw [ec]) ⟨hin, nm_r (by rw [ec]) (nm_r (nI_1 n) ?_)⟩⟩
      refine ya_tok hm hv (br_f n8 ⟨hin, nm_r (by rw [ec]) ⟨hin, nm_r (by rw [ec]) (nm_r (nI_1 n) ⟨rfl, re_mk (re_Tput g1 hlt ⟨⟨m, hm, rfl⟩, fun z => hv ((nI_eq (b := 1) (by omega) (by decide)).mp z)⟩) g2 g3 g4⟩)⟩⟩)
    · have n8 : n = 8 := by omega
      subst n8
      exact ya_tok hm hv (br_t rfl ⟨rfl, re_mk g1 g2 g3 g4⟩)
  · have m1 : m = 1 := Classical.byContradiction fun z => hv (fun y => absurd y z)
    subst m1
    have nb : v2 < 0 ∨ nI 16 ≤ v2 := by
      rcases pk_ix v2 (n := 16) (by decide) with h | h | ⟨j, hj, rfl⟩
      · exact Or.inl h
      · exact Or.inr h
      · exact absurd (fun _ => ⟨j, hj, rfl⟩) hv
    refine br_f (by decide) (br_t (by decide) (br_t rfl (xa_cellF nb (br_t rfl ?_))))
    exact br_f (by decide) (br_f (by decide) (br_t rfl (ya_badT nb (br_f (by decide) ⟨rfl, re_mk g1 g2 g3 g4⟩))))
theorem i_vc_clearTokens {k : Nat} {u : SX} {v : SY} (I : i_Rel k u v) (hk : k + 4 ≤ 2048) : wpX_clearTokens (fun u' => wpY_clearTokens (fun v' => i_Rel (k + 4) u' v') v) u := by
  obtain ⟨n, r, q, R, C, L, K, A, TK, TA, tk, ta, nu, fl, fk, fa, dc, vl, fo, tr, sk, ri, ci, en, kd, ag, sz, td, tg, ip, ey, vy, bf, st, dp, rfl, rfl, g1, g2, g3, g4⟩ := I
  exact re_mk (k := k + 4) (n := 0) (re_T0 _ _ _ _) g2 g3 g4
theorem i_vc_input {k : Nat} {u : SX} {v : SY} (I : i_Rel k u v) (hk : k + 4 ≤ 2048) (v1 : Int32) (v2 : Int32) : wpX_input (fun r u' => wpY_input (fun r' v' => r' = r ∧ i_Rel (k + 4) u' v') v (lw_bz v1) v2) u (lw_bz v1) v2 := by
  obtain ⟨n, r, q, R, C, L, K, A, TK, TA, tk, ta, nu, fl, fk, fa, dc, vl, fo, tr, sk, ri, ci, en, kd, ag, sz, td, tg, ip, ey, vy, bf, st, dp, rfl, rfl, g1, g2, g3, g4⟩ := I
  obtain ⟨hr, hq, hri, hci⟩ := g2
  generalize lw_bz v1 = p
  by_cases e : p = 0
  · refine br_t e (pk_lt q 4 (fun hlt => ?_) (fun hge => ?_))
    · have ec : (nI q).toNatClampNeg = q := nI_clamp (by omega)
      have hin : vp_in (nI q) 4 := vp_in_nI hlt (by omega)
      have e4 : (4 : Int32) + nI q = nI (4 + q) := nI_add 4 q
      have n4 : ¬ nI q = 4 := fun z => absurd ((nI_eq (b := 4) (by omega) (by decide)).mp z) (by omega)
      refine ⟨hin, nm_r (by rw [ec]) (nm_r (nI_1 q) ?_)⟩
      refine br_t e (br_f n4 (br_t e ⟨by rw [e4]; exact vp_in_nI (by omega) (by omega), nm_r (e' := upd ip (4 + q) v2) (by rw [e4, nI_clamp (by omega)]) (br_t e (nm_r (nI_1 q) ⟨nI_1 q, re_mk g1 ⟨hr, hlt, ?_, ?_⟩ g3 g4⟩))⟩))
      · intro i hi
        rw [pk_un (by omega)]
        exact hri i hi
      · intro j hj
        by_cases e : j = q
        · subst e; rw [pk_us, pk_us]
        · rw [pk_un e, pk_un (by omega)]
          exact hci j (by omega)
    · have n4 : q = 4 := by omega
      subst n4
      exact br_t e (br_t rfl ⟨rfl, re_mk g1 ⟨hr, hq, hri, hci⟩ g3 g4⟩)
  · refine br_f e (pk_lt r 4 (fun hlt => ?_) (fun hge => ?_))
    · have ec : (nI r).toNatClampNeg = r := nI_clamp (by omega)
      have hin : vp_in (nI r) 4 := vp_in_nI hlt (by omega)
      have e4 : (0 : Int32) + nI r = nI (0 + r) := nI_add 0 r
      have n4 : ¬ nI r = 4 := fun z => absurd ((nI_eq (b := 4) (by omega) (by decide)).mp z) (by omega)
      refine ⟨hin, nm_r (by rw [ec]) (nm_r (nI_1 r) ?_)⟩
      refine br_f e (br_f n4 (br_f e ⟨by rw [e4]; exact vp_in_nI (by omega) (by omega), nm_r (e' := upd ip r v2) (by rw [e4, nI_clamp (by omega), Nat.zero_add]) (br_f e (nm_r (nI_1 r) ⟨nI_1 r, re_mk g1 ⟨hlt, hq, ?_, ?_⟩ g3 g4⟩))⟩))
      · intro i hi
        by_cases e : i = r
        · subst e; rw [pk_us, pk_us]
        · rw [pk_un e, pk_un e]
          exact hri i (by omega)
      · intro j hj
        rw [pk_un (by omega)]
        exact hci j hj
    · have n4 : r = 4 := by omega
      subst n4
      exact br_f e (br_t rfl ⟨rfl, re_mk g1 ⟨hr, hq, hri, hci⟩ g3 g4⟩)
theorem i_vc_entry {k : Nat} {u : SX} {v : SY} (I : i_Rel k u v) (hk : k + 4 ≤ 2048) (v1 : Int32) (v2 : Int32) : wpX_entry (fun r => wpY_entry (fun r' => r' = r ∧ i_Rel (k + 4) u v) v v1 v2) u v1 v2 := by
  obtain ⟨n, r, q, R, C, L, K, A, TK, TA, tk, ta, nu, fl, fk, fa, dc, vl, fo, tr, sk, ri, ci, en, kd, ag, sz, td, tg, ip, ey, vy, bf, st, dp, rfl, rfl, g1, g2, g3, g4⟩ := I
  have J : i_Rel (k + 4) _ _ := re_mk (k := k + 4) (fo := fo) (tr := tr) (sk := sk) (vy := vy) (bf := bf) (st := st) (dp := dp) g1 g2 g3 g4
  obtain ⟨hR, hC, he⟩ := g3
  by_cases h0 : v1 < 0
  · exact br_t h0 (br_t h0 ⟨rfl, J⟩)
  rcases pk_ix v1 (n := R) (by omega) with h | h | ⟨i, hi, rfl⟩
  · exact absurd h h0
  · exact br_f h0 (br_t h (br_f h0 (br_t h ⟨rfl, J⟩)))
  have h1 : ¬ nI R ≤ nI i := nI_ge hi (by omega)
  by_cases k0 : v2 < 0
  · exact br_f h0 (br_f h1 (br_t k0 (br_f h0 (br_f h1 (br_t k0 ⟨rfl, J⟩)))))
  rcases pk_ix v2 (n := C) (by omega) with h | h | ⟨j, hj, rfl⟩
  · exact absurd h k0
  · have k1 : ¬ v2 < nI C := Int32.not_lt.mpr h
    exact br_f h0 (br_f h1 (br_f k0 (br_f k1 (br_f h0 (br_f h1 (br_f k0 (br_f k1 ⟨rfl, J⟩)))))))
  have k1 : nI j < nI C := nI_lt hj (by omega)
  have hin : vp_in (nI i * 4 + nI j) 16 := by rw [ya_i4]; exact vp_in_nI (by omega) (by omega)
  have ee : ey (nI i * 4 + nI j).toNatClampNeg = en (nI i * 4 + nI j).toNatClampNeg := by rw [ya_i4, nI_clamp (by omega)]; exact (he i j hi hj).symm
  exact br_f h0 (br_f h1 (br_f k0 (br_t k1 ⟨hin, br_f h0 (br_f h1 (br_f k0 (br_t k1 ⟨hin, ee, J⟩)))⟩)))
theorem i_vc_value {k : Nat} {u : SX} {v : SY} (I : i_Rel k u v) (hk : k + 4 ≤ 2048) (v1 : Int32) : wpX_value (fun r => wpY_value (fun r' v' => r' = r ∧ i_Rel (k + 4) u v') v v1) u v1 := by
  obtain ⟨n, r, q, R, C, L, K, A, TK, TA, tk, ta, nu, fl, fk, fa, dc, vl, fo, tr, sk, ri, ci, en, kd, ag, sz, td, tg, ip, ey, vy, bf, st, dp, rfl, rfl, g1, g2, g3, g4⟩ := I
  unfold wpX_value wpY_value
  have J := fun vy st => re_mk (k := k + 4) (fo := fo) (tr := tr) (sk := sk) (vy := vy) (bf := bf) (st := st) (dp := dp) g1 g2 g3 g4
  obtain ⟨hO, hP, hP', hA, hB, hv⟩ := g4
  rcases pk_ix v1 (n := 16) (by decide) with h | h | ⟨z, hz, rfl⟩
  · exact xa_cellF (Or.inl h) (br_t rfl (ya_badT (Or.inl h) (br_f (by decide) ⟨rfl, J _ _⟩)))
  · exact xa_cellF (Or.inr h) (br_t rfl (ya_badT (Or.inr h) (br_f (by decide) ⟨rfl, J _ _⟩)))
  have ec : (nI z).toNatClampNeg = z := nI_clamp (by omega)
  have hin : vp_in (nI z) 16 := vp_in_nI hz (by omega)
  refine xa_cellT hz (br_f (by decide) ⟨hin, ya_badF hz (br_t rfl (ya_work0 hO hP' hA (fun w s hw => ⟨hin, ?_, J w s⟩)))⟩)
  rw [ec, hw z hz, hv z hz]
theorem i_vc_isFormula {k : Nat} {u : SX} {v : SY} (I : i_Rel k u v) (hk : k + 4 ≤ 2048) (v1 : Int32) : wpX_isFormula (fun r => wpY_isFormula (fun r' => r' = r ∧ i_Rel (k + 4) u v) v v1) u v1 := by
  obtain ⟨n, r, q, R, C, L, K, A, TK, TA, tk, ta, nu, fl, fk, fa, dc, vl, fo, tr, sk, ri, ci, en, kd, ag, sz, td, tg, ip, ey, vy, bf, st, dp, rfl, rfl, g1, g2, g3, g4⟩ := I
  unfold wpX_isFormula wpY_isFormula
  have J := re_mk (k := k + 4) (fo := fo) (tr := tr) (sk := sk) (vy := vy) (bf := bf) (st := st) (dp := dp) g1 g2 g3 g4
  obtain ⟨hO, hP, hP', hA, hB, hv⟩ := g4
  rcases pk_ix v1 (n := 16) (by decide) with h | h | ⟨z, hz, rfl⟩
  · exact xa_cellF (Or.inl h) (br_t rfl (ya_badT (Or.inl h) (br_f (by decide) ⟨rfl, J⟩)))
  · exact xa_cellF (Or.inr h) (br_t rfl (ya_badT (Or.inr h) (br_f (by decide) ⟨rfl, J⟩)))
  have ec : (nI z).toNatClampNeg = z := nI_clamp (by omega)
  have hin : vp_in (nI z) 16 := vp_in_nI hz (by omega)
  have e1 : sz (nI z).toNatClampNeg = fl (nI z).toNatClampNeg := by rw [ec, (hP z hz).1, (hP' z hz).1]
  refine xa_cellT hz (br_f (by decide) ⟨hin, br_c (fun q => ya_badF hz (br_t rfl ⟨hin, br_t (by rw [e1]; exact q) ⟨rfl, J⟩⟩)) (fun q => ya_badF hz (br_t rfl ⟨hin, br_f (by rw [e1]; exact q) ⟨rfl, J⟩⟩))⟩)
section
variable {xn xr xc xR xC : Int32} {tk ta nu fl fk fa dc vl fo tr sk ri ci en : Nat → Int32}
variable {yn yr yc yR yC : Int32} {kd ag sz nb td tg ip ey vy bf st dp : Nat → Int32}
theorem xa_cntD {post : Int32 → Prop} {D : Nat → Nat → Prop} (hA : gr_A D) {z : Nat} (hz : z < 16) {m : Int32} (hm : ∀ i, i < 32 → (bt m i = true ↔ sh_R D z i)) (h : post (nI (gr_cnt (fun c => gr_T D c z) 16))) :
    ∀ d x, x + d = 16 → wX_dependents_20 post (nI z) m xn xr xc xR xC tk ta nu fl fk fa dc vl fo tr sk ri ci en (d + 1) (nI (gr_cnt (fun c => gr_T D c z) x)) (nI x) := by
  intro d
  induction d with
  | zero =>
    intro x hx
    have e : x = 16 := hx
    subst e
    exact br_t (nI_le (Nat.le_refl 16) (by decide)) h
  | succ d ih =>
    intro x hx
    have ih := ih (x + 1) (by omega)
    refine br_f (nI_ge (b := 16) (by omega) (by decide)) (pk_eq x z (fun e => nm_r (nI_1 x) ?_) (fun e => xa_has (by omega) (fun b => br_t rfl (nm_r (nI_1 x) ?_)) (fun b => br_f (by decide) (nm_r (nI_1 _) (nm_r (nI_1 x) ?_)))))
    · subst e
      rw [gr_c0 (P := fun c => gr_T D c x) (hA x)] at ih
      exact ih
    · rw [hm x (by omega)] at b
      rw [gr_c0 (P := fun c => gr_T D c z) (fun t => b (Or.inr t))] at ih
      exact ih
    · rw [hm x (by omega)] at b
      rw [gr_c1 (P := fun c => gr_T D c z) (b.resolve_left e)] at ih
      exact ih
theorem ya_cntD {post : Int32 → SY → Prop} {D : Nat → Nat → Prop} {z : Nat} (hz : z < 16) (hm : ∀ i j, i < 16 → j < 16 → (ya_E dp i j ↔ gr_T D i j)) (h : post (nI (gr_cnt (fun c => gr_T D c z) 16)) (yn, yr, yc, yR, yC, kd, ag, sz, nb, td, tg, ip, ey, vy, bf, st, dp)) :
    ∀ d x, x + d = 16 → wY_dependents_20 post (nI z) 0 yn yr yc yR yC kd ag sz nb td tg ip ey vy bf st dp (d + 1) (nI (gr_cnt (fun c => gr_T D c z) x)) (nI x) := by
  intro d
  induction d with
  | zero =>
    intro x hx
    have e : x = 16 := hx
    subst e
    exact br_t (nI_le (Nat.le_refl 16) (by decide)) h
  | succ d ih =>
    intro x hx
    have ih := ih (x + 1) (by omega)
    have e1 : (nI x * 16 + nI z).toNatClampNeg = x * 16 + z := by rw [ya_i16, nI_clamp (by omega)]
    refine br_f (nI_ge (b := 16) (by omega) (by decide)) (br_t rfl ⟨by rw [ya_i16]; exact vp_in_nI (by omega) (by omega), br_c (fun b => nm_r (nI_1 x) ?_) (fun b => nm_r (nI_1 _) (nm_r (nI_1 x) ?_))⟩)
    · rw [e1] at b
      rw [gr_c0 (P := fun c => gr_T D c z) (fun t => (hm x z (by omega) hz).mpr t b)] at ih
      exact ih
    · rw [e1] at b
      rw [gr_c1 (P := fun c => gr_T D c z) ((hm x z (by omega) hz).mp b)] at ih
      exact ih
end
theorem i_vc_dependents {k : Nat} {u : SX} {v : SY} (I : i_Rel k u v) (hk : k + 4 ≤ 2048) (v1 : Int32) : wpX_dependents (fun r => wpY_dependents (fun r' v' => r' = r ∧ i_Rel (k + 4) u v') v v1) u v1 := by
  obtain ⟨n, r, q, R, C, L, K, A, TK, TA, tk, ta, nu, fl, fk, fa, dc, vl, fo, tr, sk, ri, ci, en, kd, ag, sz, td, tg, ip, ey, vy, bf, st, dp, rfl, rfl, g1, g2, g3, g4⟩ := I
  unfold wpX_dependents wpY_dependents
  have J := fun dp => re_mk (k := k + 4) (fo := fo) (tr := tr) (sk := sk) (vy := vy) (bf := bf) (st := st) (dp := dp) g1 g2 g3 g4
  obtain ⟨hO, hP, hP', hA, hB, hv⟩ := g4
  rcases pk_ix v1 (n := 16) (by decide) with h | h | ⟨z, hz, rfl⟩
  · exact xa_cellF (Or.inl h) (br_t rfl (ya_badT (Or.inl h) (br_f (by decide) ⟨rfl, J _⟩)))
  · exact xa_cellF (Or.inr h) (br_t rfl (ya_badT (Or.inr h) (br_f (by decide) ⟨rfl, J _⟩)))
  refine xa_cellT hz (br_f (by decide) (xa_dep hA sh_dmD hB hz (fun m hm => ⟨17, xa_cntD hA hz hm ?_ 16 0 rfl⟩)))
  refine ya_badF hz (br_t rfl (ya_circ hO hP' (fun dp' hd _ => ⟨17, ya_cntD hz hd ⟨rfl, J dp'⟩ 16 0 rfl⟩) (fun dp' hd n => absurd hA n)))
