section
variable {L : Nat → Nat} {K A : Nat → Nat → Int32} {z : Nat}
theorem sh_OKz (hO : sh_OK L K A) : sh_OK (sh_L L z 0) K A := by
  intro c hc
  by_cases e : c = z
  · subst e
    rw [sh_Lz]
    exact ⟨Nat.zero_le 8, fun t h => absurd h (Nat.not_lt_zero t), Or.inl rfl⟩
  · rw [sh_Ln e]
    exact hO c hc
theorem sh_Pz {fl fk fa : Nat → Int32} (hP : sh_P L K A fl fk fa) : sh_P (sh_L L z 0) K A (upd fl z 0) fk fa := by
  intro c hc
  by_cases e : c = z
  · subst e
    rw [sh_Lz, pk_us]
    exact ⟨rfl, fun t h => absurd h (Nat.not_lt_zero t)⟩
  · rw [sh_Ln e, pk_un e]
    exact hP c hc
theorem sh_Dz (c a : Nat) : sh_D (sh_L L z 0) K A c a ↔ (c ≠ z ∧ sh_D L K A c a) := by
  unfold sh_D
  by_cases e : c = z
  · subst e
    rw [sh_Lz]
    exact ⟨fun ⟨_, _, t, h, _⟩ => absurd h (Nat.not_lt_zero t), fun h => absurd rfl h.1⟩
  · rw [sh_Ln e]
    exact ⟨fun h => ⟨e, h⟩, fun h => h.2⟩
theorem sh_Az (hA : gr_A (sh_D L K A)) : gr_A (sh_D (sh_L L z 0) K A) := by
  have key : ∀ x y, gr_T (sh_D (sh_L L z 0) K A) x y → gr_T (sh_D L K A) x y := by
    intro x y h
    induction h with
    | single h => exact Relation.TransGen.single ((sh_Dz _ _).mp h).2
    | tail _ h2 ih => exact Relation.TransGen.tail ih ((sh_Dz _ _).mp h2).2
  exact fun c h => hA c (key c c h)
theorem sh_Bz {dc : Nat → Int32} (hB : sh_B (sh_D L K A) dc) : sh_B (sh_D (sh_L L z 0) K A) (upd dc z 0) := by
  intro c hc i hi
  rw [sh_Dz]
  by_cases e : c = z
  · subst e
    rw [pk_us, b_0]
    exact ⟨fun h => absurd h (by decide), fun h => absurd rfl h.1⟩
  · rw [pk_un e, hB c hc i hi]
    exact ⟨fun h => ⟨e, h⟩, fun h => h.2⟩
end
section
variable {xn xr xc xR xC : Int32} {tk ta nu fl fk fa dc vl fo tr sk ri ci en : Nat → Int32}
variable {yn yr yc yR yC : Int32} {kd ag sz nb td tg ip ey vy bf st dp : Nat → Int32}
theorem xa_num {post : Int32 → SX → Prop} {z : Nat} {y : Int32} (hz : z < 16)
    (h : ∀ fo', (∀ c, c < 16 → fo' c = vl c) → wpX_workOutCells__values (fun u => match u with | (xn, xr, xc, xR, xC, tk, ta, nu, fl, fk, fa, dc, vl, fo, tr, sk, ri, ci, en) => (wpX_countChangedValues (fun r => (post r (xn, xr, xc, xR, xC, tk, ta, nu, fl, fk, fa, dc, vl, fo, tr, sk, ri, ci, en))) (xn, xr, xc, xR, xC, tk, ta, nu, fl, fk, fa, dc, vl, fo, tr, sk, ri, ci, en))) (xn, xr, xc, xR, xC, tk, ta, upd nu z y, upd fl z 0, fk, fa, upd dc z 0, vl, fo', tr, sk, ri, ci, en) 0) :
    ∀ d x, x + d = 16 → ∀ fo', (∀ c, c < x → fo' c = vl c) → wX_number_11 post (nI z) y xn xr xc xR xC (d + 1) (nI x) tk ta nu fl fk fa dc vl fo' tr sk ri ci en := by
  have ecz : (nI z).toNatClampNeg = z := nI_clamp (by omega)
  have hinz : vp_in (nI z) 16 := vp_in_nI hz (by omega)
  intro d
  induction d with
  | zero =>
    intro x hx fo' hf
    have e : x = 16 := hx
    subst e
    exact br_t (nI_le (Nat.le_refl 16) (by decide)) ⟨hinz, nm_r (by rw [ecz]) ⟨hinz, nm_r (by rw [ecz]) ⟨hinz, nm_r (by rw [ecz]) (h fo' hf)⟩⟩⟩
  | succ d ih =>
    intro x hx fo' hf
    have ec : (nI x).toNatClampNeg = x := nI_clamp (by omega)
    have hin : vp_in (nI x) 16 := vp_in_nI (by omega) (by omega)
    refine br_f (nI_ge (b := 16) (by omega) (by decide)) ⟨hin, hin, nm_r (e' := upd fo' x (vl x)) (by rw [ec]) (nm_r (nI_1 x) (ih (x + 1) (by omega) _ ?_))⟩
    intro c hc
    by_cases e : c = x
    · subst e; rw [pk_us]
    · rw [pk_un e]; exact hf c (by omega)
theorem ya_cntN {post : Int32 → SY → Prop} (h : post (nI (gr_cnt (fun c => bf c ≠ vy c) 16)) (yn, yr, yc, yR, yC, kd, ag, sz, nb, td, tg, ip, ey, vy, bf, st, dp)) :
    ∀ d x, x + d = 16 → wY_number_71 post yn yr yc yR yC kd ag sz nb td tg ip ey vy bf st dp (d + 1) (nI (gr_cnt (fun c => bf c ≠ vy c) x)) (nI x) := by
  intro d
  induction d with
  | zero =>
    intro x hx
    have e : x = 16 := hx
    subst e
    exact br_t (nI_le (Nat.le_refl 16) (by decide)) h
  | succ d ih =>
    intro x hx
    have ec : (nI x).toNatClampNeg = x := nI_clamp (by omega)
    have hin : vp_in (nI x) 16 := vp_in_nI (by omega) (by omega)
    have ih := ih (x + 1) (by omega)
    refine br_f (nI_ge (b := 16) (by omega) (by decide)) ⟨hin, hin, br_c (fun q => nm_r (nI_1 x) ?_) (fun q => nm_r (nI_1 _) (nm_r (nI_1 x) ?_))⟩
    · rw [ec] at q
      rw [gr_c0 (P := fun c => bf c ≠ vy c) (fun n => n q)] at ih
      exact ih
    · rw [ec] at q
      rw [gr_c1 (P := fun c => bf c ≠ vy c) q] at ih
      exact ih
theorem ya_num {post : Int32 → SY → Prop} {z : Nat} {y : Int32} (hz : z < 16)
    (h : ∀ bf', (∀ c, c < 16 → bf' c = vy c) → wpY_work (fun u => match u with | (yn, yr, yc, yR, yC, kd, ag, sz, nb, td, tg, ip, ey, vy, bf, st, dp) => (∃ n71 : Nat, wY_number_71 post yn yr yc yR yC kd ag sz nb td tg ip ey vy bf st dp n71 0 0)) (yn, yr, yc, yR, yC, kd, ag, upd sz z 0, upd nb z y, td, tg, ip, ey, vy, bf', st, dp) (-1) 0 (-1) 0) :
    ∀ d x, x + d = 16 → ∀ bf', (∀ c, c < x → bf' c = vy c) → wY_number_20 post (nI z) y yn yr yc yR yC (d + 1) (nI x) kd ag sz nb td tg ip ey vy bf' st dp := by
  have ecz : (nI z).toNatClampNeg = z := nI_clamp (by omega)
  have hinz : vp_in (nI z) 16 := vp_in_nI hz (by omega)
  intro d
  induction d with
  | zero =>
    intro x hx bf' hf
    have e : x = 16 := hx
    subst e
    exact br_t (nI_le (Nat.le_refl 16) (by decide)) ⟨hinz, nm_r (by rw [ecz]) ⟨hinz, nm_r (by rw [ecz]) (h bf' hf)⟩⟩
  | succ d ih =>
    intro x hx bf' hf
    have ec : (nI x).toNatClampNeg = x := nI_clamp (by omega)
    have hin : vp_in (nI x) 16 := vp_in_nI (by omega) (by omega)
    refine br_f (nI_ge (b := 16) (by omega) (by decide)) ⟨hin, hin, nm_r (e' := upd bf' x (vy x)) (by rw [ec]) (nm_r (nI_1 x) (ih (x + 1) (by omega) _ ?_))⟩
    intro c hc
    by_cases e : c = x
    · subst e; rw [pk_us]
    · rw [pk_un e]; exact hf c (by omega)
end
theorem i_vc_number {k : Nat} {u : SX} {v : SY} (I : i_Rel k u v) (hk : k + 4 ≤ 2048) (v1 : Int32) (v2 : Int32) : wpX_number (fun r u' => wpY_number (fun r' v' => r' = r ∧ i_Rel (k + 4) u' v') v v1 v2) u v1 v2 := by
  obtain ⟨n, r, q, R, C, L, K, A, TK, TA, tk, ta, nu, fl, fk, fa, dc, vl, fo, tr, sk, ri, ci, en, kd, ag, sz, td, tg, ip, ey, vy, bf, st, dp, rfl, rfl, g1, g2, g3, g4⟩ := I
  unfold wpX_number wpY_number
  rcases pk_ix v1 (n := 16) (by decide) with h | h | ⟨z, hz, rfl⟩
  · exact xa_cellF (Or.inl h) (br_t rfl (ya_badT (Or.inl h) (br_f (by decide) ⟨rfl, re_mk g1 g2 g3 g4⟩)))
  · exact xa_cellF (Or.inr h) (br_t rfl (ya_badT (Or.inr h) (br_f (by decide) ⟨rfl, re_mk g1 g2 g3 g4⟩)))
  obtain ⟨hO, hP, hP', hA, hB, hv⟩ := g4
  have O2 : sh_OK (sh_L L z 0) K A := sh_OKz hO
  have A2 : gr_A (sh_D (sh_L L z 0) K A) := sh_Az hA
  refine xa_cellT hz (br_f (by decide) ⟨17, xa_num hz (fun fo' hf => ?_) 16 0 rfl fo (fun c z => absurd z (Nat.not_lt_zero c))⟩)
  refine xa_out_values (S := so_S (sh_F (sh_L L z 0) K A (upd nu z v2))) O2 (sh_Pz hP) A2 (sh_Bz hB) (fun c hc _ => so_fix (sh_loc O2) A2 sh_dom hc) (fun c _ h => ?_) (fun w s hw => ?_)
  · rw [b_0] at h
    exact absurd h (by decide)
  refine xa_chg ?_
  refine ya_badF hz (br_t rfl (ya_work0 hO hP' hA (fun w1 s1 hw1 => ⟨17, ya_num hz (fun bf' hb => ?_) 16 0 rfl bf (fun c z => absurd z (Nat.not_lt_zero c))⟩)))
  refine ya_work0 O2 (sh_Pz hP') A2 (fun w2 s2 hw2 => ⟨17, ya_cntN ⟨?_, ?_⟩ 16 0 rfl⟩)
  · congr 1
    refine gr_congr 16 (fun c hc => ?_)
    rw [hb c hc, hw1 c hc, hw2 c hc, hw c hc, hf c hc, hv c hc]
    exact ne_comm
  · exact re_mk (k := k + 4) g1 g2 g3 ⟨O2, sh_Pz hP, sh_Pz hP', A2, sh_Bz hB, hw⟩
