def re_Z (Z : Nat → Nat → Int32) (r q i j : Nat) (en : Nat → Int32) : Prop := ∀ i' j', i' < r → j' < q → (i' < i ∨ (i' = i ∧ j' < j)) → en (i' * 4 + j') = Z i' j'
theorem re_Zput {Z : Nat → Nat → Int32} {r q i j : Nat} {en : Nat → Int32} (hq : q ≤ 4) (hj : j < q) (h : re_Z Z r q i j en) : re_Z Z r q i (j + 1) (upd en (i * 4 + j) (Z i j)) := by
  intro i' j' hi' hj' hh
  by_cases e : i' = i ∧ j' = j
  · obtain ⟨e1, e2⟩ := e
    subst e1 e2
    rw [pk_us]
  · rw [pk_un (by omega)]
    exact h i' j' hi' hj' (by omega)
theorem re_Zrow {Z : Nat → Nat → Int32} {r q i : Nat} {en : Nat → Int32} (h : re_Z Z r q i q en) : re_Z Z r q (i + 1) 0 en := by
  intro i' j' hi' hj' hh
  exact h i' j' hi' hj' (by omega)
/-- the entry of row i and column j of the table of cell o over the cells a and b -/
noncomputable def re_z (L : Nat → Nat) (K A : Nat → Nat → Int32) (nu : Nat → Int32) (o a b : Nat) (ri ci : Nat → Int32) (i j : Nat) : Int32 := so_S (sh_G L K A nu a (ri i) b (ci j)) o
section
variable {xn xr xc xR xC : Int32} {tk ta nu fl fk fa dc vl fo tr sk ri ci en : Nat → Int32}
variable {L : Nat → Nat} {K A : Nat → Nat → Int32} {r q o a b : Nat} {g : Int32}
theorem xa_tab68 {post : Int32 → SX → Prop} {J : Int32 → Int32 → Int32 → Int32 → Int32 → Int32 → (Nat → Int32) → (Nat → Int32) → (Nat → Int32) → (Nat → Int32) → (Nat → Int32) → (Nat → Int32) → (Nat → Int32) → (Nat → Int32) → (Nat → Int32) → (Nat → Int32) → (Nat → Int32) → (Nat → Int32) → (Nat → Int32) → (Nat → Int32) → Prop}
    (hO : sh_OK L K A) (hP : sh_P L K A fl fk fa) (hA : gr_A (sh_D L K A)) (hB : sh_B (sh_D L K A) dc) (hr : r ≤ 4) (hq : q ≤ 4) (ho : o < 16) (ha : a < 16) (hb : b < 16) (hab : a ≠ b) (hg : ∀ c, c < 32 → (bt g c = true ↔ (c = a ∨ c = b)))
    {i : Nat} (hi : i < r) (h : ∀ tr sk en, re_Z (re_z L K A nu o a b ri ci) r q (i + 1) 0 en → J (nI (i + 1)) xn xr xc (nI r) (nI q) tk ta nu fl fk fa dc vl fo tr sk ri ci en) :
    ∀ d j, j + d = q → ∀ tr sk en, re_Z (re_z L K A nu o a b ri ci) r q i j en → wX_table_68 post J (nI o) (nI a) (nI b) g (nI i) (d + 1) (nI j) xn xr xc (nI r) (nI q) tk ta nu fl fk fa dc vl fo tr sk ri ci en := by
  intro d
  induction d with
  | zero =>
    intro j hj tr sk en hv
    have e : j = q := hj
    subst e
    exact br_t (nI_le (Nat.le_refl j) (by omega)) (nm_r (nI_1 i) (h tr sk en (re_Zrow hv)))
  | succ d ih =>
    intro j hj tr sk en hv
    have ei : (nI i).toNatClampNeg = i := nI_clamp (by omega)
    have ej : (nI j).toNatClampNeg = j := nI_clamp (by omega)
    have eo : (nI o).toNatClampNeg = o := nI_clamp (by omega)
    have ea : (nI a).toNatClampNeg = a := nI_clamp (by omega)
    have eb : (nI b).toNatClampNeg = b := nI_clamp (by omega)
    refine br_f (nI_ge (by omega) (by omega)) ⟨vp_in_nI (by omega) (by omega), vp_in_nI ha (by omega), nm_r (e' := upd tr a (ri i)) (by rw [ea, ei]) ⟨vp_in_nI (by omega) (by omega), vp_in_nI hb (by omega), nm_r (e' := upd (upd tr a (ri i)) b (ci j)) (by rw [eb, ej]) ?_⟩⟩
    have hfix : ∀ c, c < 16 → so_S (sh_G L K A nu a (ri i) b (ci j)) c = sh_G L K A nu a (ri i) b (ci j) c (so_S (sh_G L K A nu a (ri i) b (ci j))) := fun c hc => so_fix (sh_gloc hO a (ri i) b (ci j)) hA sh_dom hc
    refine xa_out_trialValues (S := so_S (sh_G L K A nu a (ri i) b (ci j))) hO hP hA hB (fun c hc hn => ?_) (fun c hc hy => ?_) (fun w s hw => ?_)
    · rw [hg c (by omega)] at hn
      refine (hfix c hc).trans ?_
      exact (if_neg (fun e => hn (Or.inl e))).trans (if_neg (fun e => hn (Or.inr e)))
    · rw [hg c (by omega)] at hy
      rw [hfix c hc]
      by_cases e : c = b
      · subst e
        rw [pk_us]
        exact ((if_neg (fun e => hab e.symm)).trans (if_pos rfl)).symm
      · have e2 : c = a := hy.resolve_right e
        subst e2
        rw [pk_un e, pk_us]
        exact (if_pos rfl).symm
    · refine ⟨vp_in_nI ho (by omega), by rw [ya_i4]; exact vp_in_nI (by omega) (by omega), nm_r (e' := upd en (i * 4 + j) (re_z L K A nu o a b ri ci i j)) ?_ (nm_r (nI_1 j) (ih (j + 1) (by omega) w s _ (re_Zput hq (by omega) hv)))⟩
      rw [ya_i4, nI_clamp (by omega), eo, hw o ho]
      rfl
theorem xa_table {post : Int32 → SX → Prop} (hO : sh_OK L K A) (hP : sh_P L K A fl fk fa) (hA : gr_A (sh_D L K A)) (hB : sh_B (sh_D L K A) dc) (hr : r ≤ 4) (hq : q ≤ 4) (ho : o < 16) (ha : a < 16) (hb : b < 16) (hab : a ≠ b)
    (h : ∀ tr sk en, (∀ i j, i < r → j < q → en (i * 4 + j) = re_z L K A nu o a b ri ci i j) → post (nI (r * q)) (xn, nI 0, nI 0, nI r, nI q, tk, ta, nu, fl, fk, fa, dc, vl, fo, tr, sk, ri, ci, en)) : wpX_table post (xn, nI r, nI q, xR, xC, tk, ta, nu, fl, fk, fa, dc, vl, fo, tr, sk, ri, ci, en) (nI o) (nI a) (nI b) := by
  have hg : ∀ c, c < 32 → (bt (((1 : Int32) <<< (nI a &&& 31)) ||| ((1 : Int32) <<< (nI b &&& 31))) c = true ↔ (c = a ∨ c = b)) := by
    intro c hc
    rw [bi_or1 (by omega) hc, bi_one (by omega) hc, decide_eq_true_iff]
  have M : ∀ d i, i + d = r → ∀ tr sk en, re_Z (re_z L K A nu o a b ri ci) r q i 0 en → wX_table_56 post (nI o) (nI a) (nI b) (((1 : Int32) <<< (nI a &&& 31)) ||| ((1 : Int32) <<< (nI b &&& 31))) (d + 1) (nI i) xn (nI r) (nI q) (nI r) (nI q) tk ta nu fl fk fa dc vl fo tr sk ri ci en := by
    intro d
    induction d with
    | zero =>
      intro i hi tr sk en hv
      have e : i = r := hi
      subst e
      refine br_t (nI_le (Nat.le_refl i) (by omega)) ?_
      rw [pk_mul]
      exact h tr sk en (fun i' j' h1 h2 => hv i' j' h1 h2 (Or.inl h1))
    | succ d ih =>
      intro i hi tr sk en hv
      exact br_f (nI_ge (by omega) (by omega)) ⟨q + 1, xa_tab68 hO hP hA hB hr hq ho ha hb hab hg (by omega) (fun tr' sk' en' h' => ih (i + 1) (by omega) tr' sk' en' h') q 0 (Nat.zero_add q) tr sk en hv⟩
  have nab : ¬ nI a = nI b := fun e => hab ((nI_eq (by omega) (by omega)).mp e)
  unfold wpX_table
  refine xa_cellT ho (br_f (by decide) (xa_cellT ha (br_f (by decide) (xa_cellT hb (br_f (by decide) (br_f nab (nm_e ⟨r + 1, M r 0 (Nat.zero_add r) tr sk en ?_⟩)))))))
  intro i' j' _ _ z
  omega
end
section
variable {yn yr yc yR yC : Int32} {kd ag sz nb td tg ip ey vy bf st dp : Nat → Int32}
variable {L : Nat → Nat} {K A : Nat → Nat → Int32} {r q o a b : Nat} {ri ci : Nat → Int32}
theorem ya_tab46 {post : Int32 → SY → Prop} {J : Int32 → Int32 → Int32 → Int32 → Int32 → Int32 → (Nat → Int32) → (Nat → Int32) → (Nat → Int32) → (Nat → Int32) → (Nat → Int32) → (Nat → Int32) → (Nat → Int32) → (Nat → Int32) → (Nat → Int32) → (Nat → Int32) → (Nat → Int32) → (Nat → Int32) → Prop}
    (hO : sh_OK L K A) (hP : sh_P L K A sz kd ag) (hA : gr_A (sh_D L K A)) (hr : r ≤ 4) (hq : q ≤ 4) (ho : o < 16) (ha : a < 16) (hb : b < 16) (hri : ∀ i, i < r → ri i = ip i) (hci : ∀ j, j < q → ci j = ip (4 + j))
    {i : Nat} (hi : i < r) (h : ∀ vy st ey, re_Z (re_z L K A nb o a b ri ci) r q (i + 1) 0 ey → J (nI (i + 1)) yn (nI r) (nI q) yR yC kd ag sz nb td tg ip ey vy bf st dp) :
    ∀ d j, j + d = q → ∀ vy st ey, re_Z (re_z L K A nb o a b ri ci) r q i j ey → wY_table_46 post J (nI o) (nI a) (nI b) (nI i) (d + 1) (nI j) yn (nI r) (nI q) yR yC kd ag sz nb td tg ip ey vy bf st dp := by
  intro d
  induction d with
  | zero =>
    intro j hj vy st ey hv
    have e : j = q := hj
    subst e
    exact br_t (nI_le (Nat.le_refl j) (by omega)) (nm_r (nI_1 i) (h vy st ey (re_Zrow hv)))
  | succ d ih =>
    intro j hj vy st ey hv
    have ei : (nI i).toNatClampNeg = i := nI_clamp (by omega)
    have e4 : (4 : Int32) + nI j = nI (4 + j) := nI_add 4 j
    have ej : ((4 : Int32) + nI j).toNatClampNeg = 4 + j := by rw [e4, nI_clamp (by omega)]
    have eo : (nI o).toNatClampNeg = o := nI_clamp (by omega)
    refine br_f (nI_ge (by omega) (by omega)) ⟨vp_in_nI (by omega) (by omega), by rw [e4]; exact vp_in_nI (by omega) (by omega), ya_workG hO hP hA ha hb (fun w s hw => ?_)⟩
    refine ⟨vp_in_nI ho (by omega), by rw [ya_i4]; exact vp_in_nI (by omega) (by omega), nm_r (e' := upd ey (i * 4 + j) (re_z L K A nb o a b ri ci i j)) ?_ (nm_r (nI_1 j) (ih (j + 1) (by omega) w s _ (re_Zput hq (by omega) hv)))⟩
    rw [ya_i4, nI_clamp (by omega), eo, hw o ho, ei, ej, ← hri i hi, ← hci j (by omega)]
    rfl
theorem ya_table {post : Int32 → SY → Prop} (hO : sh_OK L K A) (hP : sh_P L K A sz kd ag) (hA : gr_A (sh_D L K A)) (hr : r ≤ 4) (hq : q ≤ 4) (ho : o < 16) (ha : a < 16) (hb : b < 16) (hab : a ≠ b) (hri : ∀ i, i < r → ri i = ip i) (hci : ∀ j, j < q → ci j = ip (4 + j))
    (h : ∀ vy st ey, (∀ i j, i < r → j < q → ey (i * 4 + j) = re_z L K A nb o a b ri ci i j) → post (nI (r * q)) (yn, nI 0, nI 0, nI r, nI q, kd, ag, sz, nb, td, tg, ip, ey, vy, bf, st, dp)) : wpY_table post (yn, nI r, nI q, yR, yC, kd, ag, sz, nb, td, tg, ip, ey, vy, bf, st, dp) (nI o) (nI a) (nI b) := by
  have M : ∀ d i, i + d = r → ∀ vy st ey, re_Z (re_z L K A nb o a b ri ci) r q i 0 ey → wY_table_34 post (nI o) (nI a) (nI b) (d + 1) (nI i) yn (nI r) (nI q) yR yC kd ag sz nb td tg ip ey vy bf st dp := by
    intro d
    induction d with
    | zero =>
      intro i hi vy st ey hv
      have e : i = r := hi
      subst e
      refine br_t (nI_le (Nat.le_refl i) (by omega)) ?_
      rw [pk_mul]
      exact h vy st ey (fun i' j' h1 h2 => hv i' j' h1 h2 (Or.inl h1))
    | succ d ih =>
      intro i hi vy st ey hv
      exact br_f (nI_ge (by omega) (by omega)) ⟨q + 1, ya_tab46 hO hP hA hr hq ho ha hb hri hci (by omega) (fun vy' st' ey' h' => ih (i + 1) (by omega) vy' st' ey' h') q 0 (Nat.zero_add q) vy st ey hv⟩
  have nab : ¬ nI a = nI b := fun e => hab ((nI_eq (by omega) (by omega)).mp e)
  unfold wpY_table
  refine ya_badF ho (br_t rfl (ya_badF ha (br_t rfl (ya_badF hb (br_t rfl (br_f nab ⟨r + 1, M r 0 (Nat.zero_add r) vy st ey ?_⟩))))))
  intro i' j' _ _ z
  omega
end
theorem re_cell (x : Int32) : (x < 0 ∨ nI 16 ≤ x) ∨ ∃ j, j < 16 ∧ x = nI j := by
  rcases pk_ix x (n := 16) (by decide) with h | h | h
  · exact Or.inl (Or.inl h)
  · exact Or.inl (Or.inr h)
  · exact Or.inr h
theorem i_vc_table {k : Nat} {u : SX} {v : SY} (I : i_Rel k u v) (hk : k + 4 ≤ 2048) (v1 : Int32) (v2 : Int32) (v3 : Int32) : wpX_table (fun r u' => wpY_table (fun r' v' => r' = r ∧ i_Rel (k + 4) u' v') v v1 v2 v3) u v1 v2 v3 := by
  obtain ⟨n, r, q, R, C, L, K, A, TK, TA, tk, ta, nu, fl, fk, fa, dc, vl, fo, tr, sk, ri, ci, en, kd, ag, sz, td, tg, ip, ey, vy, bf, st, dp, rfl, rfl, g1, g2, g3, g4⟩ := I
  have J : i_Rel (k + 4) _ _ := re_mk (k := k + 4) (fo := fo) (tr := tr) (sk := sk) (vy := vy) (bf := bf) (st := st) (dp := dp) g1 g2 g3 g4
  obtain ⟨hO, hP, hP', hA, hB, hv⟩ := g4
  obtain ⟨hr, hq, hri, hci⟩ := g2
  rcases re_cell v1 with h1 | ⟨o, ho, rfl⟩
  · unfold wpX_table wpY_table
    exact xa_cellF h1 (br_t rfl (ya_badT h1 (br_f (by decide) ⟨rfl, J⟩)))
  rcases re_cell v2 with h2 | ⟨a, ha, rfl⟩
  · unfold wpX_table wpY_table
    exact xa_cellT ho (br_f (by decide) (xa_cellF h2 (br_t rfl (ya_badF ho (br_t rfl (ya_badT h2 (br_f (by decide) ⟨rfl, J⟩)))))))
  rcases re_cell v3 with h3 | ⟨b, hb, rfl⟩
  · unfold wpX_table wpY_table
    exact xa_cellT ho (br_f (by decide) (xa_cellT ha (br_f (by decide) (xa_cellF h3 (br_t rfl (ya_badF ho (br_t rfl (ya_badF ha (br_t rfl (ya_badT h3 (br_f (by decide) ⟨rfl, J⟩)))))))))))
  by_cases e : a = b
  · subst e
    unfold wpX_table wpY_table
    exact xa_cellT ho (br_f (by decide) (xa_cellT ha (br_f (by decide) (xa_cellT ha (br_f (by decide) (br_t rfl (ya_badF ho (br_t rfl (ya_badF ha (br_t rfl (ya_badF ha (br_t rfl (br_t rfl ⟨rfl, J⟩)))))))))))))
  · refine xa_table hO hP hA hB hr hq ho ha hb e (fun tr' sk' en' he => ?_)
    refine ya_table hO hP' hA hr hq ho ha hb e hri hci (fun vy' st' ey' he' => ⟨rfl, ?_⟩)
    exact re_mk (k := k + 4) (r := 0) (q := 0) g1 (re_I0 _ _ _) ⟨hr, hq, fun i j h1 h2 => (he i j h1 h2).trans (he' i j h1 h2).symm⟩ ⟨hO, hP, hP', hA, hB, hv⟩
