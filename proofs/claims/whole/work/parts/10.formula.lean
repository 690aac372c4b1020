/-! the sheet with the tokens TK, TA in cell z -/
def sh_L (L : Nat → Nat) (z n : Nat) : Nat → Nat := fun c => if c = z then n else L c
def sh_K (K : Nat → Nat → Int32) (z : Nat) (TK : Nat → Int32) : Nat → Nat → Int32 := fun c => if c = z then TK else K c
theorem sh_Lz {L : Nat → Nat} {z n : Nat} : sh_L L z n z = n := if_pos rfl
theorem sh_Ln {L : Nat → Nat} {z n c : Nat} (h : c ≠ z) : sh_L L z n c = L c := if_neg h
theorem sh_Kz {K : Nat → Nat → Int32} {z : Nat} {TK : Nat → Int32} : sh_K K z TK z = TK := if_pos rfl
theorem sh_Kn {K : Nat → Nat → Int32} {z : Nat} {TK : Nat → Int32} {c : Nat} (h : c ≠ z) : sh_K K z TK c = K c := if_neg h
section
variable {L : Nat → Nat} {K A : Nat → Nat → Int32} {TK TA : Nat → Int32} {z n : Nat}
theorem sh_OKnew (hO : sh_OK L K A) (hn : n ≤ 8) (hV : ∀ t, t < n → sh_tok (TK t) (TA t)) (hS : sk_S TK n) : sh_OK (sh_L L z n) (sh_K K z TK) (sh_K A z TA) := by
  intro c hc
  by_cases e : c = z
  · subst e
    rw [sh_Lz, sh_Kz, sh_Kz]
    exact ⟨hn, hV, Or.inr hS⟩
  · rw [sh_Ln e, sh_Kn e, sh_Kn e]
    exact hO c hc
theorem sh_Pnew {fl fk fa fk' fa' : Nat → Int32} (hO : sh_OK L K A) (hP : sh_P L K A fl fk fa) (h1 : ∀ t, t < n → fk' (z * 8 + t) = TK t ∧ fa' (z * 8 + t) = TA t)
    (h2 : ∀ i, ¬ (z * 8 ≤ i ∧ i < z * 8 + 8) → fk' i = fk i ∧ fa' i = fa i) : sh_P (sh_L L z n) (sh_K K z TK) (sh_K A z TA) (upd fl z (nI n)) fk' fa' := by
  intro c hc
  by_cases e : c = z
  · subst e
    rw [sh_Lz, sh_Kz, sh_Kz, pk_us]
    exact ⟨rfl, h1⟩
  · rw [sh_Ln e, sh_Kn e, sh_Kn e, pk_un e]
    refine ⟨(hP c hc).1, fun t ht => ?_⟩
    have h8 := (hO c hc).1
    have o := h2 (c * 8 + t) (by omega)
    rw [o.1, o.2]
    exact (hP c hc).2 t ht
theorem sh_Dnew (hz : z < 16) (c a : Nat) : sh_D (sh_L L z n) (sh_K K z TK) (sh_K A z TA) c a ↔ ((c = z ∧ sh_N TK TA n a) ∨ (c ≠ z ∧ sh_D L K A c a)) := by
  by_cases e : c = z
  · subst e
    unfold sh_D sh_N
    rw [sh_Lz, sh_Kz, sh_Kz]
    exact ⟨fun h => Or.inl ⟨rfl, h.2⟩, fun h => h.elim (fun h => ⟨hz, h.2⟩) (fun h => absurd rfl h.1)⟩
  · unfold sh_D
    rw [sh_Ln e, sh_Kn e, sh_Kn e]
    exact ⟨fun h => Or.inr ⟨e, h⟩, fun h => h.elim (fun h => absurd h.1 e) (fun h => h.2)⟩
theorem sh_Anew (hz : z < 16) (hA : gr_A (sh_D L K A)) (h : ∀ a, sh_N TK TA n a → ¬ sh_R (sh_D L K A) z a) : gr_A (sh_D (sh_L L z n) (sh_K K z TK) (sh_K A z TA)) := by
  refine gr_new (z := z) (N := sh_N TK TA n) (fun c a e h => ?_) (fun a h => ?_) hA h
  · rw [sh_Dnew hz] at h
    exact h.elim (fun h => absurd h.1 e) (fun h => h.2)
  · rw [sh_Dnew hz] at h
    exact h.elim (fun h => h.2) (fun h => absurd rfl h.1)
theorem sh_Cnew (hz : z < 16) (h : ∃ a, sh_N TK TA n a ∧ sh_R (sh_D L K A) z a) : ¬ gr_A (sh_D (sh_L L z n) (sh_K K z TK) (sh_K A z TA)) := by
  obtain ⟨a, h1, h2⟩ := h
  intro hA
  refine hA z (gr_circ (D := sh_D L K A) (fun c b e h => ?_) ?_ h2)
  · rw [sh_Dnew hz]
    exact Or.inr ⟨e, h⟩
  · rw [sh_Dnew hz]
    exact Or.inl ⟨rfl, h1⟩
theorem sh_Bnew {dc : Nat → Int32} {m : Int32} (hz : z < 16) (hB : sh_B (sh_D L K A) dc) (hm : ∀ i, i < 32 → (bt m i = true ↔ sh_N TK TA n i)) : sh_B (sh_D (sh_L L z n) (sh_K K z TK) (sh_K A z TA)) (upd dc z m) := by
  intro c hc i hi
  rw [sh_Dnew hz]
  by_cases e : c = z
  · subst e
    rw [pk_us, hm i hi]
    exact ⟨fun h => Or.inl ⟨rfl, h⟩, fun h => h.elim (fun h => h.2) (fun h => absurd rfl h.1)⟩
  · rw [pk_un e, hB c hc i hi]
    exact ⟨fun h => Or.inr ⟨e, h⟩, fun h => h.elim (fun h => absurd h.1 e) (fun h => h.2)⟩
end
section
variable {kd td : Nat → Int32} {z n : Nat}
theorem ya_o_in {TK : Nat → Int32} (hn : n ≤ 8) (h : ∀ t, t < n → td t = TK t) : ∀ t, t < n → ya_o z 8 kd td (z * 8 + t) = TK t := by
  intro t ht
  unfold ya_o
  rw [if_pos (by omega), Nat.add_sub_cancel_left]
  exact h t ht
theorem ya_o_out : ∀ i, ¬ (z * 8 ≤ i ∧ i < z * 8 + 8) → ya_o z 8 kd td i = kd i := fun _ h => if_neg h
end
theorem i_vc_formula {k : Nat} {u : SX} {v : SY} (I : i_Rel k u v) (hk : k + 4 ≤ 2048) (v1 : Int32) : wpX_formula (fun r u' => wpY_formula (fun r' v' => r' = r ∧ i_Rel (k + 4) u' v') v v1) u v1 := by
  obtain ⟨n, r, q, R, C, L, K, A, TK, TA, tk, ta, nu, fl, fk, fa, dc, vl, fo, tr, sk, ri, ci, en, kd, ag, sz, td, tg, ip, ey, vy, bf, st, dp, rfl, rfl, g1, g2, g3, g4⟩ := I
  unfold wpX_formula wpY_formula
  rcases pk_ix v1 (n := 16) (by decide) with h | h | ⟨z, hz, rfl⟩
  · exact xa_cellF (Or.inl h) (br_t rfl (ya_badT (Or.inl h) (br_f (by decide) ⟨rfl, re_mk g1 g2 g3 g4⟩)))
  · exact xa_cellF (Or.inr h) (br_t rfl (ya_badT (Or.inr h) (br_f (by decide) ⟨rfl, re_mk g1 g2 g3 g4⟩)))
  obtain ⟨hn, ht⟩ := g1
  obtain ⟨hO, hP, hP', hA, hB, hv⟩ := g4
  have hX : ∀ t, t < n → tk t = TK t ∧ ta t = TA t := fun t h => ⟨(ht t h).1, (ht t h).2.1⟩
  have hY1 : ∀ t, t < n → td t = TK t := fun t h => (ht t h).2.2.1
  have hY2 : ∀ t, t < n → tg t = TA t := fun t h => (ht t h).2.2.2.1
  have hV : ∀ t, t < n → sh_tok (TK t) (TA t) := fun t h => (ht t h).2.2.2.2
  have P2 : sh_P (sh_L L z n) (sh_K K z TK) (sh_K A z TA) (upd sz z (nI n)) (ya_o z 8 kd td) (ya_o z 8 ag tg) :=
    sh_Pnew hO hP' (fun t h => ⟨ya_o_in hn hY1 t h, ya_o_in hn hY2 t h⟩) (fun i h => ⟨ya_o_out i h, ya_o_out i h⟩)
  refine xa_cellT hz (br_f (by decide) (xa_judge TK TA hn hX hV hA sh_dmD hB hz (fun ns => br_f (by decide) ?_) (fun hs hc => br_f (by decide) ?_) (fun hs hc => br_t rfl ?_)))
  · refine ya_badF hz (br_t rfl (ya_sound TK TA hn hY1 hV (fun hs => absurd hs ns) (fun _ => br_t rfl ⟨rfl, ?_⟩)))
    exact re_mk (k := k + 4) (n := 0) (re_T0 _ _ _ _) g2 g3 ⟨hO, hP, hP', hA, hB, hv⟩
  · have O2 := sh_OKnew (z := z) hO hn hV hs
    refine ya_badF hz (br_t rfl (ya_sound TK TA hn hY1 hV (fun hs => br_f (by decide) ?_) (fun ns => absurd hs ns)))
    refine ya_exch hz (ya_circ O2 P2 (fun dp' _ a => absurd a (sh_Cnew hz hc)) (fun dp' _ _ => br_f (by decide) (ya_exch hz ⟨rfl, ?_⟩)))
    rw [ya_oo, ya_oo, ya_tt, ya_tt, ya_uu]
    exact re_mk (k := k + 4) (n := 0) (re_T0 _ _ _ _) g2 g3 ⟨hO, hP, hP', hA, hB, hv⟩
  · have O2 := sh_OKnew (z := z) hO hn hV hs
    have A2 := sh_Anew hz hA hc
    refine xa_hold TK TA hn hX hV hz (fun m fk' fa' hm f1 f2 => ?_)
    have P1 := sh_Pnew (TK := TK) (TA := TA) hO hP f1 f2
    have B2 := sh_Bnew hz hB hm
    refine xa_out_values (S := so_S (sh_F (sh_L L z n) (sh_K K z TK) (sh_K A z TA) nu)) O2 P1 A2 B2 (fun c hc _ => so_fix (sh_loc O2) A2 sh_dom hc) (fun c _ h => ?_) (fun w s hw => ?_)
    · rw [b_0] at h
      exact absurd h (by decide)
    refine ya_badF hz (br_t rfl (ya_sound TK TA hn hY1 hV (fun hs => br_f (by decide) ?_) (fun ns => absurd hs ns)))
    refine ya_exch hz (ya_circ O2 P2 (fun dp' _ _ => br_t rfl ⟨rfl, ?_⟩) (fun dp' _ a => absurd A2 a))
    exact re_mk (k := k + 4) (n := 0) (re_T0 _ _ _ _) g2 g3 ⟨O2, P1, P2, A2, B2, hw⟩
