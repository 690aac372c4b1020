def ya_E (dp : Nat → Int32) (a b : Nat) : Prop := dp (a * 16 + b) ≠ 0
theorem ya_Eput {dp : Nat → Int32} {a b i j : Nat} (hb : b < 16) (hj : j < 16) : ya_E (upd dp (a * 16 + b) 1) i j ↔ (ya_E dp i j ∨ (i = a ∧ j = b)) := by
  unfold ya_E
  by_cases e : i = a ∧ j = b
  · obtain ⟨e1, e2⟩ := e
    subst e1 e2
    rw [pk_us]
    exact ⟨fun _ => Or.inr ⟨rfl, rfl⟩, fun _ => by decide⟩
  · rw [pk_un (by omega)]
    exact ⟨Or.inl, fun z => z.resolve_right e⟩
def ya_V (D : Nat → Nat → Prop) (dp0 : Nat → Int32) (k a b : Nat) (dp : Nat → Int32) : Prop :=
  (∀ i j, i < 16 → j < 16 → ya_E dp i j → gr_T D i j) ∧ (∀ i j, i < 16 → j < 16 → ya_E dp0 i j → ya_E dp i j) ∧
  (∀ i j, i < 16 → j < 16 → (i < a ∨ (i = a ∧ j < b)) → ya_E dp0 i k → ya_E dp0 k j → ya_E dp i j)
theorem ya_Vskip {D : Nat → Nat → Prop} {dp0 dp : Nat → Int32} {k a b : Nat} (h : ya_V D dp0 k a b dp) (hn : ¬ (ya_E dp0 a k ∧ ya_E dp0 k b)) : ya_V D dp0 k a (b + 1) dp := by
  refine ⟨h.1, h.2.1, ?_⟩
  intro i j hi hj hij h1 h2
  by_cases e : i = a ∧ j = b
  · obtain ⟨e1, e2⟩ := e
    subst e1 e2
    exact absurd ⟨h1, h2⟩ hn
  · exact h.2.2 i j hi hj (by omega) h1 h2
theorem ya_Vput {D : Nat → Nat → Prop} {dp0 dp : Nat → Int32} {k a b : Nat} (hk : k < 16) (ha : a < 16) (hb : b < 16) (h : ya_V D dp0 k a b dp) (h1 : ya_E dp a k) (h2 : ya_E dp k b) : ya_V D dp0 k a (b + 1) (upd dp (a * 16 + b) 1) := by
  refine ⟨?_, ?_, ?_⟩
  · intro i j hi hj he
    rw [ya_Eput hb hj] at he
    rcases he with he | ⟨e1, e2⟩
    · exact h.1 i j hi hj he
    · subst e1 e2
      exact Relation.TransGen.trans (h.1 i k hi hk h1) (h.1 k j hk hj h2)
  · intro i j hi hj he
    rw [ya_Eput hb hj]
    exact Or.inl (h.2.1 i j hi hj he)
  · intro i j hi hj hij g1 g2
    rw [ya_Eput hb hj]
    by_cases e : i = a ∧ j = b
    · exact Or.inr e
    · exact Or.inl (h.2.2 i j hi hj (by omega) g1 g2)
section
variable {yn yr yc yR yC : Int32} {kd ag sz nb td tg ip ey vy bf st dp : Nat → Int32}
theorem ya_over10 {post : SY → Prop} {J : Int32 → (Nat → Int32) → (Nat → Int32) → (Nat → Int32) → (Nat → Int32) → (Nat → Int32) → (Nat → Int32) → (Nat → Int32) → (Nat → Int32) → (Nat → Int32) → (Nat → Int32) → (Nat → Int32) → (Nat → Int32) → Prop}
    {D : Nat → Nat → Prop} {dp0 : Nat → Int32} {k a : Nat} (hk : k < 16) (ha : a < 16) (h : ∀ dp, ya_V D dp0 k (a + 1) 0 dp → J (nI (a + 1)) kd ag sz nb td tg ip ey vy bf st dp) :
    ∀ d b, b + d = 16 → ∀ dp, ya_V D dp0 k a b dp → wY_over_10 post J (nI k) (nI a) yn yr yc yR yC (d + 1) (nI b) kd ag sz nb td tg ip ey vy bf st dp := by
  intro d
  induction d with
  | zero =>
    intro b hb dp hv
    have e : b = 16 := hb
    subst e
    refine br_t (nI_le (Nat.le_refl 16) (by decide)) (nm_r (nI_1 a) (h dp ⟨hv.1, hv.2.1, ?_⟩))
    intro i j hi hj hij
    exact hv.2.2 i j hi hj (by omega)
  | succ d ih =>
    intro b hb dp hv
    have e1 : (nI a * 16 + nI k).toNatClampNeg = a * 16 + k := by rw [ya_i16, nI_clamp (by omega)]
    have e2 : (nI k * 16 + nI b).toNatClampNeg = k * 16 + b := by rw [ya_i16, nI_clamp (by omega)]
    have e3 : (nI a * 16 + nI b).toNatClampNeg = a * 16 + b := by rw [ya_i16, nI_clamp (by omega)]
    have i1 : vp_in (nI a * 16 + nI k) 256 := by rw [ya_i16]; exact vp_in_nI (by omega) (by omega)
    have i2 : vp_in (nI k * 16 + nI b) 256 := by rw [ya_i16]; exact vp_in_nI (by omega) (by omega)
    have i3 : vp_in (nI a * 16 + nI b) 256 := by rw [ya_i16]; exact vp_in_nI (by omega) (by omega)
    refine br_f (nI_ge (b := 16) (by omega) (by decide)) ⟨i1, br_c (fun q => nm_r (nI_1 b) (ih (b + 1) (by omega) dp (ya_Vskip hv ?_))) (fun q => ⟨i2, br_c (fun q2 => nm_r (nI_1 b) (ih (b + 1) (by omega) dp (ya_Vskip hv ?_))) (fun q2 => ⟨i3, nm_r (e' := upd dp (a * 16 + b) 1) (by rw [e3, ya_b1]) (nm_r (nI_1 b) (ih (b + 1) (by omega) _ (ya_Vput hk ha (by omega) hv ?_ ?_)))⟩)⟩)⟩
    · rw [e1] at q
      exact fun z => hv.2.1 a k ha hk z.1 q
    · rw [e2] at q2
      exact fun z => hv.2.1 k b hk (by omega) z.2 q2
    · rw [e1] at q
      exact q
    · rw [e2] at q2
      exact q2
theorem ya_over {post : SY → Prop} {D : Nat → Nat → Prop} {k : Nat} (hk : k < 16) (hs : ∀ i j, i < 16 → j < 16 → ya_E dp i j → gr_T D i j)
    (h : ∀ dp', (∀ i j, i < 16 → j < 16 → ya_E dp' i j → gr_T D i j) → (∀ i j, i < 16 → j < 16 → (ya_E dp i j ∨ (ya_E dp i k ∧ ya_E dp k j)) → ya_E dp' i j) → post (yn, yr, yc, yR, yC, kd, ag, sz, nb, td, tg, ip, ey, vy, bf, st, dp')) : wpY_over post (yn, yr, yc, yR, yC, kd, ag, sz, nb, td, tg, ip, ey, vy, bf, st, dp) (nI k) := by
  have L : ∀ d a, a + d = 16 → ∀ dp', ya_V D dp k a 0 dp' → wY_over_2 post (nI k) yn yr yc yR yC (d + 1) (nI a) kd ag sz nb td tg ip ey vy bf st dp' := by
    intro d
    induction d with
    | zero =>
      intro a ha dp' hv
      have e : a = 16 := ha
      subst e
      refine br_t (nI_le (Nat.le_refl 16) (by decide)) (h dp' hv.1 ?_)
      intro i j hi hj z
      rcases z with z | ⟨z1, z2⟩
      · exact hv.2.1 i j hi hj z
      · exact hv.2.2 i j hi hj (by omega) z1 z2
    | succ d ih =>
      intro a ha dp' hv
      exact br_f (nI_ge (b := 16) (by omega) (by decide)) ⟨17, ya_over10 hk (by omega) (fun dp2 h2 => ih (a + 1) (by omega) dp2 h2) 16 0 rfl dp' hv⟩
  refine ⟨17, L 16 0 rfl dp ⟨hs, fun _ _ _ _ z => z, ?_⟩⟩
  intro i j _ _ z
  omega
theorem ya_diag {post : Int32 → SY → Prop} (h0 : (∀ c, c < 16 → ¬ ya_E dp c c) → post 0 (yn, yr, yc, yR, yC, kd, ag, sz, nb, td, tg, ip, ey, vy, bf, st, dp)) (h1 : (∃ c, c < 16 ∧ ya_E dp c c) → post 1 (yn, yr, yc, yR, yC, kd, ag, sz, nb, td, tg, ip, ey, vy, bf, st, dp)) :
    ∀ d c, c + d = 16 → (∀ i, i < c → ¬ ya_E dp i i) → wY_circle_112 post yn yr yc yR yC kd ag sz nb td tg ip ey vy bf st dp (d + 1) (nI c) := by
  intro d
  induction d with
  | zero =>
    intro c hc hi
    have e : c = 16 := hc
    subst e
    exact br_t (nI_le (Nat.le_refl 16) (by decide)) (h0 hi)
  | succ d ih =>
    intro c hc hi
    have e0 : nI c * 17 = nI (c * 17) := pk_mul c 17
    have e1 : (nI c * 17).toNatClampNeg = c * 16 + c := by rw [e0, nI_clamp (by omega)]; omega
    refine br_f (nI_ge (b := 16) (by omega) (by decide)) ⟨by rw [e0]; exact vp_in_nI (by omega) (by omega), br_c (fun q => nm_r (nI_1 c) (ih (c + 1) (by omega) ?_)) (fun q => h1 ⟨c, by omega, ?_⟩)⟩
    · rw [e1] at q
      intro i hi'
      by_cases e : i = c
      · subst e; exact fun z => z q
      · exact hi i (by omega)
    · rw [e1] at q
      exact q
theorem ya_stages {post : Int32 → SY → Prop} {D : Nat → Nat → Prop} (hd : sh_dm D)
    (h0 : ∀ dp, (∀ i j, i < 16 → j < 16 → (ya_E dp i j ↔ gr_T D i j)) → gr_A D → post 0 (yn, yr, yc, yR, yC, kd, ag, sz, nb, td, tg, ip, ey, vy, bf, st, dp)) (h1 : ∀ dp, (∀ i j, i < 16 → j < 16 → (ya_E dp i j ↔ gr_T D i j)) → ¬ gr_A D → post 1 (yn, yr, yc, yR, yC, kd, ag, sz, nb, td, tg, ip, ey, vy, bf, st, dp)) :
    ∀ d k, k + d = 16 → ∀ dp, (∀ i j, i < 16 → j < 16 → ya_E dp i j → gr_T D i j) → (∀ i j, i < 16 → j < 16 → gr_W D k i j → ya_E dp i j) → wY_circle_93 post (d + 1) (nI k) yn yr yc yR yC kd ag sz nb td tg ip ey vy bf st dp := by
  intro d
  induction d with
  | zero =>
    intro k hk dp hs hw
    have e : k = 16 := hk
    subst e
    have hi : ∀ i j, i < 16 → j < 16 → (ya_E dp i j ↔ gr_T D i j) := fun i j a b => ⟨hs i j a b, fun t => hw i j a b (gr_WT (fun x y z => (hd x y z).2) t)⟩
    refine br_t (nI_le (Nat.le_refl 16) (by decide)) ⟨17, ya_diag (fun z => h0 dp hi (fun c t => ?_)) (fun z => h1 dp hi (fun t => ?_)) 16 0 rfl (fun i z => absurd z (Nat.not_lt_zero i))⟩
    · obtain ⟨b, hb, _⟩ := gr_head t
      have hc := (hd _ _ hb).1
      exact z c hc ((hi c c hc hc).mpr t)
    · obtain ⟨c, hc, z⟩ := z
      exact t c ((hi c c hc hc).mp z)
  | succ d ih =>
    intro k hk dp hs hw
    refine br_f (nI_ge (b := 16) (by omega) (by decide)) (ya_over (by omega) hs (fun dp' hs' hw' => ?_))
    refine nm_r (nI_1 k) (ih (k + 1) (by omega) dp' hs' ?_)
    intro i j hi hj z
    apply hw' i j hi hj
    rcases z with z | ⟨z1, z2⟩
    · exact Or.inl (hw i j hi hj z)
    · exact Or.inr ⟨hw i k hi (by omega) z1, hw k j (by omega) hj z2⟩
def ya_H (L : Nat → Nat) (K A : Nat → Nat → Int32) (c t : Nat) (dp : Nat → Int32) : Prop :=
  ∀ i j, i < 16 → j < 16 → (ya_E dp i j ↔ ((i < c ∧ sh_D L K A i j) ∨ (i = c ∧ ∃ s, s < t ∧ K c s = 1 ∧ A c s = nI j)))
theorem ya_rows {post : Int32 → SY → Prop} {J : Int32 → (Nat → Int32) → (Nat → Int32) → (Nat → Int32) → (Nat → Int32) → (Nat → Int32) → (Nat → Int32) → (Nat → Int32) → (Nat → Int32) → (Nat → Int32) → (Nat → Int32) → (Nat → Int32) → (Nat → Int32) → Prop}
    {L : Nat → Nat} {K A : Nat → Nat → Int32} (hO : sh_OK L K A) (hP : sh_P L K A sz kd ag) {c : Nat} (hc : c < 16) (h : ∀ dp, ya_H L K A (c + 1) 0 dp → J (nI (c + 1)) kd ag sz nb td tg ip ey vy bf st dp) :
    ∀ d t, t + d = L c → ∀ dp, ya_H L K A c t dp → wY_circle_32 post J (nI c) yn yr yc yR yC (d + 1) (nI t) kd ag sz nb td tg ip ey vy bf st dp := by
  obtain ⟨o1, o2, _⟩ := hO c hc
  obtain ⟨p1, p2⟩ := hP c hc
  have ecc : (nI c).toNatClampNeg = c := nI_clamp (by omega)
  have hinc : vp_in (nI c) 16 := vp_in_nI hc (by omega)
  intro d
  induction d with
  | zero =>
    intro t ht dp hv
    have e : t = L c := ht
    subst e
    refine ⟨hinc, br_t (by rw [ecc, p1]; exact nI_le (Nat.le_refl _) (by omega)) (nm_r (nI_1 c) (h dp ?_))⟩
    intro i j hi hj
    rw [hv i j hi hj]
    constructor
    · intro z
      rcases z with ⟨z1, z2⟩ | ⟨z1, z2⟩
      · exact Or.inl ⟨by omega, z2⟩
      · subst z1
        exact Or.inl ⟨by omega, hi, hj, z2⟩
    · intro z
      rcases z with ⟨z1, z2⟩ | ⟨_, s, z2, _⟩
      · by_cases e : i = c
        · subst e
          exact Or.inr ⟨rfl, z2.2.2⟩
        · exact Or.inl ⟨by omega, z2⟩
      · exact absurd z2 (Nat.not_lt_zero s)
  | succ d ih =>
    intro t ht dp hv
    have ei : (nI c * 8 + nI t).toNatClampNeg = c * 8 + t := by rw [ya_i8, nI_clamp (by omega)]
    have hi2 : vp_in (nI c * 8 + nI t) 128 := by rw [ya_i8]; exact vp_in_nI (by omega) (by omega)
    obtain ⟨ek, ea⟩ := p2 t (by omega)
    obtain ⟨_, hcell⟩ := o2 t (by omega)
    refine ⟨hinc, br_f (by rw [ecc, p1]; exact nI_ge (by omega) (by omega)) ⟨hi2, br_c (fun q => ⟨hi2, ?_⟩) (fun q => nm_r (nI_1 t) (ih (t + 1) (by omega) dp ?_))⟩⟩
    · rw [ei, ek] at q
      obtain ⟨b, hb, eb⟩ := hcell q
      have e3 : nI c * 16 + ag (nI c * 8 + nI t).toNatClampNeg = nI (c * 16 + b) := by rw [ei, ea, eb, ya_i16]
      refine ⟨by rw [e3]; exact vp_in_nI (by omega) (by omega), nm_r (e' := upd dp (c * 16 + b) 1) (by rw [e3, nI_clamp (by omega), ya_b1]) (nm_r (nI_1 t) (ih (t + 1) (by omega) _ ?_))⟩
      intro i j hi hj
      rw [ya_Eput hb hj, hv i j hi hj]
      constructor
      · intro z
        rcases z with (z | ⟨z1, s, z2, z3⟩) | ⟨z1, z2⟩
        · exact Or.inl z
        · exact Or.inr ⟨z1, s, by omega, z3⟩
        · subst z1 z2
          exact Or.inr ⟨rfl, t, by omega, q, eb⟩
      · intro z
        rcases z with z | ⟨z1, s, z2, z3, z4⟩
        · exact Or.inl (Or.inl z)
        · by_cases e : s = t
          · subst e
            rw [eb, nI_eq (by omega) (by omega)] at z4
            exact Or.inr ⟨z1, z4.symm⟩
          · exact Or.inl (Or.inr ⟨z1, s, by omega, z3, z4⟩)
    · rw [ei, ek] at q
      intro i j hi hj
      rw [hv i j hi hj]
      constructor
      · intro z
        rcases z with z | ⟨z1, s, z2, z3⟩
        · exact Or.inl z
        · exact Or.inr ⟨z1, s, by omega, z3⟩
      · intro z
        rcases z with z | ⟨z1, s, z2, z3, z4⟩
        · exact Or.inl z
        · have e : s ≠ t := fun e => q (e ▸ z3)
          exact Or.inr ⟨z1, s, by omega, z3, z4⟩
theorem sh_dmD {L : Nat → Nat} {K A : Nat → Nat → Int32} : sh_dm (sh_D L K A) := fun _ _ h => ⟨h.1, h.2.1⟩
theorem ya_circ {post : Int32 → SY → Prop} {L : Nat → Nat} {K A : Nat → Nat → Int32} (hO : sh_OK L K A) (hP : sh_P L K A sz kd ag)
    (h0 : ∀ dp, (∀ i j, i < 16 → j < 16 → (ya_E dp i j ↔ gr_T (sh_D L K A) i j)) → gr_A (sh_D L K A) → post 0 (yn, yr, yc, yR, yC, kd, ag, sz, nb, td, tg, ip, ey, vy, bf, st, dp)) (h1 : ∀ dp, (∀ i j, i < 16 → j < 16 → (ya_E dp i j ↔ gr_T (sh_D L K A) i j)) → ¬ gr_A (sh_D L K A) → post 1 (yn, yr, yc, yR, yC, kd, ag, sz, nb, td, tg, ip, ey, vy, bf, st, dp)) : wpY_circle post (yn, yr, yc, yR, yC, kd, ag, sz, nb, td, tg, ip, ey, vy, bf, st, dp) := by
  have M2 : ∀ d c, c + d = 16 → ∀ dp, ya_H L K A c 0 dp → wY_circle_24 post yn yr yc yR yC (d + 1) (nI c) kd ag sz nb td tg ip ey vy bf st dp := by
    intro d
    induction d with
    | zero =>
      intro c hc dp hv
      have e : c = 16 := hc
      subst e
      have hi : ∀ i j, i < 16 → j < 16 → (ya_E dp i j ↔ sh_D L K A i j) := by
        intro i j hi hj
        rw [hv i j hi hj]
        exact ⟨fun z => z.elim (fun z => z.2) (fun z => by omega), fun z => Or.inl ⟨hi, z⟩⟩
      exact br_t (nI_le (Nat.le_refl 16) (by decide)) ⟨17, ya_stages sh_dmD h0 h1 16 0 rfl dp (fun i j a b z => Relation.TransGen.single ((hi i j a b).mp z)) (fun i j a b z => (hi i j a b).mpr z)⟩
    | succ d ih =>
      intro c hc dp hv
      exact br_f (nI_ge (b := 16) (by omega) (by decide)) ⟨L c + 1, ya_rows hO hP (by omega) (fun dp' h' => ih (c + 1) (by omega) dp' h') (L c) 0 (Nat.zero_add _) dp hv⟩
  have M1 : ∀ d x, x + d = 256 → ∀ dp : Nat → Int32, (∀ j, j < x → dp j = 0) → wY_circle_2 post yn yr yc yR yC (d + 1) (nI x) kd ag sz nb td tg ip ey vy bf st dp := by
    intro d
    induction d with
    | zero =>
      intro x hx dp hv
      have e : x = 256 := hx
      subst e
      refine br_t (nI_le (Nat.le_refl 256) (by decide)) ⟨17, M2 16 0 rfl dp ?_⟩
      intro i j hi hj
      constructor
      · intro z
        exact absurd (hv (i * 16 + j) (by omega)) z
      · intro z
        rcases z with ⟨z, _⟩ | ⟨_, s, z, _⟩ <;> omega
    | succ d ih =>
      intro x hx dp hv
      have ec : (nI x).toNatClampNeg = x := nI_clamp (by omega)
      refine br_f (nI_ge (b := 256) (by omega) (by decide)) ⟨vp_in_nI (by omega) (by omega), nm_r (e' := upd dp x 0) (by rw [ec, ya_b0]) (nm_r (nI_1 x) (ih (x + 1) (by omega) _ ?_))⟩
      intro j hj
      by_cases e : j = x
      · subst e; rw [pk_us]
      · rw [pk_un e]; exact hv j (by omega)
  exact ⟨257, M1 256 0 rfl dp (fun j z => absurd z (Nat.not_lt_zero j))⟩
end
