/-! bits of a set of cells -/
theorem bi_one {l i : Nat} (hl : l < 32) (hi : i < 32) : bt ((1 : Int32) <<< (nI l &&& 31)) i = decide (i = l) := by
  unfold bt
  rw [nf_sh l hl, BitVec.getLsbD_twoPow]
  by_cases e : i = l
  · subst e; simp [hi]
  · simp [e, Ne.symm e]
theorem bi_or1 {x : Int32} {l i : Nat} (hl : l < 32) (hi : i < 32) : bt (x ||| ((1 : Int32) <<< (nI l &&& 31))) i = true ↔ (bt x i = true ∨ i = l) := by
  rw [b_or, bi_one hl hi]; simp
theorem bi_and0 {x y : Int32} : (x &&& y) = 0 ↔ ∀ i, i < 32 → ¬ (bt x i = true ∧ bt y i = true) := by
  constructor
  · intro h i hi ⟨h1, h2⟩
    have e : bt (x &&& y) i = bt 0 i := by rw [h]
    rw [b_and, b_0, h1, h2] at e
    exact absurd e (by decide)
  · intro h
    apply b_ext
    intro i hi
    rw [b_and, b_0]
    have := h i hi
    revert this
    cases bt x i <;> cases bt y i <;> simp
theorem bi_not {x : Int32} {i : Nat} (hi : i < 32) : bt (x ^^^ (-1)) i = true ↔ ¬ bt x i = true := by
  rw [b_xor, b_m1 i hi]; simp
theorem bi_1 : ∀ i, i < 32 → bt 1 i = decide (i = 0) := by decide +kernel
theorem bi_has {x : Int32} {l : Nat} (hl : l < 32) : ((x >>> (nI l &&& 31)) &&& 1) = 0 ↔ ¬ bt x l = true := by
  rw [bi_and0]
  constructor
  · intro h hb
    apply h 0 (by decide)
    rw [b_sshr l hl x (by decide), if_pos (by omega), bi_1 0 (by decide)]
    exact ⟨hb, rfl⟩
  · intro h i hi ⟨h1, h2⟩
    rw [bi_1 i hi] at h2
    have e : i = 0 := of_decide_eq_true h2
    subst e
    rw [b_sshr l hl x (by decide), if_pos (by omega)] at h1
    exact h h1
/-! counting -/
noncomputable def gr_cnt (P : Nat → Prop) : Nat → Nat
  | 0 => 0
  | n + 1 => gr_cnt P n + @ite Nat (P n) (Classical.propDecidable (P n)) 1 0
theorem gr_c1 {P : Nat → Prop} {n : Nat} (h : P n) : gr_cnt P (n + 1) = gr_cnt P n + 1 := by
  show gr_cnt P n + @ite Nat (P n) (Classical.propDecidable (P n)) 1 0 = _
  rw [if_pos h]
theorem gr_c0 {P : Nat → Prop} {n : Nat} (h : ¬ P n) : gr_cnt P (n + 1) = gr_cnt P n := by
  show gr_cnt P n + @ite Nat (P n) (Classical.propDecidable (P n)) 1 0 = _
  rw [if_neg h]
  rfl
theorem gr_le (P : Nat → Prop) (n : Nat) : gr_cnt P n ≤ n := by
  induction n with
  | zero => exact Nat.le_refl 0
  | succ n ih =>
    by_cases h : P n
    · rw [gr_c1 h]; omega
    · rw [gr_c0 h]; omega
theorem gr_mono {P Q : Nat → Prop} (n : Nat) (h : ∀ i, i < n → P i → Q i) : gr_cnt P n ≤ gr_cnt Q n := by
  induction n with
  | zero => exact Nat.le_refl 0
  | succ n ih =>
    have ih := ih (fun i hi => h i (by omega))
    by_cases hp : P n
    · rw [gr_c1 hp, gr_c1 (h n (by omega) hp)]; omega
    · rw [gr_c0 hp]
      by_cases hq : Q n
      · rw [gr_c1 hq]; omega
      · rw [gr_c0 hq]; omega
theorem gr_lt {P Q : Nat → Prop} (n : Nat) (h : ∀ i, i < n → P i → Q i) {j : Nat} (hj : j < n) (hq : Q j) (hp : ¬ P j) : gr_cnt P n < gr_cnt Q n := by
  induction n with
  | zero => omega
  | succ n ih =>
    have hm := gr_mono n (fun i hi => h i (by omega))
    by_cases e : j = n
    · subst e
      rw [gr_c0 hp, gr_c1 hq]; omega
    · have ih := ih (fun i hi => h i (by omega)) (by omega)
      by_cases hpn : P n
      · rw [gr_c1 hpn, gr_c1 (h n (by omega) hpn)]; omega
      · rw [gr_c0 hpn]
        by_cases hqn : Q n
        · rw [gr_c1 hqn]; omega
        · rw [gr_c0 hqn]; omega
theorem gr_ltn {P : Nat → Prop} (n : Nat) {j : Nat} (hj : j < n) (hp : ¬ P j) : gr_cnt P n < n :=
  Nat.lt_of_lt_of_le (gr_lt (Q := fun _ => True) n (fun _ _ _ => trivial) hj trivial hp) (gr_le _ n)
theorem gr_congr {P Q : Nat → Prop} (n : Nat) (h : ∀ i, i < n → (P i ↔ Q i)) : gr_cnt P n = gr_cnt Q n :=
  Nat.le_antisymm (gr_mono n (fun i hi => (h i hi).mp)) (gr_mono n (fun i hi => (h i hi).mpr))
/-! the graph: D c a: cell c names cell a -/
abbrev gr_T (D : Nat → Nat → Prop) : Nat → Nat → Prop := Relation.TransGen D
def gr_A (D : Nat → Nat → Prop) : Prop := ∀ c, ¬ gr_T D c c
noncomputable def gr_r (D : Nat → Nat → Prop) (c : Nat) : Nat := gr_cnt (fun a => gr_T D c a) 16
theorem gr_r16 {D : Nat → Nat → Prop} (hA : gr_A D) {c : Nat} (hc : c < 16) : gr_r D c < 16 := gr_ltn 16 hc (hA c)
theorem gr_rD {D : Nat → Nat → Prop} (hA : gr_A D) {c a : Nat} (ha : a < 16) (h : D c a) : gr_r D a < gr_r D c :=
  gr_lt 16 (fun _ _ hx => Relation.TransGen.trans (Relation.TransGen.single h) hx) ha (Relation.TransGen.single h) (hA a)
theorem gr_head {D : Nat → Nat → Prop} {c z : Nat} (h : gr_T D c z) : ∃ a, D c a ∧ (a = z ∨ gr_T D a z) := by
  induction h with
  | single h => exact ⟨_, h, Or.inl rfl⟩
  | tail h1 h2 ih =>
    obtain ⟨a, ha, e⟩ := ih
    refine ⟨a, ha, Or.inr ?_⟩
    rcases e with e | e
    · subst e; exact Relation.TransGen.single h2
    · exact Relation.TransGen.tail e h2
theorem gr_cons {D : Nat → Nat → Prop} {c a z : Nat} (h : D c a) (h2 : a = z ∨ gr_T D a z) : gr_T D c z := by
  rcases h2 with e | e
  · subst e; exact Relation.TransGen.single h
  · exact Relation.TransGen.trans (Relation.TransGen.single h) e
/-- the row of cell z is replaced by the set N: no member of N reaches z, so no circle comes -/
theorem gr_new {D D' : Nat → Nat → Prop} {z : Nat} {N : Nat → Prop} (ho : ∀ c a, c ≠ z → D' c a → D c a) (hz : ∀ a, D' z a → N a)
    (hA : gr_A D) (hn : ∀ a, N a → ¬ (a = z ∨ gr_T D a z)) : gr_A D' := by
  have key : ∀ x y, gr_T D' x y → gr_T D x y ∨ ((x = z ∨ gr_T D x z) ∧ ∃ a, N a ∧ (a = y ∨ gr_T D a y)) := by
    intro x y h
    induction h with
    | @single y h =>
      by_cases e : x = z
      · subst e
        exact Or.inr ⟨Or.inl rfl, y, hz y h, Or.inl rfl⟩
      · exact Or.inl (Relation.TransGen.single (ho _ _ e h))
    | @tail y w h1 h2 ih =>
      by_cases e : y = z
      · subst e
        rcases ih with ih | ⟨_, a, ha, i2⟩
        · exact Or.inr ⟨Or.inr ih, w, hz w h2, Or.inl rfl⟩
        · exact absurd i2 (hn a ha)
      · have h3 := ho _ _ e h2
        rcases ih with ih | ⟨i1, a, ha, i2⟩
        · exact Or.inl (Relation.TransGen.tail ih h3)
        · refine Or.inr ⟨i1, a, ha, Or.inr ?_⟩
          rcases i2 with i2 | i2
          · subst i2; exact Relation.TransGen.single h3
          · exact Relation.TransGen.tail i2 h3
  intro c hc
  rcases key c c hc with h | ⟨h1, a, ha, h2⟩
  · exact hA c h
  · apply hn a ha
    rcases h1 with h1 | h1
    · subst h1; exact h2
    · rcases h2 with h2 | h2
      · subst h2; exact Or.inr h1
      · exact Or.inr (Relation.TransGen.trans h2 h1)
theorem gr_circ {D D' : Nat → Nat → Prop} {z a : Nat} (ho : ∀ c b, c ≠ z → D c b → D' c b) (hz : D' z a) (h : a = z ∨ gr_T D a z) : gr_T D' z z := by
  have key : ∀ x y, gr_T D x y → gr_T D' x y ∨ (x = z ∨ gr_T D' x z) := by
    intro x y h
    induction h with
    | @single y h =>
      by_cases e : x = z
      · exact Or.inr (Or.inl e)
      · exact Or.inl (Relation.TransGen.single (ho _ _ e h))
    | @tail y w h1 h2 ih =>
      rcases ih with ih | ih
      · by_cases e : y = z
        · subst e; exact Or.inr (Or.inr ih)
        · exact Or.inl (Relation.TransGen.tail ih (ho _ _ e h2))
      · exact Or.inr ih
  apply gr_cons hz
  rcases h with h | h
  · exact Or.inl h
  · rcases key a z h with k | k | k
    · exact Or.inr k
    · exact Or.inl k
    · exact Or.inr k
/-! Warshall: the least that the stages give -/
def gr_W (D : Nat → Nat → Prop) : Nat → Nat → Nat → Prop
  | 0 => D
  | k + 1 => fun a b => gr_W D k a b ∨ (gr_W D k a k ∧ gr_W D k k b)
theorem gr_Wc {D : Nat → Nat → Prop} (k : Nat) : ∀ m a b, m < k → gr_W D k a m → gr_W D k m b → gr_W D k a b := by
  induction k with
  | zero => intro m a b h; omega
  | succ k ih =>
    intro m a b hm h1 h2
    by_cases e : m = k
    · subst e
      have g1 : gr_W D m a m := by
        rcases h1 with h | ⟨h, _⟩ <;> exact h
      have g2 : gr_W D m m b := by
        rcases h2 with h | ⟨_, h⟩ <;> exact h
      exact Or.inr ⟨g1, g2⟩
    · have hm' : m < k := by omega
      rcases h1 with h1 | ⟨h1, h1'⟩ <;> rcases h2 with h2 | ⟨h2, h2'⟩
      · exact Or.inl (ih m a b hm' h1 h2)
      · exact Or.inr ⟨ih m a k hm' h1 h2, h2'⟩
      · exact Or.inr ⟨h1, ih m k b hm' h1' h2⟩
      · exact Or.inr ⟨h1, h2'⟩
theorem gr_WD {D : Nat → Nat → Prop} {a b : Nat} (h : D a b) (k : Nat) : gr_W D k a b := by
  induction k with
  | zero => exact h
  | succ k ih => exact Or.inl ih
theorem gr_WT {D : Nat → Nat → Prop} (hd : ∀ a b, D a b → b < 16) {a b : Nat} (h : gr_T D a b) : gr_W D 16 a b := by
  suffices h2 : gr_W D 16 a b ∧ b < 16 from h2.1
  induction h with
  | single h => exact ⟨gr_WD h 16, hd _ _ h⟩
  | tail _ h2 ih => exact ⟨gr_Wc 16 _ _ _ ih.2 ih.1 (gr_WD h2 16), hd _ _ h2⟩
/-! the values -/
def so_L (F : Nat → (Nat → Int32) → Int32) (D : Nat → Nat → Prop) : Prop := ∀ c, c < 16 → ∀ V V' : Nat → Int32, (∀ a, D c a → V a = V' a) → F c V = F c V'
def so_it (F : Nat → (Nat → Int32) → Int32) : Nat → Nat → Int32
  | 0 => fun _ => 0
  | p + 1 => fun c => F c (so_it F p)
def so_S (F : Nat → (Nat → Int32) → Int32) : Nat → Int32 := so_it F 16
theorem so_st {F : Nat → (Nat → Int32) → Int32} {D : Nat → Nat → Prop} (hL : so_L F D) (hA : gr_A D) (hd : ∀ a b, D a b → b < 16) (p : Nat) : ∀ c, c < 16 → gr_r D c < p → so_it F (p + 1) c = so_it F p c := by
  induction p with
  | zero => intro c _ h; omega
  | succ p ih =>
    intro c hc hr
    apply hL c hc
    intro a ha
    have h1 := gr_rD hA (hd _ _ ha) ha
    exact ih a (hd _ _ ha) (by omega)
theorem so_fix {F : Nat → (Nat → Int32) → Int32} {D : Nat → Nat → Prop} (hL : so_L F D) (hA : gr_A D) (hd : ∀ a b, D a b → b < 16) {c : Nat} (hc : c < 16) : so_S F c = F c (so_S F) :=
  (so_st hL hA hd 16 c hc (gr_r16 hA hc)).symm
/-! the stack machine -/
def sk_p (k : Int32) : Nat := if k = 0 then 0 else if k = 1 then 0 else if k = 7 then 3 else 2
def sk_h (K : Nat → Int32) : Nat → Nat
  | 0 => 0
  | t + 1 => sk_h K t - sk_p (K t) + 1
def sk_c (k x y : Int32) : Int32 := if k = 2 then x + y else if k = 3 then x - y else if k = 4 then x * y else if k = 5 then (if y ≤ x then y else x) else (if x ≤ y then y else x)
def sk_v (k a : Int32) (V s : Nat → Int32) (b : Nat) : Int32 := if k = 0 then a else if k = 1 then V a.toNatClampNeg else if k = 7 then (if s b ≤ 0 then s (b + 2) else s (b + 1)) else sk_c k (s b) (s (b + 1))
def sk_st (K A V s : Nat → Int32) : Nat → Nat → Int32
  | 0 => s
  | t + 1 => upd (sk_st K A V s t) (sk_h K t - sk_p (K t)) (sk_v (K t) (A t) V (sk_st K A V s t) (sk_h K t - sk_p (K t)))
def sk_S (K : Nat → Int32) (l : Nat) : Prop := (∀ t, t < l → sk_p (K t) ≤ sk_h K t) ∧ sk_h K l = 1
def sk_ev (K A : Nat → Int32) (l : Nat) (V : Nat → Int32) : Int32 := sk_st K A V (fun _ => 0) l 0
theorem sk_ht (K : Nat → Int32) (t : Nat) : sk_h K t ≤ t := by
  induction t with
  | zero => exact Nat.le_refl 0
  | succ t ih =>
    show sk_h K t - sk_p (K t) + 1 ≤ t + 1
    omega
theorem sk_ag {K A V V' s s' : Nat → Int32} {l : Nat} (hs : ∀ t, t < l → sk_p (K t) ≤ sk_h K t) (hV : ∀ t, t < l → K t = 1 → V (A t).toNatClampNeg = V' (A t).toNatClampNeg) :
    ∀ t, t ≤ l → ∀ j, j < sk_h K t → sk_st K A V s t j = sk_st K A V' s' t j := by
  intro t
  induction t with
  | zero => intro _ j hj; exact absurd hj (Nat.not_lt_zero j)
  | succ t ih =>
    intro ht j hj
    have ih := ih (by omega)
    have hp := hs t (by omega)
    have hv := hV t (by omega)
    have hj : j < sk_h K t - sk_p (K t) + 1 := hj
    show upd _ _ _ j = upd _ _ _ j
    by_cases e : j = sk_h K t - sk_p (K t)
    · subst e
      rw [pk_us, pk_us]
      unfold sk_v
      by_cases k0 : K t = 0
      · rw [if_pos k0, if_pos k0]
      rw [if_neg k0, if_neg k0]
      by_cases k1 : K t = 1
      · rw [if_pos k1, if_pos k1]; exact hv k1
      rw [if_neg k1, if_neg k1]
      by_cases k7 : K t = 7
      · rw [if_pos k7, if_pos k7]
        have e3 : sk_p (K t) = 3 := by unfold sk_p; rw [if_neg k0, if_neg k1, if_pos k7]
        rw [ih _ (by omega), ih _ (by omega), ih _ (by omega)]
      · rw [if_neg k7, if_neg k7]
        have e2 : sk_p (K t) = 2 := by unfold sk_p; rw [if_neg k0, if_neg k1, if_neg k7]
        rw [ih _ (by omega), ih _ (by omega)]
    · rw [pk_un e, pk_un e]
      exact ih j (by omega)
theorem sk_loc {K A V V' : Nat → Int32} {l : Nat} (hs : sk_S K l) (hV : ∀ t, t < l → K t = 1 → V (A t).toNatClampNeg = V' (A t).toNatClampNeg) : sk_ev K A l V = sk_ev K A l V' :=
  sk_ag hs.1 hV l (Nat.le_refl l) 0 (by rw [hs.2]; decide)
theorem sk_end {K A V : Nat → Int32} (s : Nat → Int32) {l : Nat} (hs : sk_S K l) : sk_st K A V s l 0 = sk_ev K A l V :=
  sk_ag hs.1 (fun _ _ _ => rfl) l (Nat.le_refl l) 0 (by rw [hs.2]; decide)
/-! the sheet -/
def sh_tok (k a : Int32) : Prop := (∃ m, m < 8 ∧ k = nI m) ∧ (k = 1 → ∃ b, b < 16 ∧ a = nI b)
def sh_D (L : Nat → Nat) (K A : Nat → Nat → Int32) (c a : Nat) : Prop := c < 16 ∧ a < 16 ∧ ∃ t, t < L c ∧ K c t = 1 ∧ A c t = nI a
noncomputable def sh_F (L : Nat → Nat) (K A : Nat → Nat → Int32) (nu : Nat → Int32) (c : Nat) (V : Nat → Int32) : Int32 := if L c = 0 then nu c else sk_ev (K c) (A c) (L c) V
def sh_OK (L : Nat → Nat) (K A : Nat → Nat → Int32) : Prop := ∀ c, c < 16 → L c ≤ 8 ∧ (∀ t, t < L c → sh_tok (K c t) (A c t)) ∧ (L c = 0 ∨ sk_S (K c) (L c))
theorem sh_dom {L : Nat → Nat} {K A : Nat → Nat → Int32} : ∀ a b, sh_D L K A a b → b < 16 := fun _ _ h => h.2.1
theorem sh_loc {L : Nat → Nat} {K A : Nat → Nat → Int32} {nu : Nat → Int32} (h : sh_OK L K A) : so_L (sh_F L K A nu) (sh_D L K A) := by
  intro c hc V V' hV
  obtain ⟨_, h2, h3⟩ := h c hc
  unfold sh_F
  by_cases e : L c = 0
  · rw [if_pos e, if_pos e]
  · rw [if_neg e, if_neg e]
    apply sk_loc (h3.resolve_left e)
    intro t ht k1
    obtain ⟨b, hb, eb⟩ := (h2 t ht).2 k1
    rw [eb, nI_clamp (by omega)]
    exact hV b ⟨hc, hb, t, ht, k1, eb⟩
/-- two cells given: the row's and the column's -/
noncomputable def sh_G (L : Nat → Nat) (K A : Nat → Nat → Int32) (nu : Nat → Int32) (r : Nat) (x : Int32) (q : Nat) (y : Int32) (c : Nat) (V : Nat → Int32) : Int32 :=
  if c = r then x else if c = q then y else sh_F L K A nu c V
theorem sh_gloc {L : Nat → Nat} {K A : Nat → Nat → Int32} {nu : Nat → Int32} (h : sh_OK L K A) (r : Nat) (x : Int32) (q : Nat) (y : Int32) : so_L (sh_G L K A nu r x q y) (sh_D L K A) := by
  intro c hc V V' hV
  unfold sh_G
  by_cases e : c = r
  · rw [if_pos e, if_pos e]
  · rw [if_neg e, if_neg e]
    by_cases e2 : c = q
    · rw [if_pos e2, if_pos e2]
    · rw [if_neg e2, if_neg e2]
      exact sh_loc h c hc V V' hV
