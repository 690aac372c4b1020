section
theorem pk_us {f : Nat → Int32} {k : Nat} {x : Int32} : upd f k x k = x := if_pos rfl
theorem pk_un {f : Nat → Int32} {k j : Nat} {x : Int32} (h : j ≠ k) : upd f k x j = f j := if_neg h
theorem pk_sub {a b : Nat} (h : b ≤ a) : nI a - nI b = nI (a - b) := by
  obtain ⟨c, rfl⟩ : ∃ c, a = c + b := ⟨a - b, by omega⟩
  rw [← nI_add, Int32.add_sub_cancel, Nat.add_sub_cancel]
theorem pk_m1 (n : Nat) : nI (n + 1) + (-1) = nI n := by
  rw [← nI_1, Int32.add_assoc, show (1 : Int32) + (-1) = 0 from rfl, Int32.add_zero]
theorem pk_mul (a b : Nat) : nI a * nI b = nI (a * b) := (Int32.ofNat_mul a b).symm
theorem pk_ix (x : Int32) {n : Nat} (hn : n < 2 ^ 31) : x < 0 ∨ nI n ≤ x ∨ ∃ j : Nat, j < n ∧ x = nI j := by
  by_cases h : x < 0
  · exact Or.inl h
  · obtain ⟨j, hj, rfl⟩ := nI_of h
    by_cases h2 : j < n
    · exact Or.inr (Or.inr ⟨j, h2, rfl⟩)
    · exact Or.inr (Or.inl (nI_le (by omega) hj))
theorem pk_le {x y : Int32} {A B : Prop} (a b : Nat) (f : a ≤ b → A) (g : b < a → B) (hx : x = nI a := by rfl) (hy : y = nI b := by rfl) (ha : a < 2 ^ 31 := by omega) (hb : b < 2 ^ 31 := by omega) : (x ≤ y → A) ∧ (¬ x ≤ y → B) := by
  subst hx hy
  rw [nI_leI ha hb]
  exact ⟨f, fun z => g (by omega)⟩
theorem pk_lt {x y : Int32} {A B : Prop} (a b : Nat) (f : a < b → A) (g : b ≤ a → B) (hx : x = nI a := by rfl) (hy : y = nI b := by rfl) (ha : a < 2 ^ 31 := by omega) (hb : b < 2 ^ 31 := by omega) : (x < y → A) ∧ (¬ x < y → B) := by
  subst hx hy
  rw [nI_ltI ha hb]
  exact ⟨f, fun z => g (by omega)⟩
theorem pk_eq {x y : Int32} {A B : Prop} (a b : Nat) (f : a = b → A) (g : a ≠ b → B) (hx : x = nI a := by rfl) (hy : y = nI b := by rfl) (ha : a < 2 ^ 31 := by omega) (hb : b < 2 ^ 31 := by omega) : (x = y → A) ∧ (¬ x = y → B) := by
  subst hx hy
  rw [nI_eq ha hb]
  exact ⟨f, g⟩
theorem pk_in {x : Int32} (n N : Nat) (h : n < N) (hx : x = nI n := by rfl) (hN : N < 2 ^ 31 := by omega) : vp_in x N := by
  subst hx
  exact vp_in_nI h hN
theorem pk_cl {x : Int32} (n : Nat) (hx : x = nI n := by rfl) (h : n < 2 ^ 31 := by omega) : x.toNatClampNeg = n := by
  subst hx
  exact nI_clamp h
theorem pk_loop {σ : Type} (W : Nat → Nat → σ → Prop) (I : Nat → σ → Prop) (e i0 : Nat) (s : σ) (hi : i0 ≤ e) (h0 : I i0 s) (hx : ∀ n s, I e s → W (n + 1) e s)
    (hs : ∀ n i s, i < e → I i s → (∀ s', I (i + 1) s' → W n (i + 1) s') → W (n + 1) i s) : ∃ n, W n i0 s :=
  ⟨e + 1, loop_i W I e hx hs (e + 1) i0 s hi (by omega) h0⟩
/-! ===== Int32 by its bits: bt x i ===== -/
def bt (x : Int32) (i : Nat) : Bool := x.toBitVec.getLsbD i
theorem b_ext {x y : Int32} (h : ∀ i, i < 32 → bt x i = bt y i) : x = y := Int32.toBitVec_inj.mp (BitVec.eq_of_getLsbD_eq (fun i hi => h i hi))
theorem b_or (x y : Int32) (i : Nat) : bt (x ||| y) i = (bt x i || bt y i) := by unfold bt; rw [Int32.toBitVec_or, BitVec.getLsbD_or]
theorem b_and (x y : Int32) (i : Nat) : bt (x &&& y) i = (bt x i && bt y i) := by unfold bt; rw [Int32.toBitVec_and, BitVec.getLsbD_and]
theorem b_xor (x y : Int32) (i : Nat) : bt (x ^^^ y) i = (bt x i ^^ bt y i) := by unfold bt; rw [Int32.toBitVec_xor, BitVec.getLsbD_xor]
theorem b_big {x : Int32} {i : Nat} (h : 32 ≤ i) : bt x i = false := BitVec.getLsbD_of_ge _ _ h
theorem b_255 (i : Nat) : bt 255 i = decide (i < 8) := by
  rcases Nat.lt_or_ge i 32 with h | h
  · exact (by decide +kernel : ∀ i, i < 32 → bt 255 i = decide (i < 8)) i h
  · rw [b_big h, decide_eq_false (by omega)]
theorem b_65535 (i : Nat) : bt 65535 i = decide (i < 16) := by
  rcases Nat.lt_or_ge i 32 with h | h
  · exact (by decide +kernel : ∀ i, i < 32 → bt 65535 i = decide (i < 16)) i h
  · rw [b_big h, decide_eq_false (by omega)]
theorem b_m1 : ∀ i, i < 32 → bt (-1) i = true := by decide +kernel
theorem b_0 (i : Nat) : bt 0 i = false := BitVec.getLsbD_zero
theorem s_l : ∀ n, n < 32 → ((nI n &&& 31).toBitVec.smod 32).toNat = n := by decide +kernel
theorem s_u : ∀ n, n < 32 → (((nI n).toUInt32 &&& Int32.toUInt32 31).toBitVec % 32).toNat = n := by decide +kernel
theorem b_shl (n : Nat) (hn : n < 32) (x : Int32) {i : Nat} (hi : i < 32) : bt (x <<< (nI n &&& 31)) i = (decide (n ≤ i) && bt x (i - n)) := by
  unfold bt
  rw [Int32.toBitVec_shiftLeft]
  show (x.toBitVec <<< ((nI n &&& 31).toBitVec.smod 32).toNat).getLsbD i = _
  rw [s_l n hn, BitVec.getLsbD_shiftLeft]
  rcases Nat.lt_or_ge i n with h | h
  · simp [h, Nat.not_le.mpr h]
  · simp [hi, h, Nat.not_lt.mpr h]
theorem b_ushr (n : Nat) (hn : n < 32) (x : Int32) (i : Nat) : bt ((x.toUInt32 >>> ((nI n).toUInt32 &&& Int32.toUInt32 31)).toInt32) i = bt x (n + i) := by
  show (x.toUInt32 >>> ((nI n).toUInt32 &&& Int32.toUInt32 31)).toBitVec.getLsbD i = x.toUInt32.toBitVec.getLsbD (n + i)
  rw [UInt32.toBitVec_shiftRight]
  show (x.toUInt32.toBitVec >>> (((nI n).toUInt32 &&& Int32.toUInt32 31).toBitVec % 32).toNat).getLsbD i = _
  rw [s_u n hn, BitVec.getLsbD_ushiftRight]
theorem b_sshr (n : Nat) (hn : n < 32) (x : Int32) {i : Nat} (hi : i < 32) : bt (x >>> (nI n &&& 31)) i = if n + i < 32 then bt x (n + i) else bt x 31 := by
  unfold bt
  rw [Int32.toBitVec_shiftRight]
  show (x.toBitVec.sshiftRight ((nI n &&& 31).toBitVec.smod 32).toNat).getLsbD i = _
  rw [s_l n hn, BitVec.getLsbD_sshiftRight, BitVec.msb_eq_getLsbD_last]
  simp [hi]
theorem b_shl8 (x : Int32) {i : Nat} (hi : i < 32) : bt (x <<< ((8 : Int32) &&& 31)) i = (decide (8 ≤ i) && bt x (i - 8)) := b_shl 8 (by omega) x hi
theorem b_shl16 (x : Int32) {i : Nat} (hi : i < 32) : bt (x <<< ((16 : Int32) &&& 31)) i = (decide (16 ≤ i) && bt x (i - 16)) := b_shl 16 (by omega) x hi
theorem b_shl24 (x : Int32) {i : Nat} (hi : i < 32) : bt (x <<< ((24 : Int32) &&& 31)) i = (decide (24 ≤ i) && bt x (i - 24)) := b_shl 24 (by omega) x hi
theorem b_sshr8 (x : Int32) {i : Nat} (hi : i < 32) : bt (x >>> ((8 : Int32) &&& 31)) i = if 8 + i < 32 then bt x (8 + i) else bt x 31 := b_sshr 8 (by omega) x hi
/-! ===== Int32 as a set of bits: test, set ===== -/
def nf_M (m : Int32) : Nat := 4294967296 - m.toBitVec.toNat
theorem nf_sh : ∀ l, l < 32 → ((1 : Int32) <<< (nI l &&& 31)).toBitVec = BitVec.twoPow 32 l := by decide +kernel
theorem nf_sl : ∀ l, l < 32 → (((nI l).toUInt32 &&& Int32.toUInt32 31).toBitVec % 32).toNat = l := by decide +kernel
theorem nf_tp : ∀ l, l < 32 → BitVec.twoPow 32 l ≠ 0#32 := by decide +kernel
theorem nf_bit (m : Int32) (l : Nat) (hl : l < 32) : ((m.toUInt32 >>> ((nI l).toUInt32 &&& Int32.toUInt32 31)).toInt32 &&& 1) = 0 ↔ (m &&& ((1 : Int32) <<< (nI l &&& 31))) = 0 := by
  have e : ((m.toUInt32 >>> ((nI l).toUInt32 &&& Int32.toUInt32 31)).toInt32).toBitVec = m.toBitVec >>> l := by
    show m.toBitVec >>> (((nI l).toUInt32 &&& Int32.toUInt32 31).toBitVec % 32) = m.toBitVec >>> l
    rw [BitVec.ushiftRight_eq', nf_sl l hl]
  rw [← Int32.toBitVec_inj, ← Int32.toBitVec_inj, Int32.toBitVec_and, Int32.toBitVec_and, nf_sh l hl, e, BitVec.and_twoPow]
  show (m.toBitVec >>> l &&& 1#32) = 0#32 ↔ _ = 0#32
  rw [BitVec.and_one_eq_setWidth_ofBool_getLsbD, BitVec.getLsbD_ushiftRight, Nat.add_zero]
  cases hb : m.toBitVec.getLsbD l
  · exact ⟨fun _ => by simp, fun _ => by decide⟩
  · exact ⟨fun z => absurd z (by decide), fun z => absurd ((if_pos rfl).symm.trans z) (nf_tp l hl)⟩
theorem nf_gr (m k : Int32) (h : m &&& k = 0) (hk : k ≠ 0) : nf_M (m ||| k) < nf_M m := by
  have hm := m.toBitVec.isLt
  have hm' := (m ||| k).toBitVec.isLt
  have h1 : m.toBitVec.toNat ≤ (m ||| k).toBitVec.toNat := by
    rw [Int32.toBitVec_or, BitVec.toNat_or]
    exact Nat.left_le_or
  have h2 : m.toBitVec.toNat ≠ (m ||| k).toBitVec.toNat := by
    intro e
    have e2 : m = m ||| k := Int32.toBitVec_inj.mp (BitVec.eq_of_toNat_eq e)
    apply hk
    apply Int32.toBitVec_inj.mp
    show k.toBitVec = 0#32
    apply BitVec.eq_of_getLsbD_eq
    intro i hi
    have a : m.toBitVec.getLsbD i = (m.toBitVec.getLsbD i || k.toBitVec.getLsbD i) := by rw [← BitVec.getLsbD_or, ← Int32.toBitVec_or, ← e2]
    have b : (m.toBitVec.getLsbD i && k.toBitVec.getLsbD i) = false := by
      rw [← BitVec.getLsbD_and, ← Int32.toBitVec_and, h]
      exact BitVec.getLsbD_zero
    rw [BitVec.getLsbD_zero]
    revert a b
    cases m.toBitVec.getLsbD i <;> cases k.toBitVec.getLsbD i <;> simp
  unfold nf_M
  omega
end
section
/-! bits of a set of cells -/
theorem bi_one {l i : Nat} (hl : l < 32) (hi : i < 32) : bt ((1 : Int32) <<< (nI l &&& 31)) i = decide (i = l) := by
  unfold bt
  rw [nf_sh l hl, BitVec.getLsbD_twoPow]
  by_cases e : i = l
  · subst e; simp [hi]
  · simp [e, Ne.symm e]
theorem bi_or1 {x : Int32} {l i : Nat} (hl : l < 32) (hi : i < 32) : bt (x ||| ((1 : Int32) <<< (nI l &&& 31))) i = true ↔ (bt x i = true ∨ i = l) := by
  rw [b_or, bi_one hl hi]; simp
theorem bi_and0 {x y : Int32} : (x &&& y) = 0 ↔ ∀ i, i < 32 → ¬ (bt x i = true ∧ bt y i = true) := by
  constructor
  · intro h i hi ⟨h1, h2⟩
    have e : bt (x &&& y) i = bt 0 i := by rw [h]
    rw [b_and, b_0, h1, h2] at e
    exact absurd e (by decide)
  · intro h
    apply b_ext
    intro i hi
    rw [b_and, b_0]
    have := h i hi
    revert this
    cases bt x i <;> cases bt y i <;> simp
theorem bi_not {x : Int32} {i : Nat} (hi : i < 32) : bt (x ^^^ (-1)) i = true ↔ ¬ bt x i = true := by
  rw [b_xor, b_m1 i hi]; simp
theorem bi_1 : ∀ i, i < 32 → bt 1 i = decide (i = 0) := by decide +kernel
theorem bi_has {x : Int32} {l : Nat} (hl : l < 32) : ((x >>> (nI l &&& 31)) &&& 1) = 0 ↔ ¬ bt x l = true := by
  rw [bi_and0]
  constructor
  · intro h hb
    apply h 0 (by decide)
    rw [b_sshr l hl x (by decide), if_pos (by omega), bi_1 0 (by decide)]
    exact ⟨hb, rfl⟩
  · intro h i hi ⟨h1, h2⟩
    rw [bi_1 i hi] at h2
    have e : i = 0 := of_decide_eq_true h2
    subst e
    rw [b_sshr l hl x (by decide), if_pos (by omega)] at h1
    exact h h1
/-! counting -/
noncomputable def gr_cnt (P : Nat → Prop) : Nat → Nat
  | 0 => 0
  | n + 1 => gr_cnt P n + @ite Nat (P n) (Classical.propDecidable (P n)) 1 0
theorem gr_c1 {P : Nat → Prop} {n : Nat} (h : P n) : gr_cnt P (n + 1) = gr_cnt P n + 1 := by
  show gr_cnt P n + @ite Nat (P n) (Classical.propDecidable (P n)) 1 0 = _
  rw [if_pos h]
theorem gr_c0 {P : Nat → Prop} {n : Nat} (h : ¬ P n) : gr_cnt P (n + 1) = gr_cnt P n := by
  show gr_cnt P n + @ite Nat (P n) (Classical.propDecidable (P n)) 1 0 = _
  rw [if_neg h]
  rfl
theorem gr_le (P : Nat → Prop) (n : Nat) : gr_cnt P n ≤ n := by
  induction n with
  | zero => exact Nat.le_refl 0
  | succ n ih =>
    by_cases h : P n
    · rw [gr_c1 h]; omega
    · rw [gr_c0 h]; omega
theorem gr_mono {P Q : Nat → Prop} (n : Nat) (h : ∀ i, i < n → P i → Q i) : gr_cnt P n ≤ gr_cnt Q n := by
  induction n with
  | zero => exact Nat.le_refl 0
  | succ n ih =>
    have ih := ih (fun i hi => h i (by omega))
    by_cases hp : P n
    · rw [gr_c1 hp, gr_c1 (h n (by omega) hp)]; omega
    · rw [gr_c0 hp]
      by_cases hq : Q n
      · rw [gr_c1 hq]; omega
      · rw [gr_c0 hq]; omega
theorem gr_lt {P Q : Nat → Prop} (n : Nat) (h : ∀ i, i < n → P i → Q i) {j : Nat} (hj : j < n) (hq : Q j) (hp : ¬ P j) : gr_cnt P n < gr_cnt Q n := by
  induction n with
  | zero => omega
  | succ n ih =>
    have hm := gr_mono n (fun i hi => h i (by omega))
    by_cases e : j = n
    · subst e
      rw [gr_c0 hp, gr_c1 hq]; omega
    · have ih := ih (fun i hi => h i (by omega)) (by omega)
      by_cases hpn : P n
      · rw [gr_c1 hpn, gr_c1 (h n (by omega) hpn)]; omega
      · rw [gr_c0 hpn]
        by_cases hqn : Q n
        · rw [gr_c1 hqn]; omega
        · rw [gr_c0 hqn]; omega
theorem gr_ltn {P : Nat → Prop} (n : Nat) {j : Nat} (hj : j < n) (hp : ¬ P j) : gr_cnt P n < n :=
  Nat.lt_of_lt_of_le (gr_lt (Q := fun _ => True) n (fun _ _ _ => trivial) hj trivial hp) (gr_le _ n)
theorem gr_congr {P Q : Nat → Prop} (n : Nat) (h : ∀ i, i < n → (P i ↔ Q i)) : gr_cnt P n = gr_cnt Q n :=
  Nat.le_antisymm (gr_mono n (fun i hi => (h i hi).mp)) (gr_mono n (fun i hi => (h i hi).mpr))
/-! the graph: D c a: cell c names cell a -/
abbrev gr_T (D : Nat → Nat → Prop) : Nat → Nat → Prop := Relation.TransGen D
def gr_A (D : Nat → Nat → Prop) : Prop := ∀ c, ¬ gr_T D c c
noncomputable def gr_r (D : Nat → Nat → Prop) (c : Nat) : Nat := gr_cnt (fun a => gr_T D c a) 16
theorem gr_r16 {D : Nat → Nat → Prop} (hA : gr_A D) {c : Nat} (hc : c < 16) : gr_r D c < 16 := gr_ltn 16 hc (hA c)
theorem gr_rD {D : Nat → Nat → Prop} (hA : gr_A D) {c a : Nat} (ha : a < 16) (h : D c a) : gr_r D a < gr_r D c :=
  gr_lt 16 (fun _ _ hx => Relation.TransGen.trans (Relation.TransGen.single h) hx) ha (Relation.TransGen.single h) (hA a)
theorem gr_head {D : Nat → Nat → Prop} {c z : Nat} (h : gr_T D c z) : ∃ a, D c a ∧ (a = z ∨ gr_T D a z) := by
  induction h with
  | single h => exact ⟨_, h, Or.inl rfl⟩
  | tail h1 h2 ih =>
    obtain ⟨a, ha, e⟩ := ih
    refine ⟨a, ha, Or.inr ?_⟩
    rcases e with e | e
    · subst e; exact Relation.TransGen.single h2
    · exact Relation.TransGen.tail e h2
theorem gr_cons {D : Nat → Nat → Prop} {c a z : Nat} (h : D c a) (h2 : a = z ∨ gr_T D a z) : gr_T D c z := by
  rcases h2 with e | e
  · subst e; exact Relation.TransGen.single h
  · exact Relation.TransGen.trans (Relation.TransGen.single h) e
/-- the row of cell z is replaced by the set N: no member of N reaches z, so no circle comes -/
theorem gr_new {D D' : Nat → Nat → Prop} {z : Nat} {N : Nat → Prop} (ho : ∀ c a, c ≠ z → D' c a → D c a) (hz : ∀ a, D' z a → N a)
    (hA : gr_A D) (hn : ∀ a, N a → ¬ (a = z ∨ gr_T D a z)) : gr_A D' := by
  have key : ∀ x y, gr_T D' x y → gr_T D x y ∨ ((x = z ∨ gr_T D x z) ∧ ∃ a, N a ∧ (a = y ∨ gr_T D a y)) := by
    intro x y h
    induction h with
    | @single y h =>
      by_cases e : x = z
      · subst e
        exact Or.inr ⟨Or.inl rfl, y, hz y h, Or.inl rfl⟩
      · exact Or.inl (Relation.TransGen.single (ho _ _ e h))
    | @tail y w h1 h2 ih =>
      by_cases e : y = z
      · subst e
        rcases ih with ih | ⟨_, a, ha, i2⟩
        · exact Or.inr ⟨Or.inr ih, w, hz w h2, Or.inl rfl⟩
        · exact absurd i2 (hn a ha)
      · have h3 := ho _ _ e h2
        rcases ih with ih | ⟨i1, a, ha, i2⟩
        · exact Or.inl (Relation.TransGen.tail ih h3)
        · refine Or.inr ⟨i1, a, ha, Or.inr ?_⟩
          rcases i2 with i2 | i2
          · subst i2; exact Relation.TransGen.single h3
          · exact Relation.TransGen.tail i2 h3
  intro c hc
  rcases key c c hc with h | ⟨h1, a, ha, h2⟩
  · exact hA c h
  · apply hn a ha
    rcases h1 with h1 | h1
    · subst h1; exact h2
    · rcases h2 with h2 | h2
      · subst h2; exact Or.inr h1
      · exact Or.inr (Relation.TransGen.trans h2 h1)
theorem gr_circ {D D' : Nat → Nat → Prop} {z a : Nat} (ho : ∀ c b, c ≠ z → D c b → D' c b) (hz : D' z a) (h : a = z ∨ gr_T D a z) : gr_T D' z z := by
  have key : ∀ x y, gr_T D x y → gr_T D' x y ∨ (x = z ∨ gr_T D' x z) := by
    intro x y h
    induction h with
    | @single y h =>
      by_cases e : x = z
      · exact Or.inr (Or.inl e)
      · exact Or.inl (Relation.TransGen.single (ho _ _ e h))
    | @tail y w h1 h2 ih =>
      rcases ih with ih | ih
      · by_cases e : y = z
        · subst e; exact Or.inr (Or.inr ih)
        · exact Or.inl (Relation.TransGen.tail ih (ho _ _ e h2))
      · exact Or.inr ih
  apply gr_cons hz
  rcases h with h | h
  · exact Or.inl h
  · rcases key a z h with k | k | k
    · exact Or.inr k
    · exact Or.inl k
    · exact Or.inr k
/-! Warshall: the least that the stages give -/
def gr_W (D : Nat → Nat → Prop) : Nat → Nat → Nat → Prop
  | 0 => D
  | k + 1 => fun a b => gr_W D k a b ∨ (gr_W D k a k ∧ gr_W D k k b)
theorem gr_Wc {D : Nat → Nat → Prop} (k : Nat) : ∀ m a b, m < k → gr_W D k a m → gr_W D k m b → gr_W D k a b := by
  induction k with
  | zero => intro m a b h; omega
  | succ k ih =>
    intro m a b hm h1 h2
    by_cases e : m = k
    · subst e
      have g1 : gr_W D m a m := by
        rcases h1 with h | ⟨h, _⟩ <;> exact h
      have g2 : gr_W D m m b := by
        rcases h2 with h | ⟨_, h⟩ <;> exact h
      exact Or.inr ⟨g1, g2⟩
    · have hm' : m < k := by omega
      rcases h1 with h1 | ⟨h1, h1'⟩ <;> rcases h2 with h2 | ⟨h2, h2'⟩
      · exact Or.inl (ih m a b hm' h1 h2)
      · exact Or.inr ⟨ih m a k hm' h1 h2, h2'⟩
      · exact Or.inr ⟨h1, ih m k b hm' h1' h2⟩
      · exact Or.inr ⟨h1, h2'⟩
theorem gr_WD {D : Nat → Nat → Prop} {a b : Nat} (h : D a b) (k : Nat) : gr_W D k a b := by
  induction k with
  | zero => exact h
  | succ k ih => exact Or.inl ih
theorem gr_WT {D : Nat → Nat → Prop} (hd : ∀ a b, D a b → b < 16) {a b : Nat} (h : gr_T D a b) : gr_W D 16 a b := by
  suffices h2 : gr_W D 16 a b ∧ b < 16 from h2.1
  induction h with
  | single h => exact ⟨gr_WD h 16, hd _ _ h⟩
  | tail _ h2 ih => exact ⟨gr_Wc 16 _ _ _ ih.2 ih.1 (gr_WD h2 16), hd _ _ h2⟩
/-! the values -/
def so_L (F : Nat → (Nat → Int32) → Int32) (D : Nat → Nat → Prop) : Prop := ∀ c, c < 16 → ∀ V V' : Nat → Int32, (∀ a, D c a → V a = V' a) → F c V = F c V'
def so_it (F : Nat → (Nat → Int32) → Int32) : Nat → Nat → Int32
  | 0 => fun _ => 0
  | p + 1 => fun c => F c (so_it F p)
def so_S (F : Nat → (Nat → Int32) → Int32) : Nat → Int32 := so_it F 16
theorem so_st {F : Nat → (Nat → Int32) → Int32} {D : Nat → Nat → Prop} (hL : so_L F D) (hA : gr_A D) (hd : ∀ a b, D a b → b < 16) (p : Nat) : ∀ c, c < 16 → gr_r D c < p → so_it F (p + 1) c = so_it F p c := by
  induction p with
  | zero => intro c _ h; omega
  | succ p ih =>
    intro c hc hr
    apply hL c hc
    intro a ha
    have h1 := gr_rD hA (hd _ _ ha) ha
    exact ih a (hd _ _ ha) (by omega)
theorem so_fix {F : Nat → (Nat → Int32) → Int32} {D : Nat → Nat → Prop} (hL : so_L F D) (hA : gr_A D) (hd : ∀ a b, D a b → b < 16) {c : Nat} (hc : c < 16) : so_S F c = F c (so_S F) :=
  (so_st hL hA hd 16 c hc (gr_r16 hA hc)).symm
/-! the stack machine -/
def sk_p (k : Int32) : Nat := if k = 0 then 0 else if k = 1 then 0 else if k = 7 then 3 else 2
def sk_h (K : Nat → Int32) : Nat → Nat
  | 0 => 0
  | t + 1 => sk_h K t - sk_p (K t) + 1
def sk_c (k x y : Int32) : Int32 := if k = 2 then x + y else if k = 3 then x - y else if k = 4 then x * y else if k = 5 then (if y ≤ x then y else x) else (if x ≤ y then y else x)
def sk_v (k a : Int32) (V s : Nat → Int32) (b : Nat) : Int32 := if k = 0 then a else if k = 1 then V a.toNatClampNeg else if k = 7 then (if s b ≤ 0 then s (b + 2) else s (b + 1)) else sk_c k (s b) (s (b + 1))
def sk_st (K A V s : Nat → Int32) : Nat → Nat → Int32
  | 0 => s
  | t + 1 => upd (sk_st K A V s t) (sk_h K t - sk_p (K t)) (sk_v (K t) (A t) V (sk_st K A V s t) (sk_h K t - sk_p (K t)))
def sk_S (K : Nat → Int32) (l : Nat) : Prop := (∀ t, t < l → sk_p (K t) ≤ sk_h K t) ∧ sk_h K l = 1
def sk_ev (K A : Nat → Int32) (l : Nat) (V : Nat → Int32) : Int32 := sk_st K A V (fun _ => 0) l 0
theorem sk_ht (K : Nat → Int32) (t : Nat) : sk_h K t ≤ t := by
  induction t with
  | zero => exact Nat.le_refl 0
  | succ t ih =>
    show sk_h K t - sk_p (K t) + 1 ≤ t + 1
    omega
theorem sk_ag {K A V V' s s' : Nat → Int32} {l : Nat} (hs : ∀ t, t < l → sk_p (K t) ≤ sk_h K t) (hV : ∀ t, t < l → K t = 1 → V (A t).toNatClampNeg = V' (A t).toNatClampNeg) :
    ∀ t, t ≤ l → ∀ j, j < sk_h K t → sk_st K A V s t j = sk_st K A V' s' t j := by
  intro t
  induction t with
  | zero => intro _ j hj; exact absurd hj (Nat.not_lt_zero j)
  | succ t ih =>
    intro ht j hj
    have ih := ih (by omega)
    have hp := hs t (by omega)
    have hv := hV t (by omega)
    have hj : j < sk_h K t - sk_p (K t) + 1 := hj
    show upd _ _ _ j = upd _ _ _ j
    by_cases e : j = sk_h K t - sk_p (K t)
    · subst e
      rw [pk_us, pk_us]
      unfold sk_v
      by_cases k0 : K t = 0
      · rw [if_pos k0, if_pos k0]
      rw [if_neg k0, if_neg k0]
      by_cases k1 : K t = 1
      · rw [if_pos k1, if_pos k1]; exact hv k1
      rw [if_neg k1, if_neg k1]
      by_cases k7 : K t = 7
      · rw [if_pos k7, if_pos k7]
        have e3 : sk_p (K t) = 3 := by unfold sk_p; rw [if_neg k0, if_neg k1, if_pos k7]
        rw [ih _ (by omega), ih _ (by omega), ih _ (by omega)]
      · rw [if_neg k7, if_neg k7]
        have e2 : sk_p (K t) = 2 := by unfold sk_p; rw [if_neg k0, if_neg k1, if_neg k7]
        rw [ih _ (by omega), ih _ (by omega)]
    · rw [pk_un e, pk_un e]
      exact ih j (by omega)
theorem sk_loc {K A V V' : Nat → Int32} {l : Nat} (hs : sk_S K l) (hV : ∀ t, t < l → K t = 1 → V (A t).toNatClampNeg = V' (A t).toNatClampNeg) : sk_ev K A l V = sk_ev K A l V' :=
  sk_ag hs.1 hV l (Nat.le_refl l) 0 (by rw [hs.2]; decide)
theorem sk_end {K A V : Nat → Int32} (s : Nat → Int32) {l : Nat} (hs : sk_S K l) : sk_st K A V s l 0 = sk_ev K A l V :=
  sk_ag hs.1 (fun _ _ _ => rfl) l (Nat.le_refl l) 0 (by rw [hs.2]; decide)
/-! the sheet -/
def sh_tok (k a : Int32) : Prop := (∃ m, m < 8 ∧ k = nI m) ∧ (k = 1 → ∃ b, b < 16 ∧ a = nI b)
def sh_D (L : Nat → Nat) (K A : Nat → Nat → Int32) (c a : Nat) : Prop := c < 16 ∧ a < 16 ∧ ∃ t, t < L c ∧ K c t = 1 ∧ A c t = nI a
noncomputable def sh_F (L : Nat → Nat) (K A : Nat → Nat → Int32) (nu : Nat → Int32) (c : Nat) (V : Nat → Int32) : Int32 := if L c = 0 then nu c else sk_ev (K c) (A c) (L c) V
def sh_OK (L : Nat → Nat) (K A : Nat → Nat → Int32) : Prop := ∀ c, c < 16 → L c ≤ 8 ∧ (∀ t, t < L c → sh_tok (K c t) (A c t)) ∧ (L c = 0 ∨ sk_S (K c) (L c))
theorem sh_dom {L : Nat → Nat} {K A : Nat → Nat → Int32} : ∀ a b, sh_D L K A a b → b < 16 := fun _ _ h => h.2.1
theorem sh_loc {L : Nat → Nat} {K A : Nat → Nat → Int32} {nu : Nat → Int32} (h : sh_OK L K A) : so_L (sh_F L K A nu) (sh_D L K A) := by
  intro c hc V V' hV
  obtain ⟨_, h2, h3⟩ := h c hc
  unfold sh_F
  by_cases e : L c = 0
  · rw [if_pos e, if_pos e]
  · rw [if_neg e, if_neg e]
    apply sk_loc (h3.resolve_left e)
    intro t ht k1
    obtain ⟨b, hb, eb⟩ := (h2 t ht).2 k1
    rw [eb, nI_clamp (by omega)]
    exact hV b ⟨hc, hb, t, ht, k1, eb⟩
/-- two cells given: the row's and the column's -/
noncomputable def sh_G (L : Nat → Nat) (K A : Nat → Nat → Int32) (nu : Nat → Int32) (r : Nat) (x : Int32) (q : Nat) (y : Int32) (c : Nat) (V : Nat → Int32) : Int32 :=
  if c = r then x else if c = q then y else sh_F L K A nu c V
theorem sh_gloc {L : Nat → Nat} {K A : Nat → Nat → Int32} {nu : Nat → Int32} (h : sh_OK L K A) (r : Nat) (x : Int32) (q : Nat) (y : Int32) : so_L (sh_G L K A nu r x q y) (sh_D L K A) := by
  intro c hc V V' hV
  unfold sh_G
  by_cases e : c = r
  · rw [if_pos e, if_pos e]
  · rw [if_neg e, if_neg e]
    by_cases e2 : c = q
    · rw [if_pos e2, if_pos e2]
    · rw [if_neg e2, if_neg e2]
      exact sh_loc h c hc V V' hV
end
section
section
variable {xn xr xc xR xC : Int32} {tk ta nu fl fk fa dc vl fo tr sk ri ci en : Nat → Int32}
theorem sk_p3 (k : Int32) : sk_p k ≤ 3 := by
  unfold sk_p
  split
  · omega
  split
  · omega
  split <;> omega
theorem xa_cellT {post : Int32 → Prop} {c : Nat} (hc : c < 16) (h : post 1) : wpX_isCell post (nI c) :=
  br_f (nI_pos (by omega)) (br_f (nI_ge (b := 16) hc (by decide)) h)
theorem xa_cellF {post : Int32 → Prop} {p : Int32} (hp : p < 0 ∨ nI 16 ≤ p) (h : post 0) : wpX_isCell post p :=
  br_c (fun _ => h) (fun n => br_t (hp.resolve_left n) h)
theorem xa_pops {post : Int32 → Prop} {k k' : Int32} (e : k = k') (h : post (nI (sk_p k'))) : wpX_popsOf post k := by
  subst e
  unfold sk_p at h
  refine br_c (fun k0 => ?_) (fun k0 => br_c (fun k1 => ?_) (fun k1 => br_c (fun k7 => ?_) (fun k7 => ?_)))
  · rw [if_pos k0] at h; exact h
  · rw [if_neg k0, if_pos k1] at h; exact h
  · rw [if_neg k0, if_neg k1, if_pos k7] at h; exact h
  · rw [if_neg k0, if_neg k1, if_neg k7] at h; exact h
theorem sk_step {K : Nat → Int32} {t : Nat} (h : sk_p (K t) ≤ sk_h K t) : nI (sk_h K t) - nI (sk_p (K t)) + 1 = nI (sk_h K (t + 1)) := by
  rw [pk_sub h, nI_1]
  rfl
theorem xa_sound {post : Int32 → Prop} {n : Nat} (TK : Nat → Int32) (hn : n ≤ 8) (hT : ∀ t, t < n → tk t = TK t) (h1 : sk_S TK n → post 1) (h0 : ¬ sk_S TK n → post 0) : wpX_typedIsSound post (nI n, xr, xc, xR, xC, tk, ta, nu, fl, fk, fa, dc, vl, fo, tr, sk, ri, ci, en) := by
  have L : ∀ d t, t + d = n → (∀ i, i < t → sk_p (TK i) ≤ sk_h TK i) → wX_typedIsSound_4 post (nI n) xr xc xR xC tk ta nu fl fk fa dc vl fo tr sk ri ci en (d + 1) (nI (sk_h TK t)) (nI t) := by
    intro d
    induction d with
    | zero =>
      intro t ht hi
      have e : t = n := ht
      subst e
      have hh := sk_ht TK t
      exact br_t (nI_le (Nat.le_refl t) (by omega)) (pk_eq (sk_h TK t) 1 (fun e => h1 ⟨hi, e⟩) (fun e => h0 (fun z => e z.2)))
    | succ d ih =>
      intro t ht hi
      have hh := sk_ht TK t
      have hp3 := sk_p3 (TK t)
      refine br_f (nI_ge (by omega) (by omega)) ⟨vp_in_nI (by omega) (by omega), xa_pops (k' := TK t) (by rw [nI_clamp (by omega)]; exact hT t (by omega)) ?_⟩
      refine pk_le (sk_p (TK t)) (sk_h TK t) (fun hp => nm_r (sk_step hp) (nm_r (nI_1 t) (ih (t + 1) (by omega) ?_))) (fun hp => h0 (fun z => ?_))
      · intro i hi'
        by_cases e : i = t
        · subst e; exact hp
        · exact hi i (by omega)
      · have := z.1 t (by omega)
        omega
  exact ⟨n + 1, L n 0 (by omega) (fun i hi => absurd hi (Nat.not_lt_zero i))⟩
/-- cell i is named by one of the first n typed tokens -/
def sh_N (TK TA : Nat → Int32) (n i : Nat) : Prop := i < 16 ∧ ∃ t, t < n ∧ TK t = 1 ∧ TA t = nI i
theorem xa_named {post : Int32 → Prop} {n : Nat} (TK TA : Nat → Int32) (hn : n ≤ 8) (hT : ∀ t, t < n → tk t = TK t ∧ ta t = TA t) (hV : ∀ t, t < n → sh_tok (TK t) (TA t))
    (h : ∀ m : Int32, (∀ i, i < 32 → (bt m i = true ↔ sh_N TK TA n i)) → post m) : wpX_cellsNamedByTyped post (nI n, xr, xc, xR, xC, tk, ta, nu, fl, fk, fa, dc, vl, fo, tr, sk, ri, ci, en) := by
  have L : ∀ d t, t + d = n → ∀ m : Int32, (∀ i, i < 32 → (bt m i = true ↔ sh_N TK TA t i)) → wX_cellsNamedByTyped_4 post (nI n) xr xc xR xC tk ta nu fl fk fa dc vl fo tr sk ri ci en (d + 1) m (nI t) := by
    intro d
    induction d with
    | zero =>
      intro t ht m hm
      have e : t = n := ht
      subst e
      exact br_t (nI_le (Nat.le_refl t) (by omega)) (h m hm)
    | succ d ih =>
      intro t ht m hm
      have et := hT t (by omega)
      have ec : (nI t).toNatClampNeg = t := nI_clamp (by omega)
      have hin : vp_in (nI t) 8 := vp_in_nI (by omega) (by omega)
      refine br_f (nI_ge (by omega) (by omega)) ⟨hin, br_c (fun k1 => ?_) (fun k1 => nm_r (nI_1 t) (ih (t + 1) (by omega) m ?_))⟩
      · have k1 : TK t = 1 := by rw [← et.1]; rw [ec] at k1; exact k1
        obtain ⟨b, hb, eb⟩ := (hV t (by omega)).2 k1
        refine ⟨hin, nm_r (e' := m ||| ((1 : Int32) <<< (nI b &&& 31))) (by rw [ec, et.2, eb]) (nm_r (nI_1 t) (ih (t + 1) (by omega) _ ?_))⟩
        intro i hi
        rw [bi_or1 (by omega) hi, hm i hi]
        constructor
        · intro z
          rcases z with ⟨z1, s, z2, z3⟩ | z
          · exact ⟨z1, s, by omega, z3⟩
          · subst z; exact ⟨hb, t, by omega, k1, eb⟩
        · intro ⟨z1, s, z2, z3, z4⟩
          by_cases e : s = t
          · subst e
            right
            rw [eb, nI_eq (by omega) (by omega)] at z4
            exact z4.symm
          · exact Or.inl ⟨z1, s, by omega, z3, z4⟩
      · have k1 : ¬ TK t = 1 := by rw [← et.1]; rw [ec] at k1; exact k1
        intro i hi
        rw [hm i hi]
        constructor
        · intro ⟨z1, s, z2, z3⟩
          exact ⟨z1, s, by omega, z3⟩
        · intro ⟨z1, s, z2, z3, z4⟩
          have e : s ≠ t := fun e => k1 (e ▸ z3)
          exact ⟨z1, s, by omega, z3, z4⟩
  refine ⟨n + 1, L n 0 (by omega) 0 ?_⟩
  intro i _
  rw [b_0]
  exact ⟨fun z => absurd z (by decide), fun ⟨_, s, z, _⟩ => absurd z (Nat.not_lt_zero s)⟩
/-- cell a is z, or depends on it -/
def sh_R (D : Nat → Nat → Prop) (z a : Nat) : Prop := a = z ∨ gr_T D a z
/-- the words of X's sets for the graph D -/
def sh_B (D : Nat → Nat → Prop) (dc : Nat → Int32) : Prop := ∀ c, c < 16 → ∀ i, i < 32 → (bt (dc c) i = true ↔ D c i)
def sh_dm (D : Nat → Nat → Prop) : Prop := ∀ c a, D c a → c < 16 ∧ a < 16
theorem sh_R16 {D : Nat → Nat → Prop} (hd : sh_dm D) {z a : Nat} (hz : z < 16) (h : sh_R D z a) : a < 16 := by
  rcases h with h | h
  · omega
  · obtain ⟨b, hb, _⟩ := gr_head h
    exact (hd _ _ hb).1
def xa_I (D : Nat → Nat → Prop) (z p x : Nat) (m : Int32) : Prop :=
  (∀ i, i < 32 → bt m i = true → sh_R D z i) ∧ bt m z = true ∧ (∀ a, a < 16 → sh_R D z a → (gr_r D a < p ∨ (gr_r D a ≤ p ∧ a < x)) → bt m a = true)
theorem xa_dep15 {post : Int32 → Prop} {J : Int32 → Int32 → Prop} {D : Nat → Nat → Prop} (hA : gr_A D) (hd : sh_dm D) (hB : sh_B D dc) {z p : Nat} (hz : z < 16) (hp : p < 16)
    (h : ∀ m, xa_I D z (p + 1) 0 m → J m (nI (p + 1))) : ∀ d x, x + d = 16 → ∀ m, xa_I D z p x m → wX_cellAndDependents_15 post J (nI p) xn xr xc xR xC tk ta nu fl fk fa dc vl fo tr sk ri ci en (d + 1) m (nI x) := by
  intro d
  induction d with
  | zero =>
    intro x hx m hm
    have e : x = 16 := hx
    subst e
    refine br_t (nI_le (Nat.le_refl 16) (by decide)) (nm_r (nI_1 p) (h m ⟨hm.1, hm.2.1, ?_⟩))
    intro a ha hr h2
    exact hm.2.2 a ha hr (by omega)
  | succ d ih =>
    intro x hx m hm
    have ec : (nI x).toNatClampNeg = x := nI_clamp (by omega)
    obtain ⟨m1, m2, m3⟩ := hm
    refine br_f (nI_ge (b := 16) (by omega) (by decide)) ⟨vp_in_nI (by omega) (by omega), br_c (fun k => ?_) (fun k => ?_)⟩
    · rw [ec, bi_and0] at k
      refine nm_r (nI_1 x) (ih (x + 1) (by omega) m ⟨m1, m2, ?_⟩)
      intro a ha hr h2
      by_cases e : a = x ∧ ¬ gr_r D a < p
      · obtain ⟨e, e2⟩ := e
        subst e
        rcases hr with hr | hr
        · subst hr; exact m2
        · obtain ⟨b, hb, hb2⟩ := gr_head hr
          have hb16 := (hd _ _ hb).2
          have hlt := gr_rD hA hb16 hb
          have hm' := m3 b hb16 hb2 (by omega)
          exact absurd ⟨(hB a ha b (by omega)).mpr hb, hm'⟩ (k b (by omega))
      · exact m3 a ha hr (by omega)
    · rw [ec, bi_and0] at k
      have k : ∃ i, i < 32 ∧ bt (dc x) i = true ∧ bt m i = true := by
        refine Classical.byContradiction fun n => k (fun i hi z => n ⟨i, hi, z⟩)
      obtain ⟨i, hi, k1, k2⟩ := k
      have kD := (hB x (by omega) i hi).mp k1
      have kR := m1 i hi k2
      have xR : sh_R D z x := Or.inr (gr_cons kD kR)
      refine nm_e (nm_r (nI_1 x) (ih (x + 1) (by omega) _ ⟨?_, ?_, ?_⟩))
      · intro j hj b
        rw [bi_or1 (by omega) hj] at b
        rcases b with b | b
        · exact m1 j hj b
        · subst b; exact xR
      · rw [bi_or1 (by omega) (by omega)]; exact Or.inl m2
      · intro a ha hr h2
        rw [bi_or1 (by omega) (by omega)]
        by_cases e : a = x
        · exact Or.inr e
        · exact Or.inl (m3 a ha hr (by omega))
theorem xa_dep {post : Int32 → Prop} {D : Nat → Nat → Prop} (hA : gr_A D) (hd : sh_dm D) (hB : sh_B D dc) {z : Nat} (hz : z < 16)
    (h : ∀ m : Int32, (∀ i, i < 32 → (bt m i = true ↔ sh_R D z i)) → post m) : wpX_cellAndDependents post (xn, xr, xc, xR, xC, tk, ta, nu, fl, fk, fa, dc, vl, fo, tr, sk, ri, ci, en) (nI z) := by
  have L : ∀ d p, p + d = 16 → ∀ m, xa_I D z p 0 m → wX_cellAndDependents_6 post xn xr xc xR xC tk ta nu fl fk fa dc vl fo tr sk ri ci en (d + 1) m (nI p) := by
    intro d
    induction d with
    | zero =>
      intro p hp m hm
      have e : p = 16 := hp
      subst e
      refine br_t (nI_le (Nat.le_refl 16) (by decide)) (h m fun i hi => ⟨hm.1 i hi, fun hr => ?_⟩)
      have h16 := sh_R16 hd hz hr
      exact hm.2.2 i h16 hr (Or.inl (gr_r16 hA h16))
    | succ d ih =>
      intro p hp m hm
      exact br_f (nI_ge (b := 16) (by omega) (by decide)) ⟨17, xa_dep15 hA hd hB hz (by omega) (fun m' hm' => ih (p + 1) (by omega) m' hm') 16 0 rfl m hm⟩
  refine nm_e ⟨17, L 16 0 rfl _ ⟨?_, ?_, ?_⟩⟩
  · intro i hi b
    rw [bi_one (by omega) hi] at b
    exact Or.inl (of_decide_eq_true b)
  · rw [bi_one (by omega) (by omega)]; exact decide_eq_true rfl
  · intro a _ _ h2
    omega
theorem xa_judge {post : Int32 → Prop} {n : Nat} (TK TA : Nat → Int32) (hn : n ≤ 8) (hT : ∀ t, t < n → tk t = TK t ∧ ta t = TA t) (hV : ∀ t, t < n → sh_tok (TK t) (TA t))
    {D : Nat → Nat → Prop} (hA : gr_A D) (hd : sh_dm D) (hB : sh_B D dc) {z : Nat} (hz : z < 16)
    (h1 : ¬ sk_S TK n → post (-4)) (h2 : sk_S TK n → (∃ a, sh_N TK TA n a ∧ sh_R D z a) → post (-5)) (h3 : sk_S TK n → (∀ a, sh_N TK TA n a → ¬ sh_R D z a) → post 0) : wpX_judgeTyped post (nI n, xr, xc, xR, xC, tk, ta, nu, fl, fk, fa, dc, vl, fo, tr, sk, ri, ci, en) (nI z) := by
  unfold wpX_judgeTyped
  refine xa_sound TK hn (fun t ht => (hT t ht).1) (fun hs => br_f (by decide) ?_) (fun hs => br_t rfl (h1 hs))
  refine xa_dep hA hd hB hz (fun m hm => ?_)
  refine xa_named TK TA hn hT hV (fun m' hm' => ?_)
  refine br_c (fun k => h3 hs ?_) (fun k => h2 hs ?_)
  · rw [bi_and0] at k
    intro a ha hr
    have := ha.1
    exact k a (by omega) ⟨(hm' a (by omega)).mpr ha, (hm a (by omega)).mpr hr⟩
  · rw [bi_and0] at k
    refine Classical.byContradiction fun n => k (fun i hi z => n ⟨i, (hm' i hi).mp z.1, (hm i hi).mp z.2⟩)
end
end
section
section
variable {xn xr xc xR xC : Int32} {tk ta nu fl fk fa dc vl fo tr sk ri ci en : Nat → Int32}
/-- the arrays fl, fk, fa hold the sheet L, K, A -/
def sh_P (L : Nat → Nat) (K A : Nat → Nat → Int32) (fl fk fa : Nat → Int32) : Prop := ∀ c, c < 16 → fl c = nI (L c) ∧ ∀ t, t < L c → fk (c * 8 + t) = K c t ∧ fa (c * 8 + t) = A c t
theorem xa_hold {post : SX → Prop} {n : Nat} (TK TA : Nat → Int32) (hn : n ≤ 8) (hT : ∀ t, t < n → tk t = TK t ∧ ta t = TA t) (hV : ∀ t, t < n → sh_tok (TK t) (TA t)) {z : Nat} (hz : z < 16)
    (h : ∀ (m : Int32) (fk' fa' : Nat → Int32), (∀ i, i < 32 → (bt m i = true ↔ sh_N TK TA n i)) → (∀ t, t < n → fk' (z * 8 + t) = TK t ∧ fa' (z * 8 + t) = TA t) →
      (∀ i, ¬ (z * 8 ≤ i ∧ i < z * 8 + 8) → fk' i = fk i ∧ fa' i = fa i) → post (nI n, xr, xc, xR, xC, tk, ta, nu, upd fl z (nI n), fk', fa', upd dc z m, vl, fo, tr, sk, ri, ci, en)) : wpX_holdTyped post (nI n, xr, xc, xR, xC, tk, ta, nu, fl, fk, fa, dc, vl, fo, tr, sk, ri, ci, en) (nI z) := by
  have L : ∀ d t, t + d = n → ∀ fk' fa' : Nat → Int32, (∀ s, s < t → fk' (z * 8 + s) = TK s ∧ fa' (z * 8 + s) = TA s) →
      (∀ i, ¬ (z * 8 ≤ i ∧ i < z * 8 + 8) → fk' i = fk i ∧ fa' i = fa i) → wX_holdTyped_7 post (nI z) (nI (z * 8)) (nI n) xr xc xR xC (d + 1) (nI t) tk ta nu fl fk' fa' dc vl fo tr sk ri ci en := by
    intro d
    induction d with
    | zero =>
      intro t ht fk' fa' h1 h2
      have e : t = n := ht
      subst e
      have ec : (nI z).toNatClampNeg = z := nI_clamp (by omega)
      have hin : vp_in (nI z) 16 := vp_in_nI hz (by omega)
      refine br_t (nI_le (Nat.le_refl t) (by omega)) ⟨hin, nm_r (e' := upd fl z (nI t)) (by rw [ec]) (xa_named TK TA hn hT hV (fun m hm => ⟨hin, nm_r (e' := upd dc z m) (by rw [ec]) (h m fk' fa' hm h1 h2)⟩))⟩
    | succ d ih =>
      intro t ht fk' fa' h1 h2
      have ec : (nI t).toNatClampNeg = t := nI_clamp (by omega)
      have ea : nI (z * 8) + nI t = nI (z * 8 + t) := nI_add _ _
      have ei : (nI (z * 8) + nI t).toNatClampNeg = z * 8 + t := by rw [ea, nI_clamp (by omega)]
      have hin : vp_in (nI t) 8 := vp_in_nI (by omega) (by omega)
      have hi2 : vp_in (nI (z * 8) + nI t) 128 := by rw [ea]; exact vp_in_nI (by omega) (by omega)
      have et := hT t (by omega)
      refine br_f (nI_ge (by omega) (by omega)) ⟨hin, hi2, nm_r (e' := upd fk' (z * 8 + t) (TK t)) (by rw [ei, ec, et.1]) ⟨hin, hi2, nm_r (e' := upd fa' (z * 8 + t) (TA t)) (by rw [ei, ec, et.2]) (nm_r (nI_1 t) (ih (t + 1) (by omega) _ _ ?_ ?_))⟩⟩
      · intro s hs
        by_cases e : s = t
        · subst e; rw [pk_us, pk_us]; exact ⟨rfl, rfl⟩
        · rw [pk_un (by omega), pk_un (by omega)]; exact h1 s (by omega)
      · intro i hi
        rw [pk_un (by omega), pk_un (by omega)]; exact h2 i hi
  refine nm_r (e' := nI (z * 8)) (pk_mul z 8) ⟨n + 1, L n 0 (by omega) fk fa (fun s hs => absurd hs (Nat.not_lt_zero s)) (fun i _ => ⟨rfl, rfl⟩)⟩
theorem xa_has {post : Int32 → Prop} {m : Int32} {c : Nat} (hc : c < 32) (h0 : ¬ bt m c = true → post 0) (h1 : bt m c = true → post 1) : wpX_contains post m (nI c) := by
  refine br_c (fun k => h0 ?_) (fun k => h1 ?_)
  · exact (bi_has hc).mp k
  · exact Classical.byContradiction fun n => k ((bi_has hc).mpr n)
theorem xa_comb {post : Int32 → Prop} {m : Nat} {k x y : Int32} (hk : k = nI m) (h2 : 2 ≤ m) (h6 : m ≤ 6) (h : post (sk_c k x y)) : wpX_combine post k x y := by
  subst hk
  refine br_f (nI_nlt (b := 2) h2 (by omega)) (br_f (nI_nlt (a := 6) h6 (by omega)) ?_)
  unfold sk_c at h
  refine br_c (fun k2 => ?_) (fun k2 => br_c (fun k3 => ?_) (fun k3 => br_c (fun k4 => ?_) (fun k4 => br_c (fun k5 => ?_) (fun k5 => br_c (fun k6 => ?_) (fun k6 => trivial)))))
  · rw [if_pos k2] at h; exact h
  · rw [if_neg k2, if_pos k3] at h; exact h
  · rw [if_neg k2, if_neg k3, if_pos k4] at h; exact h
  · rw [if_neg k2, if_neg k3, if_neg k4, if_pos k5] at h
    refine br_c (fun q => ?_) (fun q => ?_)
    · rw [if_pos q] at h; exact h
    · rw [if_neg q] at h; exact h
  · rw [if_neg k2, if_neg k3, if_neg k4, if_neg k5] at h
    refine br_c (fun q => ?_) (fun q => ?_)
    · rw [if_pos q] at h; exact h
    · rw [if_neg q] at h; exact h
end
section
variable {xn xr xc xR xC : Int32} {tk ta nu fl fk fa dc vl fo tr sk ri ci en : Nat → Int32}
theorem xa_off_values {post : Int32 → SX → Prop} {K A : Nat → Int32} {c l : Nat} (hc : c < 16) (hl : l ≤ 8) (el : fl c = nI l) (hf : ∀ t, t < l → fk (c * 8 + t) = K t ∧ fa (c * 8 + t) = A t) (hV : ∀ t, t < l → sh_tok (K t) (A t)) (hS : sk_S K l)
    (h : ∀ s, post (sk_ev K A l vl) (xn, xr, xc, xR, xC, tk, ta, nu, fl, fk, fa, dc, vl, fo, tr, s, ri, ci, en)) : wpX_workOffFormula__values post (xn, xr, xc, xR, xC, tk, ta, nu, fl, fk, fa, dc, vl, fo, tr, sk, ri, ci, en) (nI c) := by
  have L : ∀ d t, t + d = l → wX_workOffFormula__values_11 post (nI c) (nI (c * 8)) xn xr xc xR xC (d + 1) (nI (sk_h K t)) (nI t) tk ta nu fl fk fa dc vl fo tr (sk_st K A vl sk t) ri ci en := by
    intro d
    have ecc : (nI c).toNatClampNeg = c := nI_clamp (by omega)
    have hinc : vp_in (nI c) 16 := vp_in_nI hc (by omega)
    induction d with
    | zero =>
      intro t ht
      have e : t = l := ht
      subst e
      refine ⟨hinc, br_t (by rw [ecc, el]; exact nI_le (Nat.le_refl t) (by omega)) ?_⟩
      have := h (sk_st K A vl sk t)
      rw [← sk_end sk hS] at this
      exact this
    | succ d ih =>
      intro t ht
      have ec : (nI t).toNatClampNeg = t := nI_clamp (by omega)
      have ea : nI (c * 8) + nI t = nI (c * 8 + t) := nI_add _ _
      have ei : (nI (c * 8) + nI t).toNatClampNeg = c * 8 + t := by rw [ea, nI_clamp (by omega)]
      have hi2 : vp_in (nI (c * 8) + nI t) 128 := by rw [ea]; exact vp_in_nI (by omega) (by omega)
      obtain ⟨ek, ear⟩ := hf t (by omega)
      obtain ⟨⟨m, hm, em⟩, hcell⟩ := hV t (by omega)
      have hp := hS.1 t (by omega)
      have hh := sk_ht K t
      have ih := ih (t + 1) (by omega)
      have eh : sk_h K (t + 1) = sk_h K t - sk_p (K t) + 1 := rfl
      have es : sk_st K A vl sk (t + 1) = upd (sk_st K A vl sk t) (sk_h K t - sk_p (K t)) (sk_v (K t) (A t) vl (sk_st K A vl sk t) (sk_h K t - sk_p (K t))) := rfl
      rw [eh, es] at ih
      refine ⟨hinc, br_f (by rw [ecc, el]; exact nI_ge (by omega) (by omega)) ⟨hi2, nm_r (e' := K t) (by rw [ei, ek]) ⟨hi2, nm_r (e' := A t) (by rw [ei, ear]) (xa_pops rfl (nm_r (pk_sub hp) ?_))⟩⟩⟩
      generalize hb : sk_h K t - sk_p (K t) = b at ih ⊢
      have hb8 : b < 8 := by omega
      have ecb : (nI b).toNatClampNeg = b := nI_clamp (by omega)
      have hinb : vp_in (nI b) 8 := vp_in_nI hb8 (by omega)
      unfold sk_v at ih
      refine br_c (fun k0 => ⟨hinb, ?_⟩) (fun k0 => br_c (fun k1 => ?_) (fun k1 => br_c (fun k7 => ⟨hinb, ?_⟩) (fun k7 => ⟨hinb, ?_⟩)))
      · rw [if_pos k0] at ih
        exact nm_r (by rw [ecb]) (nm_r (nI_1 b) (nm_r (nI_1 t) ih))
      · rw [if_neg k0, if_pos k1] at ih
        obtain ⟨a, ha, ea'⟩ := hcell k1
        refine ⟨by rw [ea']; exact vp_in_nI ha (by omega), hinb, nm_r (by rw [ecb]) (nm_r (nI_1 b) (nm_r (nI_1 t) ih))⟩
      · rw [if_neg k0, if_neg k1, if_pos k7] at ih
        have e3 : sk_p (K t) = 3 := by unfold sk_p; rw [if_neg k0, if_neg k1, if_pos k7]
        have e1 : nI b + 1 = nI (b + 1) := nI_1 b
        have e2 : nI b + 2 = nI (b + 2) := nI_add b 2
        have ec1 : (nI b + 1).toNatClampNeg = b + 1 := by rw [e1, nI_clamp (by omega)]
        have ec2 : (nI b + 2).toNatClampNeg = b + 2 := by rw [e2, nI_clamp (by omega)]
        refine br_c (fun q => ?_) (fun q => ?_)
        · rw [ecb] at q
          rw [if_pos q] at ih
          exact ⟨by rw [e2]; exact vp_in_nI (by omega) (by omega), hinb, nm_r (by rw [ecb, ec2]) (nm_r (nI_1 b) (nm_r (nI_1 t) ih))⟩
        · rw [ecb] at q
          rw [if_neg q] at ih
          exact ⟨by rw [e1]; exact vp_in_nI (by omega) (by omega), hinb, nm_r (by rw [ecb, ec1]) (nm_r (nI_1 b) (nm_r (nI_1 t) ih))⟩
      · rw [if_neg k0, if_neg k1, if_neg k7] at ih
        have e2 : sk_p (K t) = 2 := by unfold sk_p; rw [if_neg k0, if_neg k1, if_neg k7]
        have e1 : nI b + 1 = nI (b + 1) := nI_1 b
        have ec1 : (nI b + 1).toNatClampNeg = b + 1 := by rw [e1, nI_clamp (by omega)]
        have n0 : m ≠ 0 := fun z => k0 (by rw [em, z]; rfl)
        have n1 : m ≠ 1 := fun z => k1 (by rw [em, z]; rfl)
        have n7 : m ≠ 7 := fun z => k7 (by rw [em, z]; rfl)
        refine ⟨by rw [e1]; exact vp_in_nI (by omega) (by omega), xa_comb em (by omega) (by omega) ⟨hinb, nm_r (by rw [ecb, ec1]) (nm_r (nI_1 b) (nm_r (nI_1 t) ih))⟩⟩
  refine nm_r (e' := nI (c * 8)) (pk_mul c 8) ⟨l + 1, L l 0 (by omega)⟩
end
section
variable {xn xr xc xR xC : Int32} {tk ta nu fl fk fa dc vl fo tr sk ri ci en : Nat → Int32}
theorem xa_off_trialValues {post : Int32 → SX → Prop} {K A : Nat → Int32} {c l : Nat} (hc : c < 16) (hl : l ≤ 8) (el : fl c = nI l) (hf : ∀ t, t < l → fk (c * 8 + t) = K t ∧ fa (c * 8 + t) = A t) (hV : ∀ t, t < l → sh_tok (K t) (A t)) (hS : sk_S K l)
    (h : ∀ s, post (sk_ev K A l tr) (xn, xr, xc, xR, xC, tk, ta, nu, fl, fk, fa, dc, vl, fo, tr, s, ri, ci, en)) : wpX_workOffFormula__trialValues post (xn, xr, xc, xR, xC, tk, ta, nu, fl, fk, fa, dc, vl, fo, tr, sk, ri, ci, en) (nI c) := by
  have L : ∀ d t, t + d = l → wX_workOffFormula__trialValues_11 post (nI c) (nI (c * 8)) xn xr xc xR xC (d + 1) (nI (sk_h K t)) (nI t) tk ta nu fl fk fa dc vl fo tr (sk_st K A tr sk t) ri ci en := by
    intro d
    have ecc : (nI c).toNatClampNeg = c := nI_clamp (by omega)
    have hinc : vp_in (nI c) 16 := vp_in_nI hc (by omega)
    induction d with
    | zero =>
      intro t ht
      have e : t = l := ht
      subst e
      refine ⟨hinc, br_t (by rw [ecc, el]; exact nI_le (Nat.le_refl t) (by omega)) ?_⟩
      have := h (sk_st K A tr sk t)
      rw [← sk_end sk hS] at this
      exact this
    | succ d ih =>
      intro t ht
      have ec : (nI t).toNatClampNeg = t := nI_clamp (by omega)
      have ea : nI (c * 8) + nI t = nI (c * 8 + t) := nI_add _ _
      have ei : (nI (c * 8) + nI t).toNatClampNeg = c * 8 + t := by rw [ea, nI_clamp (by omega)]
      have hi2 : vp_in (nI (c * 8) + nI t) 128 := by rw [ea]; exact vp_in_nI (by omega) (by omega)
      obtain ⟨ek, ear⟩ := hf t (by omega)
      obtain ⟨⟨m, hm, em⟩, hcell⟩ := hV t (by omega)
      have hp := hS.1 t (by omega)
      have hh := sk_ht K t
      have ih := ih (t + 1) (by omega)
      have eh : sk_h K (t + 1) = sk_h K t - sk_p (K t) + 1 := rfl
      have es : sk_st K A tr sk (t + 1) = upd (sk_st K A tr sk t) (sk_h K t - sk_p (K t)) (sk_v (K t) (A t) tr (sk_st K A tr sk t) (sk_h K t - sk_p (K t))) := rfl
      rw [eh, es] at ih
      refine ⟨hinc, br_f (by rw [ecc, el]; exact nI_ge (by omega) (by omega)) ⟨hi2, nm_r (e' := K t) (by rw [ei, ek]) ⟨hi2, nm_r (e' := A t) (by rw [ei, ear]) (xa_pops rfl (nm_r (pk_sub hp) ?_))⟩⟩⟩
      generalize hb : sk_h K t - sk_p (K t) = b at ih ⊢
      have hb8 : b < 8 := by omega
      have ecb : (nI b).toNatClampNeg = b := nI_clamp (by omega)
      have hinb : vp_in (nI b) 8 := vp_in_nI hb8 (by omega)
      unfold sk_v at ih
      refine br_c (fun k0 => ⟨hinb, ?_⟩) (fun k0 => br_c (fun k1 => ?_) (fun k1 => br_c (fun k7 => ⟨hinb, ?_⟩) (fun k7 => ⟨hinb, ?_⟩)))
      · rw [if_pos k0] at ih
        exact nm_r (by rw [ecb]) (nm_r (nI_1 b) (nm_r (nI_1 t) ih))
      · rw [if_neg k0, if_pos k1] at ih
        obtain ⟨a, ha, ea'⟩ := hcell k1
        refine ⟨by rw [ea']; exact vp_in_nI ha (by omega), hinb, nm_r (by rw [ecb]) (nm_r (nI_1 b) (nm_r (nI_1 t) ih))⟩
      · rw [if_neg k0, if_neg k1, if_pos k7] at ih
        have e3 : sk_p (K t) = 3 := by unfold sk_p; rw [if_neg k0, if_neg k1, if_pos k7]
        have e1 : nI b + 1 = nI (b + 1) := nI_1 b
        have e2 : nI b + 2 = nI (b + 2) := nI_add b 2
        have ec1 : (nI b + 1).toNatClampNeg = b + 1 := by rw [e1, nI_clamp (by omega)]
        have ec2 : (nI b + 2).toNatClampNeg = b + 2 := by rw [e2, nI_clamp (by omega)]
        refine br_c (fun q => ?_) (fun q => ?_)
        · rw [ecb] at q
          rw [if_pos q] at ih
          exact ⟨by rw [e2]; exact vp_in_nI (by omega) (by omega), hinb, nm_r (by rw [ecb, ec2]) (nm_r (nI_1 b) (nm_r (nI_1 t) ih))⟩
        · rw [ecb] at q
          rw [if_neg q] at ih
          exact ⟨by rw [e1]; exact vp_in_nI (by omega) (by omega), hinb, nm_r (by rw [ecb, ec1]) (nm_r (nI_1 b) (nm_r (nI_1 t) ih))⟩
      · rw [if_neg k0, if_neg k1, if_neg k7] at ih
        have e2 : sk_p (K t) = 2 := by unfold sk_p; rw [if_neg k0, if_neg k1, if_neg k7]
        have e1 : nI b + 1 = nI (b + 1) := nI_1 b
        have ec1 : (nI b + 1).toNatClampNeg = b + 1 := by rw [e1, nI_clamp (by omega)]
        have n0 : m ≠ 0 := fun z => k0 (by rw [em, z]; rfl)
        have n1 : m ≠ 1 := fun z => k1 (by rw [em, z]; rfl)
        have n7 : m ≠ 7 := fun z => k7 (by rw [em, z]; rfl)
        refine ⟨by rw [e1]; exact vp_in_nI (by omega) (by omega), xa_comb em (by omega) (by omega) ⟨hinb, nm_r (by rw [ecb, ec1]) (nm_r (nI_1 b) (nm_r (nI_1 t) ih))⟩⟩
  refine nm_r (e' := nI (c * 8)) (pk_mul c 8) ⟨l + 1, L l 0 (by omega)⟩
end
end
section
def xa_W (g : Int32) (S : Nat → Int32) (D : Nat → Nat → Prop) (p x : Nat) (m : Int32) (v : Nat → Int32) : Prop :=
  (∀ a, a < 16 → bt m a = true → v a = S a) ∧ (∀ a, a < 16 → bt g a = true → bt m a = true) ∧ (∀ a, a < 16 → (gr_r D a < p ∨ (gr_r D a ≤ p ∧ a < x)) → bt m a = true)
theorem xa_Wput {g : Int32} {S : Nat → Int32} {D : Nat → Nat → Prop} {p x : Nat} {m : Int32} {v : Nat → Int32} {w : Int32} (hx : x < 16) (h : xa_W g S D p x m v) (hw : w = S x) :
    xa_W g S D p (x + 1) (m ||| ((1 : Int32) <<< (nI x &&& 31))) (upd v x w) := by
  obtain ⟨h1, h2, h3⟩ := h
  refine ⟨?_, ?_, ?_⟩
  · intro a ha hb
    rw [bi_or1 (by omega) (by omega)] at hb
    by_cases e : a = x
    · subst e; rw [pk_us]; exact hw
    · rw [pk_un e]; exact h1 a ha (hb.resolve_right e)
  · intro a ha hb
    rw [bi_or1 (by omega) (by omega)]; exact Or.inl (h2 a ha hb)
  · intro a ha hb
    rw [bi_or1 (by omega) (by omega)]
    by_cases e : a = x
    · exact Or.inr e
    · exact Or.inl (h3 a ha (by omega))
theorem xa_Wskip {g : Int32} {S : Nat → Int32} {D : Nat → Nat → Prop} {p x : Nat} {m : Int32} {v : Nat → Int32} (hx : x < 16) (h : xa_W g S D p x m v) (hw : gr_r D x ≤ p → bt m x = true) :
    xa_W g S D p (x + 1) m v := by
  obtain ⟨h1, h2, h3⟩ := h
  refine ⟨h1, h2, ?_⟩
  intro a ha hb
  by_cases e : a = x ∧ ¬ gr_r D a < p
  · obtain ⟨e, _⟩ := e
    subst e
    exact hw (by omega)
  · exact h3 a ha (by omega)
section
variable {xn xr xc xR xC : Int32} {tk ta nu fl fk fa dc vl fo tr sk ri ci en : Nat → Int32}
theorem xa_out15_values {post : SX → Prop} {J : Int32 → Int32 → Int32 → Int32 → Int32 → Int32 → Int32 → (Nat → Int32) → (Nat → Int32) → (Nat → Int32) → (Nat → Int32) → (Nat → Int32) → (Nat → Int32) → (Nat → Int32) → (Nat → Int32) → (Nat → Int32) → (Nat → Int32) → (Nat → Int32) → (Nat → Int32) → (Nat → Int32) → (Nat → Int32) → Prop}
    {L : Nat → Nat} {K A : Nat → Nat → Int32} (hO : sh_OK L K A) (hP : sh_P L K A fl fk fa) (hA : gr_A (sh_D L K A)) (hB : sh_B (sh_D L K A) dc) {g : Int32} {S : Nat → Int32} (hS : ∀ c, c < 16 → ¬ bt g c = true → S c = sh_F L K A nu c S)
    {p : Nat} (hp : p < 16) (h : ∀ m v s, xa_W g S (sh_D L K A) (p + 1) 0 m v → J m (nI (p + 1)) xn xr xc xR xC tk ta nu fl fk fa dc v fo tr s ri ci en) :
    ∀ d x, x + d = 16 → ∀ m v s, xa_W g S (sh_D L K A) p x m v → wX_workOutCells__values_15 post J (nI p) (d + 1) m (nI x) xn xr xc xR xC tk ta nu fl fk fa dc v fo tr s ri ci en := by
  intro d
  induction d with
  | zero =>
    intro x hx m v s hm
    have e : x = 16 := hx
    subst e
    refine br_t (nI_le (Nat.le_refl 16) (by decide)) (nm_r (nI_1 p) (h m v s ⟨hm.1, hm.2.1, ?_⟩))
    intro a ha h2
    exact hm.2.2 a ha (by omega)
  | succ d ih =>
    intro x hx m v s hm
    have hx16 : x < 16 := by omega
    have ec : (nI x).toNatClampNeg = x := nI_clamp (by omega)
    have hin : vp_in (nI x) 16 := vp_in_nI hx16 (by omega)
    refine br_f (nI_ge (b := 16) hx16 (by decide)) (xa_has (by omega) (fun hb => br_t rfl ⟨hin, br_c (fun k => ⟨hin, ?_⟩) (fun k => ?_)⟩) (fun hb => br_f (by decide) (nm_r (nI_1 x) (ih (x + 1) (by omega) m v s (xa_Wskip hx16 hm (fun _ => hb))))))
    · rw [ec, bi_and0] at k
      have hF : sh_F L K A nu x v = S x := by
        rw [hS x hx16 (fun z => hb (hm.2.1 x hx16 z))]
        apply sh_loc hO x hx16
        intro a ha
        have ha16 := ha.2.1
        apply hm.1 a ha16
        have k1 := k a (by omega)
        rw [bi_not (by omega)] at k1
        exact Classical.byContradiction fun q => k1 ⟨(hB x hx16 a (by omega)).mpr ha, q⟩
      obtain ⟨o1, o2, o3⟩ := hO x hx16
      obtain ⟨p1, p2⟩ := hP x hx16
      unfold sh_F at hF
      refine pk_le (L x) 0 (fun q => ?_) (fun q => ?_) (by rw [ec]; exact p1) rfl (by omega)
      · rw [if_pos (by omega)] at hF
        exact ⟨hin, hin, nm_r (e' := upd v x (nu x)) (by rw [ec]) (nm_e (nm_r (nI_1 x) (ih (x + 1) (by omega) _ _ s (xa_Wput hx16 hm hF))))⟩
      · rw [if_neg (by omega)] at hF
        refine xa_off_values hx16 o1 p1 p2 o2 (o3.resolve_left (by omega)) (fun s' => ?_)
        exact ⟨hin, nm_r (e' := upd v x (sk_ev (K x) (A x) (L x) v)) (by rw [ec]) (nm_e (nm_r (nI_1 x) (ih (x + 1) (by omega) _ _ s' (xa_Wput hx16 hm hF))))⟩
    · refine nm_r (nI_1 x) (ih (x + 1) (by omega) m v s (xa_Wskip hx16 hm (fun hr => ?_)))
      exfalso
      apply k
      rw [ec, bi_and0]
      intro i hi ⟨k1, k2⟩
      have hD := (hB x hx16 i hi).mp k1
      rw [bi_not hi] at k2
      have hlt := gr_rD hA hD.2.1 hD
      exact k2 (hm.2.2 i hD.2.1 (by omega))
theorem xa_out_values {post : SX → Prop} {L : Nat → Nat} {K A : Nat → Nat → Int32} (hO : sh_OK L K A) (hP : sh_P L K A fl fk fa) (hA : gr_A (sh_D L K A)) (hB : sh_B (sh_D L K A) dc) {g : Int32} {S : Nat → Int32} (hS : ∀ c, c < 16 → ¬ bt g c = true → S c = sh_F L K A nu c S)
    (hg : ∀ c, c < 16 → bt g c = true → vl c = S c) (h : ∀ v s, (∀ c, c < 16 → v c = S c) → post (xn, xr, xc, xR, xC, tk, ta, nu, fl, fk, fa, dc, v, fo, tr, s, ri, ci, en)) : wpX_workOutCells__values post (xn, xr, xc, xR, xC, tk, ta, nu, fl, fk, fa, dc, vl, fo, tr, sk, ri, ci, en) g := by
  have M : ∀ d p, p + d = 16 → ∀ m v s, xa_W g S (sh_D L K A) p 0 m v → wX_workOutCells__values_5 post (d + 1) m (nI p) xn xr xc xR xC tk ta nu fl fk fa dc v fo tr s ri ci en := by
    intro d
    induction d with
    | zero =>
      intro p hp m v s hm
      have e : p = 16 := hp
      subst e
      refine br_t (nI_le (Nat.le_refl 16) (by decide)) (h v s fun c hc => hm.1 c hc (hm.2.2 c hc (Or.inl (gr_r16 hA hc))))
    | succ d ih =>
      intro p hp m v s hm
      exact br_f (nI_ge (b := 16) (by omega) (by decide)) ⟨17, xa_out15_values hO hP hA hB hS (by omega) (fun m' v' s' hm' => ih (p + 1) (by omega) m' v' s' hm') 16 0 rfl m v s hm⟩
  refine ⟨17, M 16 0 rfl g vl sk ⟨hg, fun _ _ z => z, ?_⟩⟩
  intro a _ h2
  omega
end
section
variable {xn xr xc xR xC : Int32} {tk ta nu fl fk fa dc vl fo tr sk ri ci en : Nat → Int32}
theorem xa_out15_trialValues {post : SX → Prop} {J : Int32 → Int32 → Int32 → Int32 → Int32 → Int32 → Int32 → (Nat → Int32) → (Nat → Int32) → (Nat → Int32) → (Nat → Int32) → (Nat → Int32) → (Nat → Int32) → (Nat → Int32) → (Nat → Int32) → (Nat → Int32) → (Nat → Int32) → (Nat → Int32) → (Nat → Int32) → (Nat → Int32) → (Nat → Int32) → Prop}
    {L : Nat → Nat} {K A : Nat → Nat → Int32} (hO : sh_OK L K A) (hP : sh_P L K A fl fk fa) (hA : gr_A (sh_D L K A)) (hB : sh_B (sh_D L K A) dc) {g : Int32} {S : Nat → Int32} (hS : ∀ c, c < 16 → ¬ bt g c = true → S c = sh_F L K A nu c S)
    {p : Nat} (hp : p < 16) (h : ∀ m v s, xa_W g S (sh_D L K A) (p + 1) 0 m v → J m (nI (p + 1)) xn xr xc xR xC tk ta nu fl fk fa dc vl fo v s ri ci en) :
    ∀ d x, x + d = 16 → ∀ m v s, xa_W g S (sh_D L K A) p x m v → wX_workOutCells__trialValues_15 post J (nI p) (d + 1) m (nI x) xn xr xc xR xC tk ta nu fl fk fa dc vl fo v s ri ci en := by
  intro d
  induction d with
  | zero =>
    intro x hx m v s hm
    have e : x = 16 := hx
    subst e
    refine br_t (nI_le (Nat.le_refl 16) (by decide)) (nm_r (nI_1 p) (h m v s ⟨hm.1, hm.2.1, ?_⟩))
    intro a ha h2
    exact hm.2.2 a ha (by omega)
  | succ d ih =>
    intro x hx m v s hm
    have hx16 : x < 16 := by omega
    have ec : (nI x).toNatClampNeg = x := nI_clamp (by omega)
    have hin : vp_in (nI x) 16 := vp_in_nI hx16 (by omega)
    refine br_f (nI_ge (b := 16) hx16 (by decide)) (xa_has (by omega) (fun hb => br_t rfl ⟨hin, br_c (fun k => ⟨hin, ?_⟩) (fun k => ?_)⟩) (fun hb => br_f (by decide) (nm_r (nI_1 x) (ih (x + 1) (by omega) m v s (xa_Wskip hx16 hm (fun _ => hb))))))
    · rw [ec, bi_and0] at k
      have hF : sh_F L K A nu x v = S x := by
        rw [hS x hx16 (fun z => hb (hm.2.1 x hx16 z))]
        apply sh_loc hO x hx16
        intro a ha
        have ha16 := ha.2.1
        apply hm.1 a ha16
        have k1 := k a (by omega)
        rw [bi_not (by omega)] at k1
        exact Classical.byContradiction fun q => k1 ⟨(hB x hx16 a (by omega)).mpr ha, q⟩
      obtain ⟨o1, o2, o3⟩ := hO x hx16
      obtain ⟨p1, p2⟩ := hP x hx16
      unfold sh_F at hF
      refine pk_le (L x) 0 (fun q => ?_) (fun q => ?_) (by rw [ec]; exact p1) rfl (by omega)
      · rw [if_pos (by omega)] at hF
        exact ⟨hin, hin, nm_r (e' := upd v x (nu x)) (by rw [ec]) (nm_e (nm_r (nI_1 x) (ih (x + 1) (by omega) _ _ s (xa_Wput hx16 hm hF))))⟩
      · rw [if_neg (by omega)] at hF
        refine xa_off_trialValues hx16 o1 p1 p2 o2 (o3.resolve_left (by omega)) (fun s' => ?_)
        exact ⟨hin, nm_r (e' := upd v x (sk_ev (K x) (A x) (L x) v)) (by rw [ec]) (nm_e (nm_r (nI_1 x) (ih (x + 1) (by omega) _ _ s' (xa_Wput hx16 hm hF))))⟩
    · refine nm_r (nI_1 x) (ih (x + 1) (by omega) m v s (xa_Wskip hx16 hm (fun hr => ?_)))
      exfalso
      apply k
      rw [ec, bi_and0]
      intro i hi ⟨k1, k2⟩
      have hD := (hB x hx16 i hi).mp k1
      rw [bi_not hi] at k2
      have hlt := gr_rD hA hD.2.1 hD
      exact k2 (hm.2.2 i hD.2.1 (by omega))
theorem xa_out_trialValues {post : SX → Prop} {L : Nat → Nat} {K A : Nat → Nat → Int32} (hO : sh_OK L K A) (hP : sh_P L K A fl fk fa) (hA : gr_A (sh_D L K A)) (hB : sh_B (sh_D L K A) dc) {g : Int32} {S : Nat → Int32} (hS : ∀ c, c < 16 → ¬ bt g c = true → S c = sh_F L K A nu c S)
    (hg : ∀ c, c < 16 → bt g c = true → tr c = S c) (h : ∀ v s, (∀ c, c < 16 → v c = S c) → post (xn, xr, xc, xR, xC, tk, ta, nu, fl, fk, fa, dc, vl, fo, v, s, ri, ci, en)) : wpX_workOutCells__trialValues post (xn, xr, xc, xR, xC, tk, ta, nu, fl, fk, fa, dc, vl, fo, tr, sk, ri, ci, en) g := by
  have M : ∀ d p, p + d = 16 → ∀ m v s, xa_W g S (sh_D L K A) p 0 m v → wX_workOutCells__trialValues_5 post (d + 1) m (nI p) xn xr xc xR xC tk ta nu fl fk fa dc vl fo v s ri ci en := by
    intro d
    induction d with
    | zero =>
      intro p hp m v s hm
      have e : p = 16 := hp
      subst e
      refine br_t (nI_le (Nat.le_refl 16) (by decide)) (h v s fun c hc => hm.1 c hc (hm.2.2 c hc (Or.inl (gr_r16 hA hc))))
    | succ d ih =>
      intro p hp m v s hm
      exact br_f (nI_ge (b := 16) (by omega) (by decide)) ⟨17, xa_out15_trialValues hO hP hA hB hS (by omega) (fun m' v' s' hm' => ih (p + 1) (by omega) m' v' s' hm') 16 0 rfl m v s hm⟩
  refine ⟨17, M 16 0 rfl g tr sk ⟨hg, fun _ _ z => z, ?_⟩⟩
  intro a _ h2
  omega
end
section
variable {xn xr xc xR xC : Int32} {tk ta nu fl fk fa dc vl fo tr sk ri ci en : Nat → Int32}
theorem xa_chg {post : Int32 → Prop} (h : post (nI (gr_cnt (fun c => vl c ≠ fo c) 16))) : wpX_countChangedValues post (xn, xr, xc, xR, xC, tk, ta, nu, fl, fk, fa, dc, vl, fo, tr, sk, ri, ci, en) := by
  have L : ∀ d x, x + d = 16 → wX_countChangedValues_4 post xn xr xc xR xC tk ta nu fl fk fa dc vl fo tr sk ri ci en (d + 1) (nI (gr_cnt (fun c => vl c ≠ fo c) x)) (nI x) := by
    intro d
    induction d with
    | zero =>
      intro x hx
      have e : x = 16 := hx
      subst e
      exact br_t (nI_le (Nat.le_refl 16) (by decide)) h
    | succ d ih =>
      intro x hx
      have ec : (nI x).toNatClampNeg = x := nI_clamp (by omega)
      have hin : vp_in (nI x) 16 := vp_in_nI (by omega) (by omega)
      have ih := ih (x + 1) (by omega)
      refine br_f (nI_ge (b := 16) (by omega) (by decide)) ⟨hin, hin, br_c (fun k => nm_r (nI_1 x) ?_) (fun k => nm_r (nI_1 _) (nm_r (nI_1 x) ?_))⟩
      · rw [ec] at k
        rw [gr_c0 (fun q => q k)] at ih
        exact ih
      · rw [ec] at k
        rw [gr_c1 (P := fun c => vl c ≠ fo c) k] at ih
        exact ih
  exact ⟨17, L 16 0 rfl⟩
end
end
section
theorem ya_b1 : vp_nar .boolean 1 = 1 := by first | rfl | decide
theorem ya_b0 : vp_nar .boolean 0 = 0 := by first | rfl | decide
theorem ya_pv : ∀ m, m < 8 → sk_p (nI m) = if m < 2 then 0 else if m < 7 then 2 else 3 := by decide +kernel
theorem ya_i16 (a b : Nat) : nI a * 16 + nI b = nI (a * 16 + b) := (congrArg (fun q => q + nI b) (pk_mul a 16)).trans (nI_add _ _)
theorem ya_i8 (a b : Nat) : nI a * 8 + nI b = nI (a * 8 + b) := (congrArg (fun q => q + nI b) (pk_mul a 8)).trans (nI_add _ _)
theorem ya_i4 (a b : Nat) : nI a * 4 + nI b = nI (a * 4 + b) := (congrArg (fun q => q + nI b) (pk_mul a 4)).trans (nI_add _ _)
section
variable {yn yr yc yR yC : Int32} {kd ag sz nb td tg ip ey vy bf st dp : Nat → Int32}
theorem ya_badF {post : Int32 → Prop} {c : Nat} (hc : c < 16) (h : post 0) : wpY_bad post (yn, yr, yc, yR, yC, kd, ag, sz, nb, td, tg, ip, ey, vy, bf, st, dp) (nI c) :=
  br_f (nI_pos (by omega)) (br_t (nI_le (b := 15) (by omega) (by decide)) h)
theorem ya_badT {post : Int32 → Prop} {p : Int32} (hp : p < 0 ∨ nI 16 ≤ p) (h : post 1) : wpY_bad post (yn, yr, yc, yR, yC, kd, ag, sz, nb, td, tg, ip, ey, vy, bf, st, dp) p := by
  refine br_c (fun _ => h) (fun n => br_f ?_ h)
  have h16 := hp.resolve_left n
  intro z
  have := Int32.le_trans h16 z
  exact absurd this (by decide)
theorem ya_pops {post : Int32 → Prop} {k k' : Int32} {m : Nat} (e : k = k') (hm : m < 8) (em : k' = nI m) (h : post (nI (sk_p k'))) : wpY_pops post (yn, yr, yc, yR, yC, kd, ag, sz, nb, td, tg, ip, ey, vy, bf, st, dp) k := by
  subst e
  subst em
  rw [ya_pv m hm] at h
  refine pk_le 2 m (fun q => pk_le 7 m (fun q7 => ?_) (fun q7 => ?_)) (fun q => ?_)
  · rw [if_neg (by omega), if_neg (by omega)] at h; exact h
  · rw [if_neg (by omega), if_pos (by omega)] at h; exact h
  · rw [if_pos (by omega)] at h; exact h
theorem ya_sound {post : Int32 → Prop} {n : Nat} (TK TA : Nat → Int32) (hn : n ≤ 8) (hT : ∀ t, t < n → td t = TK t) (hV : ∀ t, t < n → sh_tok (TK t) (TA t)) (h1 : sk_S TK n → post 1) (h0 : ¬ sk_S TK n → post 0) : wpY_sound post (nI n, yr, yc, yR, yC, kd, ag, sz, nb, td, tg, ip, ey, vy, bf, st, dp) := by
  have L : ∀ d t, t + d = n → (∀ i, i < t → sk_p (TK i) ≤ sk_h TK i) → wY_sound_4 post (nI n) yr yc yR yC kd ag sz nb td tg ip ey vy bf st dp (d + 1) (nI (sk_h TK t)) (nI t) := by
    intro d
    induction d with
    | zero =>
      intro t ht hi
      have e : t = n := ht
      subst e
      have hh := sk_ht TK t
      exact br_t (nI_le (Nat.le_refl t) (by omega)) (pk_eq (sk_h TK t) 1 (fun e => h1 ⟨hi, e⟩) (fun e => h0 (fun z => e z.2)))
    | succ d ih =>
      intro t ht hi
      have hh := sk_ht TK t
      have hp3 := sk_p3 (TK t)
      obtain ⟨⟨m, hm, em⟩, _⟩ := hV t (by omega)
      refine br_f (nI_ge (by omega) (by omega)) ⟨vp_in_nI (by omega) (by omega), ya_pops (k' := TK t) (by rw [nI_clamp (by omega)]; exact hT t (by omega)) hm em ?_⟩
      refine pk_le (sk_p (TK t)) (sk_h TK t) (fun hp => nm_r (sk_step hp) (nm_r (nI_1 t) (ih (t + 1) (by omega) ?_))) (fun hp => h0 (fun z => ?_))
      · intro i hi'
        by_cases e : i = t
        · subst e; exact hp
        · exact hi i (by omega)
      · have := z.1 t (by omega)
        omega
  exact ⟨n + 1, L n 0 (by omega) (fun i hi => absurd hi (Nat.not_lt_zero i))⟩
/-! exchange -/
def ya_o (z i : Nat) (kd td : Nat → Int32) : Nat → Int32 := fun j => if z * 8 ≤ j ∧ j < z * 8 + i then td (j - z * 8) else kd j
def ya_t (z i : Nat) (kd td : Nat → Int32) : Nat → Int32 := fun s => if s < i then kd (z * 8 + s) else td s
theorem ya_o0 (z : Nat) (kd td : Nat → Int32) : ya_o z 0 kd td = kd := by
  funext j
  exact if_neg (by omega)
theorem ya_t0 (z : Nat) (kd td : Nat → Int32) : ya_t z 0 kd td = td := by
  funext j
  exact if_neg (by omega)
theorem ya_o1 (z i : Nat) (kd td : Nat → Int32) : upd (ya_o z i kd td) (z * 8 + i) (ya_t z i kd td i) = ya_o z (i + 1) kd td := by
  funext j
  by_cases e : j = z * 8 + i
  · subst e
    rw [pk_us]
    unfold ya_t ya_o
    rw [if_neg (by omega), if_pos (by omega)]
    congr 1
    omega
  · rw [pk_un e]
    unfold ya_o
    by_cases q : z * 8 ≤ j ∧ j < z * 8 + i
    · rw [if_pos q, if_pos (by omega)]
    · rw [if_neg q, if_neg (by omega)]
theorem ya_t1 (z i : Nat) (kd td : Nat → Int32) : upd (ya_t z i kd td) i (ya_o z i kd td (z * 8 + i)) = ya_t z (i + 1) kd td := by
  funext j
  by_cases e : j = i
  · subst e
    rw [pk_us]
    unfold ya_t ya_o
    rw [if_neg (by omega), if_pos (by omega)]
  · rw [pk_un e]
    unfold ya_t
    by_cases q : j < i
    · rw [if_pos q, if_pos (by omega)]
    · rw [if_neg q, if_neg (by omega)]
theorem ya_oo (z : Nat) (kd td : Nat → Int32) : ya_o z 8 (ya_o z 8 kd td) (ya_t z 8 kd td) = kd := by
  funext j
  show (if z * 8 ≤ j ∧ j < z * 8 + 8 then ya_t z 8 kd td (j - z * 8) else ya_o z 8 kd td j) = kd j
  by_cases q : z * 8 ≤ j ∧ j < z * 8 + 8
  · rw [if_pos q]
    unfold ya_t
    rw [if_pos (by omega)]
    congr 1
    omega
  · rw [if_neg q]
    unfold ya_o
    rw [if_neg q]
theorem ya_tt (z : Nat) (kd td : Nat → Int32) : ya_t z 8 (ya_o z 8 kd td) (ya_t z 8 kd td) = td := by
  funext j
  show (if j < 8 then ya_o z 8 kd td (z * 8 + j) else ya_t z 8 kd td j) = td j
  by_cases q : j < 8
  · rw [if_pos q]
    unfold ya_o
    rw [if_pos (by omega)]
    congr 1
    omega
  · rw [if_neg q]
    unfold ya_t
    rw [if_neg q]
theorem ya_uu (f : Nat → Int32) (z : Nat) (x : Int32) : upd (upd f z x) z (f z) = f := by
  funext j
  by_cases e : j = z
  · subst e; rw [pk_us]
  · rw [pk_un e, pk_un e]
theorem ya_exch {post : SY → Prop} {z : Nat} (hz : z < 16) (h : post (sz z, yr, yc, yR, yC, ya_o z 8 kd td, ya_o z 8 ag tg, upd sz z yn, nb, ya_t z 8 kd td, ya_t z 8 ag tg, ip, ey, vy, bf, st, dp)) : wpY_exchange post (yn, yr, yc, yR, yC, kd, ag, sz, nb, td, tg, ip, ey, vy, bf, st, dp) (nI z) := by
  have hinz : vp_in (nI z) 16 := vp_in_nI hz (by omega)
  have ecz : (nI z).toNatClampNeg = z := nI_clamp (by omega)
  have L : ∀ d i, i + d = 8 → wY_exchange_2 post (nI z) yn yr yc yR yC (d + 1) (nI i) (ya_o z i kd td) (ya_o z i ag tg) sz nb (ya_t z i kd td) (ya_t z i ag tg) ip ey vy bf st dp := by
    intro d
    induction d with
    | zero =>
      intro i hi
      have e : i = 8 := hi
      subst e
      exact br_t (nI_le (Nat.le_refl 8) (by decide)) ⟨hinz, nm_r (by rw [ecz]) ⟨hinz, nm_r (by rw [ecz]) h⟩⟩
    | succ d ih =>
      intro i hi
      have ec : (nI i).toNatClampNeg = i := nI_clamp (by omega)
      have ei : (nI z * 8 + nI i).toNatClampNeg = z * 8 + i := by rw [ya_i8, nI_clamp (by omega)]
      have hin : vp_in (nI i) 8 := vp_in_nI (by omega) (by omega)
      have hi2 : vp_in (nI z * 8 + nI i) 128 := by rw [ya_i8]; exact vp_in_nI (by omega) (by omega)
      refine br_f (nI_ge (b := 8) (by omega) (by decide)) ⟨hi2, nm_r (by rw [ei]) ⟨hi2, nm_r (by rw [ei]) ⟨hin, hi2, nm_r (by rw [ei, ec]; exact ya_o1 z i kd td) ⟨hin, hi2, nm_r (by rw [ei, ec]; exact ya_o1 z i ag tg) ⟨hin, nm_r (by rw [ec]; exact ya_t1 z i kd td) ⟨hin, nm_r (by rw [ec]; exact ya_t1 z i ag tg) (nm_r (nI_1 i) (ih (i + 1) (by omega)))⟩⟩⟩⟩⟩⟩
  have L0 := L 8 0 rfl
  rw [ya_o0, ya_o0, ya_t0, ya_t0] at L0
  exact ⟨9, L0⟩
end
end
section
def ya_E (dp : Nat → Int32) (a b : Nat) : Prop := dp (a * 16 + b) ≠ 0
theorem ya_Eput {dp : Nat → Int32} {a b i j : Nat} (hb : b < 16) (hj : j < 16) : ya_E (upd dp (a * 16 + b) 1) i j ↔ (ya_E dp i j ∨ (i = a ∧ j = b)) := by
  unfold ya_E
  by_cases e : i = a ∧ j = b
  · obtain ⟨e1, e2⟩ := e
    subst e1 e2
    rw [pk_us]
    exact ⟨fun _ => Or.inr ⟨rfl, rfl⟩, fun _ => by decide⟩
  · rw [pk_un (by omega)]
    exact ⟨Or.inl, fun z => z.resolve_right e⟩
def ya_V (D : Nat → Nat → Prop) (dp0 : Nat → Int32) (k a b : Nat) (dp : Nat → Int32) : Prop :=
  (∀ i j, i < 16 → j < 16 → ya_E dp i j → gr_T D i j) ∧ (∀ i j, i < 16 → j < 16 → ya_E dp0 i j → ya_E dp i j) ∧
  (∀ i j, i < 16 → j < 16 → (i < a ∨ (i = a ∧ j < b)) → ya_E dp0 i k → ya_E dp0 k j → ya_E dp i j)
theorem ya_Vskip {D : Nat → Nat → Prop} {dp0 dp : Nat → Int32} {k a b : Nat} (h : ya_V D dp0 k a b dp) (hn : ¬ (ya_E dp0 a k ∧ ya_E dp0 k b)) : ya_V D dp0 k a (b + 1) dp := by
  refine ⟨h.1, h.2.1, ?_⟩
  intro i j hi hj hij h1 h2
  by_cases e : i = a ∧ j = b
  · obtain ⟨e1, e2⟩ := e
    subst e1 e2
    exact absurd ⟨h1, h2⟩ hn
  · exact h.2.2 i j hi hj (by omega) h1 h2
theorem ya_Vput {D : Nat → Nat → Prop} {dp0 dp : Nat → Int32} {k a b : Nat} (hk : k < 16) (ha : a < 16) (hb : b < 16) (h : ya_V D dp0 k a b dp) (h1 : ya_E dp a k) (h2 : ya_E dp k b) : ya_V D dp0 k a (b + 1) (upd dp (a * 16 + b) 1) := by
  refine ⟨?_, ?_, ?_⟩
  · intro i j hi hj he
    rw [ya_Eput hb hj] at he
    rcases he with he | ⟨e1, e2⟩
    · exact h.1 i j hi hj he
    · subst e1 e2
      exact Relation.TransGen.trans (h.1 i k hi hk h1) (h.1 k j hk hj h2)
  · intro i j hi hj he
    rw [ya_Eput hb hj]
    exact Or.inl (h.2.1 i j hi hj he)
  · intro i j hi hj hij g1 g2
    rw [ya_Eput hb hj]
    by_cases e : i = a ∧ j = b
    · exact Or.inr e
    · exact Or.inl (h.2.2 i j hi hj (by omega) g1 g2)
section
variable {yn yr yc yR yC : Int32} {kd ag sz nb td tg ip ey vy bf st dp : Nat → Int32}
theorem ya_over10 {post : SY → Prop} {J : Int32 → (Nat → Int32) → (Nat → Int32) → (Nat → Int32) → (Nat → Int32) → (Nat → Int32) → (Nat → Int32) → (Nat → Int32) → (Nat → Int32) → (Nat → Int32) → (Nat → Int32) → (Nat → Int32) → (Nat → Int32) → Prop}
    {D : Nat → Nat → Prop} {dp0 : Nat → Int32} {k a : Nat} (hk : k < 16) (ha : a < 16) (h : ∀ dp, ya_V D dp0 k (a + 1) 0 dp → J (nI (a + 1)) kd ag sz nb td tg ip ey vy bf st dp) :
    ∀ d b, b + d = 16 → ∀ dp, ya_V D dp0 k a b dp → wY_over_10 post J (nI k) (nI a) yn yr yc yR yC (d + 1) (nI b) kd ag sz nb td tg ip ey vy bf st dp := by
  intro d
  induction d with
  | zero =>
    intro b hb dp hv
    have e : b = 16 := hb
    subst e
    refine br_t (nI_le (Nat.le_refl 16) (by decide)) (nm_r (nI_1 a) (h dp ⟨hv.1, hv.2.1, ?_⟩))
    intro i j hi hj hij
    exact hv.2.2 i j hi hj (by omega)
  | succ d ih =>
    intro b hb dp hv
    have e1 : (nI a * 16 + nI k).toNatClampNeg = a * 16 + k := by rw [ya_i16, nI_clamp (by omega)]
    have e2 : (nI k * 16 + nI b).toNatClampNeg = k * 16 + b := by rw [ya_i16, nI_clamp (by omega)]
    have e3 : (nI a * 16 + nI b).toNatClampNeg = a * 16 + b := by rw [ya_i16, nI_clamp (by omega)]
    have i1 : vp_in (nI a * 16 + nI k) 256 := by rw [ya_i16]; exact vp_in_nI (by omega) (by omega)
    have i2 : vp_in (nI k * 16 + nI b) 256 := by rw [ya_i16]; exact vp_in_nI (by omega) (by omega)
    have i3 : vp_in (nI a * 16 + nI b) 256 := by rw [ya_i16]; exact vp_in_nI (by omega) (by omega)
    refine br_f (nI_ge (b := 16) (by omega) (by decide)) ⟨i1, br_c (fun q => nm_r (nI_1 b) (ih (b + 1) (by omega) dp (ya_Vskip hv ?_))) (fun q => ⟨i2, br_c (fun q2 => nm_r (nI_1 b) (ih (b + 1) (by omega) dp (ya_Vskip hv ?_))) (fun q2 => ⟨i3, nm_r (e' := upd dp (a * 16 + b) 1) (by rw [e3, ya_b1]) (nm_r (nI_1 b) (ih (b + 1) (by omega) _ (ya_Vput hk ha (by omega) hv ?_ ?_)))⟩)⟩)⟩
    · rw [e1] at q
      exact fun z => hv.2.1 a k ha hk z.1 q
    · rw [e2] at q2
      exact fun z => hv.2.1 k b hk (by omega) z.2 q2
    · rw [e1] at q
      exact q
    · rw [e2] at q2
      exact q2
theorem ya_over {post : SY → Prop} {D : Nat → Nat → Prop} {k : Nat} (hk : k < 16) (hs : ∀ i j, i < 16 → j < 16 → ya_E dp i j → gr_T D i j)
    (h : ∀ dp', (∀ i j, i < 16 → j < 16 → ya_E dp' i j → gr_T D i j) → (∀ i j, i < 16 → j < 16 → (ya_E dp i j ∨ (ya_E dp i k ∧ ya_E dp k j)) → ya_E dp' i j) → post (yn, yr, yc, yR, yC, kd, ag, sz, nb, td, tg, ip, ey, vy, bf, st, dp')) : wpY_over post (yn, yr, yc, yR, yC, kd, ag, sz, nb, td, tg, ip, ey, vy, bf, st, dp) (nI k) := by
  have L : ∀ d a, a + d = 16 → ∀ dp', ya_V D dp k a 0 dp' → wY_over_2 post (nI k) yn yr yc yR yC (d + 1) (nI a) kd ag sz nb td tg ip ey vy bf st dp' := by
    intro d
    induction d with
    | zero =>
      intro a ha dp' hv
      have e : a = 16 := ha
      subst e
      refine br_t (nI_le (Nat.le_refl 16) (by decide)) (h dp' hv.1 ?_)
      intro i j hi hj z
      rcases z with z | ⟨z1, z2⟩
      · exact hv.2.1 i j hi hj z
      · exact hv.2.2 i j hi hj (by omega) z1 z2
    | succ d ih =>
      intro a ha dp' hv
      exact br_f (nI_ge (b := 16) (by omega) (by decide)) ⟨17, ya_over10 hk (by omega) (fun dp2 h2 => ih (a + 1) (by omega) dp2 h2) 16 0 rfl dp' hv⟩
  refine ⟨17, L 16 0 rfl dp ⟨hs, fun _ _ _ _ z => z, ?_⟩⟩
  intro i j _ _ z
  omega
theorem ya_diag {post : Int32 → SY → Prop} (h0 : (∀ c, c < 16 → ¬ ya_E dp c c) → post 0 (yn, yr, yc, yR, yC, kd, ag, sz, nb, td, tg, ip, ey, vy, bf, st, dp)) (h1 : (∃ c, c < 16 ∧ ya_E dp c c) → post 1 (yn, yr, yc, yR, yC, kd, ag, sz, nb, td, tg, ip, ey, vy, bf, st, dp)) :
    ∀ d c, c + d = 16 → (∀ i, i < c → ¬ ya_E dp i i) → wY_circle_112 post yn yr yc yR yC kd ag sz nb td tg ip ey vy bf st dp (d + 1) (nI c) := by
  intro d
  induction d with
  | zero =>
    intro c hc hi
    have e : c = 16 := hc
    subst e
    exact br_t (nI_le (Nat.le_refl 16) (by decide)) (h0 hi)
  | succ d ih =>
    intro c hc hi
    have e0 : nI c * 17 = nI (c * 17) := pk_mul c 17
    have e1 : (nI c * 17).toNatClampNeg = c * 16 + c := by rw [e0, nI_clamp (by omega)]; omega
    refine br_f (nI_ge (b := 16) (by omega) (by decide)) ⟨by rw [e0]; exact vp_in_nI (by omega) (by omega), br_c (fun q => nm_r (nI_1 c) (ih (c + 1) (by omega) ?_)) (fun q => h1 ⟨c, by omega, ?_⟩)⟩
    · rw [e1] at q
      intro i hi'
      by_cases e : i = c
      · subst e; exact fun z => z q
      · exact hi i (by omega)
    · rw [e1] at q
      exact q
theorem ya_stages {post : Int32 → SY → Prop} {D : Nat → Nat → Prop} (hd : sh_dm D)
    (h0 : ∀ dp, (∀ i j, i < 16 → j < 16 → (ya_E dp i j ↔ gr_T D i j)) → gr_A D → post 0 (yn, yr, yc, yR, yC, kd, ag, sz, nb, td, tg, ip, ey, vy, bf, st, dp)) (h1 : ∀ dp, (∀ i j, i < 16 → j < 16 → (ya_E dp i j ↔ gr_T D i j)) → ¬ gr_A D → post 1 (yn, yr, yc, yR, yC, kd, ag, sz, nb, td, tg, ip, ey, vy, bf, st, dp)) :
    ∀ d k, k + d = 16 → ∀ dp, (∀ i j, i < 16 → j < 16 → ya_E dp i j → gr_T D i j) → (∀ i j, i < 16 → j < 16 → gr_W D k i j → ya_E dp i j) → wY_circle_93 post (d + 1) (nI k) yn yr yc yR yC kd ag sz nb td tg ip ey vy bf st dp := by
  intro d
  induction d with
  | zero =>
    intro k hk dp hs hw
    have e : k = 16 := hk
    subst e
    have hi : ∀ i j, i < 16 → j < 16 → (ya_E dp i j ↔ gr_T D i j) := fun i j a b => ⟨hs i j a b, fun t => hw i j a b (gr_WT (fun x y z => (hd x y z).2) t)⟩
    refine br_t (nI_le (Nat.le_refl 16) (by decide)) ⟨17, ya_diag (fun z => h0 dp hi (fun c t => ?_)) (fun z => h1 dp hi (fun t => ?_)) 16 0 rfl (fun i z => absurd z (Nat.not_lt_zero i))⟩
    · obtain ⟨b, hb, _⟩ := gr_head t
      have hc := (hd _ _ hb).1
      exact z c hc ((hi c c hc hc).mpr t)
    · obtain ⟨c, hc, z⟩ := z
      exact t c ((hi c c hc hc).mp z)
  | succ d ih =>
    intro k hk dp hs hw
    refine br_f (nI_ge (b := 16) (by omega) (by decide)) (ya_over (by omega) hs (fun dp' hs' hw' => ?_))
    refine nm_r (nI_1 k) (ih (k + 1) (by omega) dp' hs' ?_)
    intro i j hi hj z
    apply hw' i j hi hj
    rcases z with z | ⟨z1, z2⟩
    · exact Or.inl (hw i j hi hj z)
    · exact Or.inr ⟨hw i k hi (by omega) z1, hw k j (by omega) hj z2⟩
def ya_H (L : Nat → Nat) (K A : Nat → Nat → Int32) (c t : Nat) (dp : Nat → Int32) : Prop :=
  ∀ i j, i < 16 → j < 16 → (ya_E dp i j ↔ ((i < c ∧ sh_D L K A i j) ∨ (i = c ∧ ∃ s, s < t ∧ K c s = 1 ∧ A c s = nI j)))
theorem ya_rows {post : Int32 → SY → Prop} {J : Int32 → (Nat → Int32) → (Nat → Int32) → (Nat → Int32) → (Nat → Int32) → (Nat → Int32) → (Nat → Int32) → (Nat → Int32) → (Nat → Int32) → (Nat → Int32) → (Nat → Int32) → (Nat → Int32) → (Nat → Int32) → Prop}
    {L : Nat → Nat} {K A : Nat → Nat → Int32} (hO : sh_OK L K A) (hP : sh_P L K A sz kd ag) {c : Nat} (hc : c < 16) (h : ∀ dp, ya_H L K A (c + 1) 0 dp → J (nI (c + 1)) kd ag sz nb td tg ip ey vy bf st dp) :
    ∀ d t, t + d = L c → ∀ dp, ya_H L K A c t dp → wY_circle_32 post J (nI c) yn yr yc yR yC (d + 1) (nI t) kd ag sz nb td tg ip ey vy bf st dp := by
  obtain ⟨o1, o2, _⟩ := hO c hc
  obtain ⟨p1, p2⟩ := hP c hc
  have ecc : (nI c).toNatClampNeg = c := nI_clamp (by omega)
  have hinc : vp_in (nI c) 16 := vp_in_nI hc (by omega)
  intro d
  induction d with
  | zero =>
    intro t ht dp hv
    have e : t = L c := ht
    subst e
    refine ⟨hinc, br_t (by rw [ecc, p1]; exact nI_le (Nat.le_refl _) (by omega)) (nm_r (nI_1 c) (h dp ?_))⟩
    intro i j hi hj
    rw [hv i j hi hj]
    constructor
    · intro z
      rcases z with ⟨z1, z2⟩ | ⟨z1, z2⟩
      · exact Or.inl ⟨by omega, z2⟩
      · subst z1
        exact Or.inl ⟨by omega, hi, hj, z2⟩
    · intro z
      rcases z with ⟨z1, z2⟩ | ⟨_, s, z2, _⟩
      · by_cases e : i = c
        · subst e
          exact Or.inr ⟨rfl, z2.2.2⟩
        · exact Or.inl ⟨by omega, z2⟩
      · exact absurd z2 (Nat.not_lt_zero s)
  | succ d ih =>
    intro t ht dp hv
    have ei : (nI c * 8 + nI t).toNatClampNeg = c * 8 + t := by rw [ya_i8, nI_clamp (by omega)]
    have hi2 : vp_in (nI c * 8 + nI t) 128 := by rw [ya_i8]; exact vp_in_nI (by omega) (by omega)
    obtain ⟨ek, ea⟩ := p2 t (by omega)
    obtain ⟨_, hcell⟩ := o2 t (by omega)
    refine ⟨hinc, br_f (by rw [ecc, p1]; exact nI_ge (by omega) (by omega)) ⟨hi2, br_c (fun q => ⟨hi2, ?_⟩) (fun q => nm_r (nI_1 t) (ih (t + 1) (by omega) dp ?_))⟩⟩
    · rw [ei, ek] at q
      obtain ⟨b, hb, eb⟩ := hcell q
      have e3 : nI c * 16 + ag (nI c * 8 + nI t).toNatClampNeg = nI (c * 16 + b) := by rw [ei, ea, eb, ya_i16]
      refine ⟨by rw [e3]; exact vp_in_nI (by omega) (by omega), nm_r (e' := upd dp (c * 16 + b) 1) (by rw [e3, nI_clamp (by omega), ya_b1]) (nm_r (nI_1 t) (ih (t + 1) (by omega) _ ?_))⟩
      intro i j hi hj
      rw [ya_Eput hb hj, hv i j hi hj]
      constructor
      · intro z
        rcases z with (z | ⟨z1, s, z2, z3⟩) | ⟨z1, z2⟩
        · exact Or.inl z
        · exact Or.inr ⟨z1, s, by omega, z3⟩
        · subst z1 z2
          exact Or.inr ⟨rfl, t, by omega, q, eb⟩
      · intro z
        rcases z with z | ⟨z1, s, z2, z3, z4⟩
        · exact Or.inl (Or.inl z)
        · by_cases e : s = t
          · subst e
            rw [eb, nI_eq (by omega) (by omega)] at z4
            exact Or.inr ⟨z1, z4.symm⟩
          · exact Or.inl (Or.inr ⟨z1, s, by omega, z3, z4⟩)
    · rw [ei, ek] at q
      intro i j hi hj
      rw [hv i j hi hj]
      constructor
      · intro z
        rcases z with z | ⟨z1, s, z2, z3⟩
        · exact Or.inl z
        · exact Or.inr ⟨z1, s, by omega, z3⟩
      · intro z
        rcases z with z | ⟨z1, s, z2, z3, z4⟩
        · exact Or.inl z
        · have e : s ≠ t := fun e => q (e ▸ z3)
          exact Or.inr ⟨z1, s, by omega, z3, z4⟩
theorem sh_dmD {L : Nat → Nat} {K A : Nat → Nat → Int32} : sh_dm (sh_D L K A) := fun _ _ h => ⟨h.1, h.2.1⟩
theorem ya_circ {post : Int32 → SY → Prop} {L : Nat → Nat} {K A : Nat → Nat → Int32} (hO : sh_OK L K A) (hP : sh_P L K A sz kd ag)
    (h0 : ∀ dp, (∀ i j, i < 16 → j < 16 → (ya_E dp i j ↔ gr_T (sh_D L K A) i j)) → gr_A (sh_D L K A) → post 0 (yn, yr, yc, yR, yC, kd, ag, sz, nb, td, tg, ip, ey, vy, bf, st, dp)) (h1 : ∀ dp, (∀ i j, i < 16 → j < 16 → (ya_E dp i j ↔ gr_T (sh_D L K A) i j)) → ¬ gr_A (sh_D L K A) → post 1 (yn, yr, yc, yR, yC, kd, ag, sz, nb, td, tg, ip, ey, vy, bf, st, dp)) : wpY_circle post (yn, yr, yc, yR, yC, kd, ag, sz, nb, td, tg, ip, ey, vy, bf, st, dp) := by
  have M2 : ∀ d c, c + d = 16 → ∀ dp, ya_H L K A c 0 dp → wY_circle_24 post yn yr yc yR yC (d + 1) (nI c) kd ag sz nb td tg ip ey vy bf st dp := by
    intro d
    induction d with
    | zero =>
      intro c hc dp hv
      have e : c = 16 := hc
      subst e
      have hi : ∀ i j, i < 16 → j < 16 → (ya_E dp i j ↔ sh_D L K A i j) := by
        intro i j hi hj
        rw [hv i j hi hj]
        exact ⟨fun z => z.elim (fun z => z.2) (fun z => by omega), fun z => Or.inl ⟨hi, z⟩⟩
      exact br_t (nI_le (Nat.le_refl 16) (by decide)) ⟨17, ya_stages sh_dmD h0 h1 16 0 rfl dp (fun i j a b z => Relation.TransGen.single ((hi i j a b).mp z)) (fun i j a b z => (hi i j a b).mpr z)⟩
    | succ d ih =>
      intro c hc dp hv
      exact br_f (nI_ge (b := 16) (by omega) (by decide)) ⟨L c + 1, ya_rows hO hP (by omega) (fun dp' h' => ih (c + 1) (by omega) dp' h') (L c) 0 (Nat.zero_add _) dp hv⟩
  have M1 : ∀ d x, x + d = 256 → ∀ dp : Nat → Int32, (∀ j, j < x → dp j = 0) → wY_circle_2 post yn yr yc yR yC (d + 1) (nI x) kd ag sz nb td tg ip ey vy bf st dp := by
    intro d
    induction d with
    | zero =>
      intro x hx dp hv
      have e : x = 256 := hx
      subst e
      refine br_t (nI_le (Nat.le_refl 256) (by decide)) ⟨17, M2 16 0 rfl dp ?_⟩
      intro i j hi hj
      constructor
      · intro z
        exact absurd (hv (i * 16 + j) (by omega)) z
      · intro z
        rcases z with ⟨z, _⟩ | ⟨_, s, z, _⟩ <;> omega
    | succ d ih =>
      intro x hx dp hv
      have ec : (nI x).toNatClampNeg = x := nI_clamp (by omega)
      refine br_f (nI_ge (b := 256) (by omega) (by decide)) ⟨vp_in_nI (by omega) (by omega), nm_r (e' := upd dp x 0) (by rw [ec, ya_b0]) (nm_r (nI_1 x) (ih (x + 1) (by omega) _ ?_))⟩
      intro j hj
      by_cases e : j = x
      · subst e; rw [pk_us]
      · rw [pk_un e]; exact hv j (by omega)
  exact ⟨257, M1 256 0 rfl dp (fun j z => absurd z (Nat.not_lt_zero j))⟩
end
end
section
theorem sk_v1 (a : Int32) (V s : Nat → Int32) (b : Nat) : sk_v 1 a V s b = V a.toNatClampNeg := (if_neg (by decide)).trans (if_pos rfl)
theorem sk_v0 (a : Int32) (V s : Nat → Int32) (b : Nat) : sk_v 0 a V s b = a := if_pos rfl
theorem sk_v7 (a : Int32) (V s : Nat → Int32) (b : Nat) : sk_v 7 a V s b = if s b ≤ 0 then s (b + 2) else s (b + 1) := (if_neg (by decide)).trans ((if_neg (by decide)).trans (if_pos rfl))
theorem sk_vc {k : Int32} (a : Int32) (V s : Nat → Int32) (b : Nat) (h0 : ¬ k = 0) (h1 : ¬ k = 1) (h7 : ¬ k = 7) : sk_v k a V s b = sk_c k (s b) (s (b + 1)) := (if_neg h0).trans ((if_neg h1).trans (if_neg h7))
theorem sk_c2 (x y : Int32) : sk_c 2 x y = x + y := if_pos rfl
theorem sk_c3 (x y : Int32) : sk_c 3 x y = x - y := (if_neg (by decide)).trans (if_pos rfl)
theorem sk_c4 (x y : Int32) : sk_c 4 x y = x * y := (if_neg (by decide)).trans ((if_neg (by decide)).trans (if_pos rfl))
theorem sk_c5 (x y : Int32) : sk_c 5 x y = if y ≤ x then y else x := (if_neg (by decide)).trans ((if_neg (by decide)).trans ((if_neg (by decide)).trans (if_pos rfl)))
theorem sk_c6 (x y : Int32) : sk_c 6 x y = if x ≤ y then y else x := (if_neg (by decide)).trans ((if_neg (by decide)).trans ((if_neg (by decide)).trans (if_neg (by decide))))
section
variable {yn yr yc yR yC : Int32} {kd ag sz nb td tg ip ey vy bf st dp : Nat → Int32}
theorem ya_246 {post : Int32 → SY → Prop} {J : Int32 → Int32 → (Nat → Int32) → (Nat → Int32) → (Nat → Int32) → (Nat → Int32) → (Nat → Int32) → (Nat → Int32) → (Nat → Int32) → (Nat → Int32) → (Nat → Int32) → (Nat → Int32) → (Nat → Int32) → (Nat → Int32) → Prop}
    {x1 v w : Int32} {h p t : Nat} (hp : p ≤ h) (hh : h < 8) (e : v = w) (H : J (nI (h - p + 1)) (nI (t + 1)) kd ag sz nb td tg ip ey vy bf (upd st (h - p) w) dp) : wY_worked_246 post J x1 (nI h) (nI t) (nI p) v yn yr yc yR yC kd ag sz nb td tg ip ey vy bf st dp := by
  subst e
  have e1 : nI h - nI p + 1 = nI (h - p + 1) := by rw [pk_sub hp, nI_1]
  have e2 : nI (h - p + 1) - 1 = nI (h - p) := nI_pred _
  exact nm_r e1 ⟨by rw [e2]; exact vp_in_nI (by omega) (by omega), nm_r (by rw [e2, nI_clamp (by omega)]) (nm_r (nI_1 t) H)⟩
theorem ya_102 {post : Int32 → SY → Prop} {J : Int32 → Int32 → (Nat → Int32) → (Nat → Int32) → (Nat → Int32) → (Nat → Int32) → (Nat → Int32) → (Nat → Int32) → (Nat → Int32) → (Nat → Int32) → (Nat → Int32) → (Nat → Int32) → (Nat → Int32) → (Nat → Int32) → Prop}
    {x1 k a x y z : Int32} {h t m : Nat} (hm : m < 8) (em : k = nI m) (hcell : k = 1 → ∃ b, b < 16 ∧ a = nI b) (hp : sk_p k ≤ h) (hh : h < 8) (hz : 1 ≤ h → z = st (h - 1)) (hy : 2 ≤ h → y = st (h - 2)) (hx : 3 ≤ h → x = st (h - 3))
    (H : J (nI (h - sk_p k + 1)) (nI (t + 1)) kd ag sz nb td tg ip ey vy bf (upd st (h - sk_p k) (sk_v k a vy st (h - sk_p k))) dp) : wY_worked_102 post J x1 (nI h) (nI t) k a (nI (sk_p k)) z y x yn yr yc yR yC kd ag sz nb td tg ip ey vy bf st dp := by
  have two : ¬ k = 0 → ¬ k = 1 → ¬ k = 7 → sk_p k = 2 := fun a b c => by unfold sk_p; rw [if_neg a, if_neg b, if_neg c]
  have arg : sk_p k = 2 → y = st (h - sk_p k) ∧ z = st (h - sk_p k + 1) := fun e => by
    rw [e] at hp ⊢
    exact ⟨hy hp, by rw [hz (by omega)]; congr 1; omega⟩
  refine br_c (fun e => ?_) (fun n1 => br_c (fun e => ?_) (fun n2 => br_c (fun e => ?_) (fun n3 => br_c (fun e => ?_) (fun n4 => br_c (fun e => ?_) (fun n5 => br_c (fun e => ?_) (fun n6 => br_c (fun e => ?_) (fun n7 => ?_)))))))
  · obtain ⟨b, hb, eb⟩ := hcell e
    refine ⟨by rw [eb]; exact vp_in_nI hb (by omega), nm_e (ya_246 hp hh ?_ H)⟩
    rw [e, sk_v1]
  · have e2 := arg (two (by rw [e]; decide) (by rw [e]; decide) (by rw [e]; decide))
    refine nm_e (ya_246 hp hh ?_ H)
    rw [sk_vc _ _ _ _ (by rw [e]; decide) (by rw [e]; decide) (by rw [e]; decide), ← e2.1, ← e2.2, e, sk_c2]
  · have e2 := arg (two (by rw [e]; decide) (by rw [e]; decide) (by rw [e]; decide))
    refine nm_e (ya_246 hp hh ?_ H)
    rw [sk_vc _ _ _ _ (by rw [e]; decide) (by rw [e]; decide) (by rw [e]; decide), ← e2.1, ← e2.2, e, sk_c3]
  · have e2 := arg (two (by rw [e]; decide) (by rw [e]; decide) (by rw [e]; decide))
    refine nm_e (ya_246 hp hh ?_ H)
    rw [sk_vc _ _ _ _ (by rw [e]; decide) (by rw [e]; decide) (by rw [e]; decide), ← e2.1, ← e2.2, e, sk_c4]
  · have e2 := arg (two (by rw [e]; decide) (by rw [e]; decide) (by rw [e]; decide))
    refine br_c (fun q => ya_246 hp hh ?_ H) (fun q => ya_246 hp hh ?_ H)
    · rw [sk_vc _ _ _ _ (by rw [e]; decide) (by rw [e]; decide) (by rw [e]; decide), ← e2.1, ← e2.2, e, sk_c5, if_pos q]
    · rw [sk_vc _ _ _ _ (by rw [e]; decide) (by rw [e]; decide) (by rw [e]; decide), ← e2.1, ← e2.2, e, sk_c5, if_neg q]
  · have e2 := arg (two (by rw [e]; decide) (by rw [e]; decide) (by rw [e]; decide))
    refine br_c (fun q => ya_246 hp hh ?_ H) (fun q => ya_246 hp hh ?_ H)
    · rw [sk_vc _ _ _ _ (by rw [e]; decide) (by rw [e]; decide) (by rw [e]; decide), ← e2.1, ← e2.2, e, sk_c6, if_pos q]
    · rw [sk_vc _ _ _ _ (by rw [e]; decide) (by rw [e]; decide) (by rw [e]; decide), ← e2.1, ← e2.2, e, sk_c6, if_neg q]
  · have e3 : sk_p k = 3 := by rw [e]; decide
    have g1 : x = st (h - sk_p k) := by rw [e3]; exact hx (by omega)
    have g2 : y = st (h - sk_p k + 1) := by rw [e3, hy (by omega)]; congr 1; omega
    have g3 : z = st (h - sk_p k + 2) := by rw [e3, hz (by omega)]; congr 1; omega
    have gv : sk_v k a vy st (h - sk_p k) = if x ≤ 0 then z else y := by
      rw [g1, g2, g3]
      generalize h - sk_p k = b
      rw [e, sk_v7]
    refine br_c (fun q => ya_246 hp hh ?_ H) (fun q => ya_246 hp hh ?_ H)
    · rw [gv, if_pos q]
    · rw [gv, if_neg q]
  · have e0 : k = 0 := by
      have c : m = 0 ∨ m = 1 ∨ m = 2 ∨ m = 3 ∨ m = 4 ∨ m = 5 ∨ m = 6 ∨ m = 7 := by omega
      rcases c with c | c | c | c | c | c | c | c <;> subst c
      · exact em
      · exact absurd em n1
      · exact absurd em n2
      · exact absurd em n3
      · exact absurd em n4
      · exact absurd em n5
      · exact absurd em n6
      · exact absurd em n7
    refine ya_246 hp hh ?_ H
    generalize h - sk_p k = b
    rw [e0, sk_v0]
theorem ya_worked {post : Int32 → SY → Prop} {K A : Nat → Int32} {c l : Nat} (hc : c < 16) (hl : l ≤ 8) (el : sz c = nI l) (hf : ∀ t, t < l → kd (c * 8 + t) = K t ∧ ag (c * 8 + t) = A t) (hV : ∀ t, t < l → sh_tok (K t) (A t)) (hS : sk_S K l)
    (h : ∀ s, post (sk_ev K A l vy) (yn, yr, yc, yR, yC, kd, ag, sz, nb, td, tg, ip, ey, vy, bf, s, dp)) : wpY_worked post (yn, yr, yc, yR, yC, kd, ag, sz, nb, td, tg, ip, ey, vy, bf, st, dp) (nI c) := by
  have L : ∀ d t, t + d = l → wY_worked_4 post (nI c) yn yr yc yR yC (d + 1) (nI (sk_h K t)) (nI t) kd ag sz nb td tg ip ey vy bf (sk_st K A vy st t) dp := by
    intro d
    have ecc : (nI c).toNatClampNeg = c := nI_clamp (by omega)
    have hinc : vp_in (nI c) 16 := vp_in_nI hc (by omega)
    induction d with
    | zero =>
      intro t ht
      have e : t = l := ht
      subst e
      refine ⟨hinc, br_t (by rw [ecc, el]; exact nI_le (Nat.le_refl t) (by omega)) ?_⟩
      have := h (sk_st K A vy st t)
      rw [← sk_end st hS] at this
      exact this
    | succ d ih =>
      intro t ht
      have ei : (nI c * 8 + nI t).toNatClampNeg = c * 8 + t := by rw [ya_i8, nI_clamp (by omega)]
      have hi2 : vp_in (nI c * 8 + nI t) 128 := by rw [ya_i8]; exact vp_in_nI (by omega) (by omega)
      obtain ⟨ek, ear⟩ := hf t (by omega)
      obtain ⟨⟨m, hm, em⟩, hcell⟩ := hV t (by omega)
      have hp := hS.1 t (by omega)
      have hh := sk_ht K t
      have ih := ih (t + 1) (by omega)
      have eh : sk_h K (t + 1) = sk_h K t - sk_p (K t) + 1 := rfl
      have es : sk_st K A vy st (t + 1) = upd (sk_st K A vy st t) (sk_h K t - sk_p (K t)) (sk_v (K t) (A t) vy (sk_st K A vy st t) (sk_h K t - sk_p (K t))) := rfl
      rw [eh, es] at ih
      refine ⟨hinc, br_f (by rw [ecc, el]; exact nI_ge (by omega) (by omega)) ⟨hi2, nm_r (e' := K t) (by rw [ei, ek]) ⟨hi2, nm_r (e' := A t) (by rw [ei, ear]) (ya_pops rfl hm em ?_)⟩⟩⟩
      generalize hH : sk_h K t = g at ih hp hh ⊢
      generalize sk_st K A vy st t = u at ih ⊢
      have e1 : 1 ≤ g → nI g - 1 = nI (g - 1) := fun z => pk_sub (b := 1) z
      have e2 : 2 ≤ g → nI g - 2 = nI (g - 2) := fun z => pk_sub (b := 2) z
      have e3 : 3 ≤ g → nI g - 3 = nI (g - 3) := fun z => pk_sub (b := 3) z
      have K3 : ∀ z y, (1 ≤ g → z = u (g - 1)) → (2 ≤ g → y = u (g - 2)) → wY_worked_83 post (wY_worked_4 post (nI c) yn yr yc yR yC (d + 1)) (nI c) (nI g) (nI t) (K t) (A t) (nI (sk_p (K t))) z y yn yr yc yR yC kd ag sz nb td tg ip ey vy bf u dp := by
        intro z y hz hy
        refine pk_le g 2 (fun q => ?_) (fun q => ⟨by rw [e3 q]; exact vp_in_nI (by omega) (by omega), ?_⟩)
        · exact ya_102 hm em hcell hp (by omega) hz hy (fun z => by omega) ih
        · exact ya_102 hm em hcell hp (by omega) hz hy (fun z => by rw [e3 z, nI_clamp (by omega)]) ih
      have K2 : ∀ z, (1 ≤ g → z = u (g - 1)) → wY_worked_64 post (wY_worked_4 post (nI c) yn yr yc yR yC (d + 1)) (nI c) (nI g) (nI t) (K t) (A t) (nI (sk_p (K t))) z yn yr yc yR yC kd ag sz nb td tg ip ey vy bf u dp := by
        intro z hz
        refine pk_le g 1 (fun q => ?_) (fun q => ⟨by rw [e2 q]; exact vp_in_nI (by omega) (by omega), ?_⟩)
        · exact K3 z 0 hz (fun z => by omega)
        · exact K3 z _ hz (fun z => by rw [e2 z, nI_clamp (by omega)])
      refine pk_le g 0 (fun q => ?_) (fun q => ⟨by rw [e1 q]; exact vp_in_nI (by omega) (by omega), ?_⟩)
      · exact K2 0 (fun z => by omega)
      · exact K2 _ (fun z => by rw [e1 z, nI_clamp (by omega)])
  exact ⟨l + 1, L l 0 (by omega)⟩
/-! the rounds of work -/
def ya_Q (S : Nat → Int32) (D : Nat → Nat → Prop) (p x : Nat) (v : Nat → Int32) : Prop := ∀ a, a < 16 → (gr_r D a < p ∨ (gr_r D a ≤ p ∧ a < x)) → v a = S a
theorem ya_Qput {G : Nat → (Nat → Int32) → Int32} {D : Nat → Nat → Prop} (hL : so_L G D) (hA : gr_A D) (hd : ∀ a b, D a b → b < 16) {p x : Nat} {v : Nat → Int32} {w : Int32} (hx : x < 16) (h : ya_Q (so_S G) D p x v) (hw : w = G x v) : ya_Q (so_S G) D p (x + 1) (upd v x w) := by
  intro a ha hr
  by_cases e : a = x
  · subst e
    rw [pk_us, hw, so_fix hL hA hd ha]
    apply hL a ha
    intro b hb
    have hlt := gr_rD hA (hd _ _ hb) hb
    exact h b (hd _ _ hb) (by omega)
  · rw [pk_un e]
    exact h a ha (by omega)
theorem ya_work13 {post : SY → Prop} {J : Int32 → Int32 → Int32 → Int32 → Int32 → Int32 → (Nat → Int32) → (Nat → Int32) → (Nat → Int32) → (Nat → Int32) → (Nat → Int32) → (Nat → Int32) → (Nat → Int32) → (Nat → Int32) → (Nat → Int32) → (Nat → Int32) → (Nat → Int32) → (Nat → Int32) → Prop}
    {L : Nat → Nat} {K A : Nat → Nat → Int32} (hO : sh_OK L K A) (hP : sh_P L K A sz kd ag) (hA : gr_A (sh_D L K A)) {G : Nat → (Nat → Int32) → Int32} (hL : so_L G (sh_D L K A)) {x1 x2 x3 x4 : Int32}
    (h1 : ∀ c, c < 16 → nI c = x1 → ∀ V, x2 = G c V) (h2 : ∀ c, c < 16 → ¬ nI c = x1 → nI c = x3 → ∀ V, x4 = G c V) (h3 : ∀ c, c < 16 → ¬ nI c = x1 → ¬ nI c = x3 → ∀ V, sh_F L K A nb c V = G c V)
    {p : Nat} (hp : p < 16) (h : ∀ v s, ya_Q (so_S G) (sh_D L K A) (p + 1) 0 v → J (nI (p + 1)) yn yr yc yR yC kd ag sz nb td tg ip ey v bf s dp) :
    ∀ d x, x + d = 16 → ∀ v s, ya_Q (so_S G) (sh_D L K A) p x v → wY_work_13 post J x1 x2 x3 x4 (nI p) (d + 1) (nI x) yn yr yc yR yC kd ag sz nb td tg ip ey v bf s dp := by
  intro d
  induction d with
  | zero =>
    intro x hx v s hv
    have e : x = 16 := hx
    subst e
    refine br_t (nI_le (Nat.le_refl 16) (by decide)) (nm_r (nI_1 p) (h v s ?_))
    intro a ha h2
    exact hv a ha (by omega)
  | succ d ih =>
    intro x hx v s hv
    have hx16 : x < 16 := by omega
    have ec : (nI x).toNatClampNeg = x := nI_clamp (by omega)
    have hin : vp_in (nI x) 16 := vp_in_nI hx16 (by omega)
    have put : ∀ w s', w = G x v → wY_work_13 post J x1 x2 x3 x4 (nI p) (d + 1) (nI (x + 1)) yn yr yc yR yC kd ag sz nb td tg ip ey (upd v x w) bf s' dp := fun w s' hw => ih (x + 1) (by omega) _ s' (ya_Qput hL hA sh_dom hx16 hv hw)
    refine br_f (nI_ge (b := 16) hx16 (by decide)) ⟨hin, nm_r (e' := nb x) (by rw [ec]) (br_c (fun q => ⟨hin, nm_r (by rw [ec]) (nm_r (nI_1 x) (put x2 s (h1 x hx16 q v)))⟩) (fun q => br_c (fun q2 => ⟨hin, nm_r (by rw [ec]) (nm_r (nI_1 x) (put x4 s (h2 x hx16 q q2 v)))⟩) (fun q2 => ⟨hin, ?_⟩)))⟩
    have hF := h3 x hx16 q q2 v
    obtain ⟨o1, o2, o3⟩ := hO x hx16
    obtain ⟨p1, p2⟩ := hP x hx16
    unfold sh_F at hF
    refine pk_le (L x) 0 (fun q => ?_) (fun q => ?_) (by rw [ec]; exact p1) rfl (by omega)
    · rw [if_pos (by omega)] at hF
      exact ⟨hin, nm_r (by rw [ec]) (nm_r (nI_1 x) (put _ s hF))⟩
    · rw [if_neg (by omega)] at hF
      refine ya_worked hx16 o1 p1 p2 o2 (o3.resolve_left (by omega)) (fun s' => ?_)
      exact ⟨hin, nm_r (by rw [ec]) (nm_r (nI_1 x) (put _ s' hF))⟩
theorem ya_work {post : SY → Prop} {L : Nat → Nat} {K A : Nat → Nat → Int32} (hO : sh_OK L K A) (hP : sh_P L K A sz kd ag) (hA : gr_A (sh_D L K A)) {G : Nat → (Nat → Int32) → Int32} (hL : so_L G (sh_D L K A)) {x1 x2 x3 x4 : Int32}
    (h1 : ∀ c, c < 16 → nI c = x1 → ∀ V, x2 = G c V) (h2 : ∀ c, c < 16 → ¬ nI c = x1 → nI c = x3 → ∀ V, x4 = G c V) (h3 : ∀ c, c < 16 → ¬ nI c = x1 → ¬ nI c = x3 → ∀ V, sh_F L K A nb c V = G c V)
    (h : ∀ v s, (∀ c, c < 16 → v c = so_S G c) → post (yn, yr, yc, yR, yC, kd, ag, sz, nb, td, tg, ip, ey, v, bf, s, dp)) : wpY_work post (yn, yr, yc, yR, yC, kd, ag, sz, nb, td, tg, ip, ey, vy, bf, st, dp) x1 x2 x3 x4 := by
  have M : ∀ d p, p + d = 16 → ∀ v s, ya_Q (so_S G) (sh_D L K A) p 0 v → wY_work_3 post x1 x2 x3 x4 (d + 1) (nI p) yn yr yc yR yC kd ag sz nb td tg ip ey v bf s dp := by
    intro d
    induction d with
    | zero =>
      intro p hp v s hv
      have e : p = 16 := hp
      subst e
      exact br_t (nI_le (Nat.le_refl 16) (by decide)) (h v s fun c hc => hv c hc (Or.inl (gr_r16 hA hc)))
    | succ d ih =>
      intro p hp v s hv
      exact br_f (nI_ge (b := 16) (by omega) (by decide)) ⟨17, ya_work13 hO hP hA hL h1 h2 h3 (by omega) (fun v' s' h' => ih (p + 1) (by omega) v' s' h') 16 0 rfl v s hv⟩
  refine ⟨17, M 16 0 rfl vy st ?_⟩
  intro a _ z
  omega
theorem ya_work0 {post : SY → Prop} {L : Nat → Nat} {K A : Nat → Nat → Int32} (hO : sh_OK L K A) (hP : sh_P L K A sz kd ag) (hA : gr_A (sh_D L K A))
    (h : ∀ v s, (∀ c, c < 16 → v c = so_S (sh_F L K A nb) c) → post (yn, yr, yc, yR, yC, kd, ag, sz, nb, td, tg, ip, ey, v, bf, s, dp)) : wpY_work post (yn, yr, yc, yR, yC, kd, ag, sz, nb, td, tg, ip, ey, vy, bf, st, dp) (-1) 0 (-1) 0 := by
  have n1 : ∀ c, c < 16 → ¬ nI c = -1 := by decide +kernel
  exact ya_work hO hP hA (sh_loc hO) (fun c hc e => absurd e (n1 c hc)) (fun c hc _ e => absurd e (n1 c hc)) (fun _ _ _ _ _ => rfl) h
theorem ya_workG {post : SY → Prop} {L : Nat → Nat} {K A : Nat → Nat → Int32} (hO : sh_OK L K A) (hP : sh_P L K A sz kd ag) (hA : gr_A (sh_D L K A)) {r q : Nat} (hr : r < 16) (hq : q < 16) {x y : Int32}
    (h : ∀ v s, (∀ c, c < 16 → v c = so_S (sh_G L K A nb r x q y) c) → post (yn, yr, yc, yR, yC, kd, ag, sz, nb, td, tg, ip, ey, v, bf, s, dp)) : wpY_work post (yn, yr, yc, yR, yC, kd, ag, sz, nb, td, tg, ip, ey, vy, bf, st, dp) (nI r) x (nI q) y := by
  refine ya_work hO hP hA (sh_gloc hO r x q y) ?_ ?_ ?_ h
  · intro c hc e V
    rw [nI_eq (by omega) (by omega)] at e
    exact (if_pos e).symm
  · intro c hc e1 e2 V
    rw [nI_eq (by omega) (by omega)] at e1 e2
    exact ((if_neg e1).trans (if_pos e2)).symm
  · intro c hc e1 e2 V
    rw [nI_eq (by omega) (by omega)] at e1 e2
    exact ((if_neg e1).trans (if_neg e2)).symm
end
end
section
def re_T (n : Nat) (TK TA tk ta td tg : Nat → Int32) : Prop := n ≤ 8 ∧ ∀ t, t < n → tk t = TK t ∧ ta t = TA t ∧ td t = TK t ∧ tg t = TA t ∧ sh_tok (TK t) (TA t)
def re_I (r q : Nat) (ri ci ip : Nat → Int32) : Prop := r ≤ 4 ∧ q ≤ 4 ∧ (∀ i, i < r → ri i = ip i) ∧ (∀ j, j < q → ci j = ip (4 + j))
def re_E (R C : Nat) (en ey : Nat → Int32) : Prop := R ≤ 4 ∧ C ≤ 4 ∧ ∀ i j, i < R → j < C → en (i * 4 + j) = ey (i * 4 + j)
def re_S (L : Nat → Nat) (K A : Nat → Nat → Int32) (nu fl fk fa dc vl sz kd ag : Nat → Int32) : Prop :=
  sh_OK L K A ∧ sh_P L K A fl fk fa ∧ sh_P L K A sz kd ag ∧ gr_A (sh_D L K A) ∧ sh_B (sh_D L K A) dc ∧ (∀ c, c < 16 → vl c = so_S (sh_F L K A nu) c)
/-- both hold one sheet L, K, A (lengths, kinds, arguments), the same numbers, the same typed tokens TK, TA, inputs and table; no circle; X's sets are the graph's, X's values the sheet's -/
def i_Rel (k : Nat) (u : SX) (v : SY) : Prop := ∃ (n r q R C : Nat) (L : Nat → Nat) (K A : Nat → Nat → Int32) (TK TA tk ta nu fl fk fa dc vl fo tr sk ri ci en kd ag sz td tg ip ey vy bf st dp : Nat → Int32),
  u = (nI n, nI r, nI q, nI R, nI C, tk, ta, nu, fl, fk, fa, dc, vl, fo, tr, sk, ri, ci, en) ∧ v = (nI n, nI r, nI q, nI R, nI C, kd, ag, sz, nu, td, tg, ip, ey, vy, bf, st, dp) ∧
  re_T n TK TA tk ta td tg ∧ re_I r q ri ci ip ∧ re_E R C en ey ∧ re_S L K A nu fl fk fa dc vl sz kd ag
theorem re_mk {k n r q R C : Nat} {L : Nat → Nat} {K A : Nat → Nat → Int32} {TK TA tk ta nu fl fk fa dc vl fo tr sk ri ci en kd ag sz td tg ip ey vy bf st dp : Nat → Int32}
    (g1 : re_T n TK TA tk ta td tg) (g2 : re_I r q ri ci ip) (g3 : re_E R C en ey) (g4 : re_S L K A nu fl fk fa dc vl sz kd ag) :
    i_Rel k (nI n, nI r, nI q, nI R, nI C, tk, ta, nu, fl, fk, fa, dc, vl, fo, tr, sk, ri, ci, en) (nI n, nI r, nI q, nI R, nI C, kd, ag, sz, nu, td, tg, ip, ey, vy, bf, st, dp) := ⟨n, r, q, R, C, L, K, A, TK, TA, tk, ta, nu, fl, fk, fa, dc, vl, fo, tr, sk, ri, ci, en, kd, ag, sz, td, tg, ip, ey, vy, bf, st, dp, rfl, rfl, g1, g2, g3, g4⟩
theorem re_T0 (tk ta td tg : Nat → Int32) : re_T 0 tk ta tk ta td tg := ⟨Nat.zero_le 8, fun t z => absurd z (Nat.not_lt_zero t)⟩
theorem re_I0 (ri ci ip : Nat → Int32) : re_I 0 0 ri ci ip := ⟨Nat.zero_le 4, Nat.zero_le 4, fun t z => absurd z (Nat.not_lt_zero t), fun t z => absurd z (Nat.not_lt_zero t)⟩
theorem re_E0 (en ey : Nat → Int32) : re_E 0 0 en ey := ⟨Nat.zero_le 4, Nat.zero_le 4, fun t _ z _ => absurd z (Nat.not_lt_zero t)⟩
theorem i_up {k : Nat} {u : SX} {v : SY} (h : i_Rel k u v) : i_Rel (k + 4) u v := h
theorem re_D0 {K A : Nat → Nat → Int32} {c a : Nat} (h : sh_D (fun _ => 0) K A c a) : False := by
  obtain ⟨_, _, t, z, _⟩ := h
  exact Nat.not_lt_zero t z
theorem i_vc0 : wpX_init (fun u => wpY_init (fun v => i_Rel 0 u v)) := by
  refine re_mk (k := 0) (n := 0) (r := 0) (q := 0) (R := 0) (C := 0) (L := fun _ => 0) (K := fun _ _ => 0) (A := fun _ _ => 0) (re_T0 _ _ _ _) (re_I0 _ _ _) (re_E0 _ _) ⟨?_, ?_, ?_, ?_, ?_, ?_⟩
  · exact fun c _ => ⟨Nat.zero_le 8, fun t z => absurd z (Nat.not_lt_zero t), Or.inl rfl⟩
  · exact fun c _ => ⟨rfl, fun t z => absurd z (Nat.not_lt_zero t)⟩
  · exact fun c _ => ⟨rfl, fun t z => absurd z (Nat.not_lt_zero t)⟩
  · intro c h
    obtain ⟨a, ha, _⟩ := gr_head h
    exact re_D0 ha
  · intro c _ i _
    rw [b_0]
    exact ⟨fun z => absurd z (by decide), fun z => (re_D0 z).elim⟩
  · intro c _
    show (0 : Int32) = sh_F (fun _ => 0) (fun _ _ => 0) (fun _ _ => 0) (fun _ => 0) c (so_it (sh_F (fun _ => 0) (fun _ _ => 0) (fun _ _ => 0) (fun _ => 0)) 15)
    unfold sh_F
    rw [if_pos rfl]
section
variable {xn xr xc xR xC : Int32} {tk ta nu fl fk fa dc vl fo tr sk ri ci en : Nat → Int32}
variable {yn yr yc yR yC : Int32} {kd ag sz nb td tg ip ey vy bf st dp : Nat → Int32}
theorem re_not7 {x : Int32} (h : nI 8 ≤ x) : ¬ x ≤ 7 := fun z => absurd (Int32.le_trans h z) (by decide)
theorem xa_tok {post : Int32 → SX → Prop} {m : Nat} {y : Int32} (hm : m < 8) (hv : m = 1 → ∃ b, b < 16 ∧ y = nI b) (H : wX_token_28 post (nI m) y xn xr xc xR xC tk ta nu fl fk fa dc vl fo tr sk ri ci en) : wpX_token post (xn, xr, xc, xR, xC, tk, ta, nu, fl, fk, fa, dc, vl, fo, tr, sk, ri, ci, en) (nI m) y := by
  refine br_f (nI_pos (by omega)) (br_t (nI_le (b := 7) (by omega) (by decide)) (br_c (fun e => ?_) (fun e => H)))
  obtain ⟨b, hb, eb⟩ := hv ((nI_eq (b := 1) (by omega) (by decide)).mp e)
  rw [eb] at H ⊢
  exact xa_cellT hb (br_f (by decide) H)
theorem ya_tok {post : Int32 → SY → Prop} {m : Nat} {y : Int32} (hm : m < 8) (hv : m = 1 → ∃ b, b < 16 ∧ y = nI b) (H : wY_token_26 post (nI m) y yn yr yc yR yC kd ag sz nb td tg ip ey vy bf st dp) : wpY_token post (yn, yr, yc, yR, yC, kd, ag, sz, nb, td, tg, ip, ey, vy, bf, st, dp) (nI m) y := by
  refine br_f (nI_pos (by omega)) (br_f (nI_nlt (a := 7) (by omega) (by omega)) (br_c (fun e => ?_) (fun e => H)))
  obtain ⟨b, hb, eb⟩ := hv ((nI_eq (b := 1) (by omega) (by decide)).mp e)
  rw [eb] at H ⊢
  exact ya_badF hb (br_t rfl H)
end
theorem re_Tput {n : Nat} {TK TA tk ta td tg : Nat → Int32} {x y : Int32} (g : re_T n TK TA tk ta td tg) (hn : n < 8) (hv : sh_tok x y) : re_T (n + 1) (upd TK n x) (upd TA n y) (upd tk n x) (upd ta n y) (upd td n x) (upd tg n y) := by
  refine ⟨by omega, fun t ht => ?_⟩
  by_cases e : t = n
  · subst e
    rw [pk_us, pk_us, pk_us, pk_us, pk_us, pk_us]
    exact ⟨rfl, rfl, rfl, rfl, hv⟩
  · rw [pk_un e, pk_un e, pk_un e, pk_un e, pk_un e, pk_un e]
    exact g.2 t (by omega)
theorem i_vc_token {k : Nat} {u : SX} {v : SY} (I : i_Rel k u v) (hk : k + 4 ≤ 2048) (v1 : Int32) (v2 : Int32) : wpX_token (fun r u' => wpY_token (fun r' v' => r' = r ∧ i_Rel (k + 4) u' v') v v1 v2) u v1 v2 := by
  obtain ⟨n, r, q, R, C, L, K, A, TK, TA, tk, ta, nu, fl, fk, fa, dc, vl, fo, tr, sk, ri, ci, en, kd, ag, sz, td, tg, ip, ey, vy, bf, st, dp, rfl, rfl, g1, g2, g3, g4⟩ := I
  have hn := g1.1
  by_cases h0 : v1 < 0
  · exact br_t h0 (br_t h0 ⟨rfl, re_mk g1 g2 g3 g4⟩)
  rcases pk_ix v1 (n := 8) (by decide) with h | h | ⟨m, hm, rfl⟩
  · exact absurd h h0
  · exact br_f h0 (br_f (re_not7 h) (br_f h0 (br_t (Int32.not_le.mp (re_not7 h)) ⟨rfl, re_mk g1 g2 g3 g4⟩)))
  by_cases hv : m = 1 → ∃ b, b < 16 ∧ v2 = nI b
  · refine xa_tok hm hv (pk_lt n 8 (fun hlt => ?_) (fun hge => ?_))
    · have ec : (nI n).toNatClampNeg = n := nI_clamp (by omega)
      have hin : vp_in (nI n) 8 := vp_in_nI hlt (by omega)
      have n8 : ¬ nI n = 8 := fun z => absurd ((nI_eq (b := 8) (by omega) (by decide)).mp z) (by omega)
      refine ⟨hin, nm_r (by rw [ec]) ⟨hin, nm_r (by rw [ec]) (nm_r (nI_1 n) ?_)⟩⟩
      refine ya_tok hm hv (br_f n8 ⟨hin, nm_r (by rw [ec]) ⟨hin, nm_r (by rw [ec]) (nm_r (nI_1 n) ⟨rfl, re_mk (re_Tput g1 hlt ⟨⟨m, hm, rfl⟩, fun z => hv ((nI_eq (b := 1) (by omega) (by decide)).mp z)⟩) g2 g3 g4⟩)⟩⟩)
    · have n8 : n = 8 := by omega
      subst n8
      exact ya_tok hm hv (br_t rfl ⟨rfl, re_mk g1 g2 g3 g4⟩)
  · have m1 : m = 1 := Classical.byContradiction fun z => hv (fun y => absurd y z)
    subst m1
    have nb : v2 < 0 ∨ nI 16 ≤ v2 := by
      rcases pk_ix v2 (n := 16) (by decide) with h | h | ⟨j, hj, rfl⟩
      · exact Or.inl h
      · exact Or.inr h
      · exact absurd (fun _ => ⟨j, hj, rfl⟩) hv
    refine br_f (by decide) (br_t (by decide) (br_t rfl (xa_cellF nb (br_t rfl ?_))))
    exact br_f (by decide) (br_f (by decide) (br_t rfl (ya_badT nb (br_f (by decide) ⟨rfl, re_mk g1 g2 g3 g4⟩))))
theorem i_vc_clearTokens {k : Nat} {u : SX} {v : SY} (I : i_Rel k u v) (hk : k + 4 ≤ 2048) : wpX_clearTokens (fun u' => wpY_clearTokens (fun v' => i_Rel (k + 4) u' v') v) u := by
  obtain ⟨n, r, q, R, C, L, K, A, TK, TA, tk, ta, nu, fl, fk, fa, dc, vl, fo, tr, sk, ri, ci, en, kd, ag, sz, td, tg, ip, ey, vy, bf, st, dp, rfl, rfl, g1, g2, g3, g4⟩ := I
  exact re_mk (k := k + 4) (n := 0) (re_T0 _ _ _ _) g2 g3 g4
theorem i_vc_input {k : Nat} {u : SX} {v : SY} (I : i_Rel k u v) (hk : k + 4 ≤ 2048) (v1 : Int32) (v2 : Int32) : wpX_input (fun r u' => wpY_input (fun r' v' => r' = r ∧ i_Rel (k + 4) u' v') v (lw_bz v1) v2) u (lw_bz v1) v2 := by
  obtain ⟨n, r, q, R, C, L, K, A, TK, TA, tk, ta, nu, fl, fk, fa, dc, vl, fo, tr, sk, ri, ci, en, kd, ag, sz, td, tg, ip, ey, vy, bf, st, dp, rfl, rfl, g1, g2, g3, g4⟩ := I
  obtain ⟨hr, hq, hri, hci⟩ := g2
  generalize lw_bz v1 = p
  by_cases e : p = 0
  · refine br_t e (pk_lt q 4 (fun hlt => ?_) (fun hge => ?_))
    · have ec : (nI q).toNatClampNeg = q := nI_clamp (by omega)
      have hin : vp_in (nI q) 4 := vp_in_nI hlt (by omega)
      have e4 : (4 : Int32) + nI q = nI (4 + q) := nI_add 4 q
      have n4 : ¬ nI q = 4 := fun z => absurd ((nI_eq (b := 4) (by omega) (by decide)).mp z) (by omega)
      refine ⟨hin, nm_r (by rw [ec]) (nm_r (nI_1 q) ?_)⟩
      refine br_t e (br_f n4 (br_t e ⟨by rw [e4]; exact vp_in_nI (by omega) (by omega), nm_r (e' := upd ip (4 + q) v2) (by rw [e4, nI_clamp (by omega)]) (br_t e (nm_r (nI_1 q) ⟨nI_1 q, re_mk g1 ⟨hr, hlt, ?_, ?_⟩ g3 g4⟩))⟩))
      · intro i hi
        rw [pk_un (by omega)]
        exact hri i hi
      · intro j hj
        by_cases e : j = q
        · subst e; rw [pk_us, pk_us]
        · rw [pk_un e, pk_un (by omega)]
          exact hci j (by omega)
    · have n4 : q = 4 := by omega
      subst n4
      exact br_t e (br_t rfl ⟨rfl, re_mk g1 ⟨hr, hq, hri, hci⟩ g3 g4⟩)
  · refine br_f e (pk_lt r 4 (fun hlt => ?_) (fun hge => ?_))
    · have ec : (nI r).toNatClampNeg = r := nI_clamp (by omega)
      have hin : vp_in (nI r) 4 := vp_in_nI hlt (by omega)
      have e4 : (0 : Int32) + nI r = nI (0 + r) := nI_add 0 r
      have n4 : ¬ nI r = 4 := fun z => absurd ((nI_eq (b := 4) (by omega) (by decide)).mp z) (by omega)
      refine ⟨hin, nm_r (by rw [ec]) (nm_r (nI_1 r) ?_)⟩
      refine br_f e (br_f n4 (br_f e ⟨by rw [e4]; exact vp_in_nI (by omega) (by omega), nm_r (e' := upd ip r v2) (by rw [e4, nI_clamp (by omega), Nat.zero_add]) (br_f e (nm_r (nI_1 r) ⟨nI_1 r, re_mk g1 ⟨hlt, hq, ?_, ?_⟩ g3 g4⟩))⟩))
      · intro i hi
        by_cases e : i = r
        · subst e; rw [pk_us, pk_us]
        · rw [pk_un e, pk_un e]
          exact hri i (by omega)
      · intro j hj
        rw [pk_un (by omega)]
        exact hci j hj
    · have n4 : r = 4 := by omega
      subst n4
      exact br_f e (br_t rfl ⟨rfl, re_mk g1 ⟨hr, hq, hri, hci⟩ g3 g4⟩)
theorem i_vc_entry {k : Nat} {u : SX} {v : SY} (I : i_Rel k u v) (hk : k + 4 ≤ 2048) (v1 : Int32) (v2 : Int32) : wpX_entry (fun r => wpY_entry (fun r' => r' = r ∧ i_Rel (k + 4) u v) v v1 v2) u v1 v2 := by
  obtain ⟨n, r, q, R, C, L, K, A, TK, TA, tk, ta, nu, fl, fk, fa, dc, vl, fo, tr, sk, ri, ci, en, kd, ag, sz, td, tg, ip, ey, vy, bf, st, dp, rfl, rfl, g1, g2, g3, g4⟩ := I
  have J : i_Rel (k + 4) _ _ := re_mk (k := k + 4) (fo := fo) (tr := tr) (sk := sk) (vy := vy) (bf := bf) (st := st) (dp := dp) g1 g2 g3 g4
  obtain ⟨hR, hC, he⟩ := g3
  by_cases h0 : v1 < 0
  · exact br_t h0 (br_t h0 ⟨rfl, J⟩)
  rcases pk_ix v1 (n := R) (by omega) with h | h | ⟨i, hi, rfl⟩
  · exact absurd h h0
  · exact br_f h0 (br_t h (br_f h0 (br_t h ⟨rfl, J⟩)))
  have h1 : ¬ nI R ≤ nI i := nI_ge hi (by omega)
  by_cases k0 : v2 < 0
  · exact br_f h0 (br_f h1 (br_t k0 (br_f h0 (br_f h1 (br_t k0 ⟨rfl, J⟩)))))
  rcases pk_ix v2 (n := C) (by omega) with h | h | ⟨j, hj, rfl⟩
  · exact absurd h k0
  · have k1 : ¬ v2 < nI C := Int32.not_lt.mpr h
    exact br_f h0 (br_f h1 (br_f k0 (br_f k1 (br_f h0 (br_f h1 (br_f k0 (br_f k1 ⟨rfl, J⟩)))))))
  have k1 : nI j < nI C := nI_lt hj (by omega)
  have hin : vp_in (nI i * 4 + nI j) 16 := by rw [ya_i4]; exact vp_in_nI (by omega) (by omega)
  have ee : ey (nI i * 4 + nI j).toNatClampNeg = en (nI i * 4 + nI j).toNatClampNeg := by rw [ya_i4, nI_clamp (by omega)]; exact (he i j hi hj).symm
  exact br_f h0 (br_f h1 (br_f k0 (br_t k1 ⟨hin, br_f h0 (br_f h1 (br_f k0 (br_t k1 ⟨hin, ee, J⟩)))⟩)))
theorem i_vc_value {k : Nat} {u : SX} {v : SY} (I : i_Rel k u v) (hk : k + 4 ≤ 2048) (v1 : Int32) : wpX_value (fun r => wpY_value (fun r' v' => r' = r ∧ i_Rel (k + 4) u v') v v1) u v1 := by
  obtain ⟨n, r, q, R, C, L, K, A, TK, TA, tk, ta, nu, fl, fk, fa, dc, vl, fo, tr, sk, ri, ci, en, kd, ag, sz, td, tg, ip, ey, vy, bf, st, dp, rfl, rfl, g1, g2, g3, g4⟩ := I
  unfold wpX_value wpY_value
  have J := fun vy st => re_mk (k := k + 4) (fo := fo) (tr := tr) (sk := sk) (vy := vy) (bf := bf) (st := st) (dp := dp) g1 g2 g3 g4
  obtain ⟨hO, hP, hP', hA, hB, hv⟩ := g4
  rcases pk_ix v1 (n := 16) (by decide) with h | h | ⟨z, hz, rfl⟩
  · exact xa_cellF (Or.inl h) (br_t rfl (ya_badT (Or.inl h) (br_f (by decide) ⟨rfl, J _ _⟩)))
  · exact xa_cellF (Or.inr h) (br_t rfl (ya_badT (Or.inr h) (br_f (by decide) ⟨rfl, J _ _⟩)))
  have ec : (nI z).toNatClampNeg = z := nI_clamp (by omega)
  have hin : vp_in (nI z) 16 := vp_in_nI hz (by omega)
  refine xa_cellT hz (br_f (by decide) ⟨hin, ya_badF hz (br_t rfl (ya_work0 hO hP' hA (fun w s hw => ⟨hin, ?_, J w s⟩)))⟩)
  rw [ec, hw z hz, hv z hz]
theorem i_vc_isFormula {k : Nat} {u : SX} {v : SY} (I : i_Rel k u v) (hk : k + 4 ≤ 2048) (v1 : Int32) : wpX_isFormula (fun r => wpY_isFormula (fun r' => r' = r ∧ i_Rel (k + 4) u v) v v1) u v1 := by
  obtain ⟨n, r, q, R, C, L, K, A, TK, TA, tk, ta, nu, fl, fk, fa, dc, vl, fo, tr, sk, ri, ci, en, kd, ag, sz, td, tg, ip, ey, vy, bf, st, dp, rfl, rfl, g1, g2, g3, g4⟩ := I
  unfold wpX_isFormula wpY_isFormula
  have J := re_mk (k := k + 4) (fo := fo) (tr := tr) (sk := sk) (vy := vy) (bf := bf) (st := st) (dp := dp) g1 g2 g3 g4
  obtain ⟨hO, hP, hP', hA, hB, hv⟩ := g4
  rcases pk_ix v1 (n := 16) (by decide) with h | h | ⟨z, hz, rfl⟩
  · exact xa_cellF (Or.inl h) (br_t rfl (ya_badT (Or.inl h) (br_f (by decide) ⟨rfl, J⟩)))
  · exact xa_cellF (Or.inr h) (br_t rfl (ya_badT (Or.inr h) (br_f (by decide) ⟨rfl, J⟩)))
  have ec : (nI z).toNatClampNeg = z := nI_clamp (by omega)
  have hin : vp_in (nI z) 16 := vp_in_nI hz (by omega)
  have e1 : sz (nI z).toNatClampNeg = fl (nI z).toNatClampNeg := by rw [ec, (hP z hz).1, (hP' z hz).1]
  refine xa_cellT hz (br_f (by decide) ⟨hin, br_c (fun q => ya_badF hz (br_t rfl ⟨hin, br_t (by rw [e1]; exact q) ⟨rfl, J⟩⟩)) (fun q => ya_badF hz (br_t rfl ⟨hin, br_f (by rw [e1]; exact q) ⟨rfl, J⟩⟩))⟩)
section
variable {xn xr xc xR xC : Int32} {tk ta nu fl fk fa dc vl fo tr sk ri ci en : Nat → Int32}
variable {yn yr yc yR yC : Int32} {kd ag sz nb td tg ip ey vy bf st dp : Nat → Int32}
theorem xa_cntD {post : Int32 → Prop} {D : Nat → Nat → Prop} (hA : gr_A D) {z : Nat} (hz : z < 16) {m : Int32} (hm : ∀ i, i < 32 → (bt m i = true ↔ sh_R D z i)) (h : post (nI (gr_cnt (fun c => gr_T D c z) 16))) :
    ∀ d x, x + d = 16 → wX_dependents_20 post (nI z) m xn xr xc xR xC tk ta nu fl fk fa dc vl fo tr sk ri ci en (d + 1) (nI (gr_cnt (fun c => gr_T D c z) x)) (nI x) := by
  intro d
  induction d with
  | zero =>
    intro x hx
    have e : x = 16 := hx
    subst e
    exact br_t (nI_le (Nat.le_refl 16) (by decide)) h
  | succ d ih =>
    intro x hx
    have ih := ih (x + 1) (by omega)
    refine br_f (nI_ge (b := 16) (by omega) (by decide)) (pk_eq x z (fun e => nm_r (nI_1 x) ?_) (fun e => xa_has (by omega) (fun b => br_t rfl (nm_r (nI_1 x) ?_)) (fun b => br_f (by decide) (nm_r (nI_1 _) (nm_r (nI_1 x) ?_)))))
    · subst e
      rw [gr_c0 (P := fun c => gr_T D c x) (hA x)] at ih
      exact ih
    · rw [hm x (by omega)] at b
      rw [gr_c0 (P := fun c => gr_T D c z) (fun t => b (Or.inr t))] at ih
      exact ih
    · rw [hm x (by omega)] at b
      rw [gr_c1 (P := fun c => gr_T D c z) (b.resolve_left e)] at ih
      exact ih
theorem ya_cntD {post : Int32 → SY → Prop} {D : Nat → Nat → Prop} {z : Nat} (hz : z < 16) (hm : ∀ i j, i < 16 → j < 16 → (ya_E dp i j ↔ gr_T D i j)) (h : post (nI (gr_cnt (fun c => gr_T D c z) 16)) (yn, yr, yc, yR, yC, kd, ag, sz, nb, td, tg, ip, ey, vy, bf, st, dp)) :
    ∀ d x, x + d = 16 → wY_dependents_20 post (nI z) 0 yn yr yc yR yC kd ag sz nb td tg ip ey vy bf st dp (d + 1) (nI (gr_cnt (fun c => gr_T D c z) x)) (nI x) := by
  intro d
  induction d with
  | zero =>
    intro x hx
    have e : x = 16 := hx
    subst e
    exact br_t (nI_le (Nat.le_refl 16) (by decide)) h
  | succ d ih =>
    intro x hx
    have ih := ih (x + 1) (by omega)
    have e1 : (nI x * 16 + nI z).toNatClampNeg = x * 16 + z := by rw [ya_i16, nI_clamp (by omega)]
    refine br_f (nI_ge (b := 16) (by omega) (by decide)) (br_t rfl ⟨by rw [ya_i16]; exact vp_in_nI (by omega) (by omega), br_c (fun b => nm_r (nI_1 x) ?_) (fun b => nm_r (nI_1 _) (nm_r (nI_1 x) ?_))⟩)
    · rw [e1] at b
      rw [gr_c0 (P := fun c => gr_T D c z) (fun t => (hm x z (by omega) hz).mpr t b)] at ih
      exact ih
    · rw [e1] at b
      rw [gr_c1 (P := fun c => gr_T D c z) ((hm x z (by omega) hz).mp b)] at ih
      exact ih
end
theorem i_vc_dependents {k : Nat} {u : SX} {v : SY} (I : i_Rel k u v) (hk : k + 4 ≤ 2048) (v1 : Int32) : wpX_dependents (fun r => wpY_dependents (fun r' v' => r' = r ∧ i_Rel (k + 4) u v') v v1) u v1 := by
  obtain ⟨n, r, q, R, C, L, K, A, TK, TA, tk, ta, nu, fl, fk, fa, dc, vl, fo, tr, sk, ri, ci, en, kd, ag, sz, td, tg, ip, ey, vy, bf, st, dp, rfl, rfl, g1, g2, g3, g4⟩ := I
  unfold wpX_dependents wpY_dependents
  have J := fun dp => re_mk (k := k + 4) (fo := fo) (tr := tr) (sk := sk) (vy := vy) (bf := bf) (st := st) (dp := dp) g1 g2 g3 g4
  obtain ⟨hO, hP, hP', hA, hB, hv⟩ := g4
  rcases pk_ix v1 (n := 16) (by decide) with h | h | ⟨z, hz, rfl⟩
  · exact xa_cellF (Or.inl h) (br_t rfl (ya_badT (Or.inl h) (br_f (by decide) ⟨rfl, J _⟩)))
  · exact xa_cellF (Or.inr h) (br_t rfl (ya_badT (Or.inr h) (br_f (by decide) ⟨rfl, J _⟩)))
  refine xa_cellT hz (br_f (by decide) (xa_dep hA sh_dmD hB hz (fun m hm => ⟨17, xa_cntD hA hz hm ?_ 16 0 rfl⟩)))
  refine ya_badF hz (br_t rfl (ya_circ hO hP' (fun dp' hd _ => ⟨17, ya_cntD hz hd ⟨rfl, J dp'⟩ 16 0 rfl⟩) (fun dp' hd n => absurd hA n)))
end
section
/-! the sheet with the tokens TK, TA in cell z -/
def sh_L (L : Nat → Nat) (z n : Nat) : Nat → Nat := fun c => if c = z then n else L c
def sh_K (K : Nat → Nat → Int32) (z : Nat) (TK : Nat → Int32) : Nat → Nat → Int32 := fun c => if c = z then TK else K c
theorem sh_Lz {L : Nat → Nat} {z n : Nat} : sh_L L z n z = n := if_pos rfl
theorem sh_Ln {L : Nat → Nat} {z n c : Nat} (h : c ≠ z) : sh_L L z n c = L c := if_neg h
theorem sh_Kz {K : Nat → Nat → Int32} {z : Nat} {TK : Nat → Int32} : sh_K K z TK z = TK := if_pos rfl
theorem sh_Kn {K : Nat → Nat → Int32} {z : Nat} {TK : Nat → Int32} {c : Nat} (h : c ≠ z) : sh_K K z TK c = K c := if_neg h
section
variable {L : Nat → Nat} {K A : Nat → Nat → Int32} {TK TA : Nat → Int32} {z n : Nat}
theorem sh_OKnew (hO : sh_OK L K A) (hn : n ≤ 8) (hV : ∀ t, t < n → sh_tok (TK t) (TA t)) (hS : sk_S TK n) : sh_OK (sh_L L z n) (sh_K K z TK) (sh_K A z TA) := by
  intro c hc
  by_cases e : c = z
  · subst e
    rw [sh_Lz, sh_Kz, sh_Kz]
    exact ⟨hn, hV, Or.inr hS⟩
  · rw [sh_Ln e, sh_Kn e, sh_Kn e]
    exact hO c hc
theorem sh_Pnew {fl fk fa fk' fa' : Nat → Int32} (hO : sh_OK L K A) (hP : sh_P L K A fl fk fa) (h1 : ∀ t, t < n → fk' (z * 8 + t) = TK t ∧ fa' (z * 8 + t) = TA t)
    (h2 : ∀ i, ¬ (z * 8 ≤ i ∧ i < z * 8 + 8) → fk' i = fk i ∧ fa' i = fa i) : sh_P (sh_L L z n) (sh_K K z TK) (sh_K A z TA) (upd fl z (nI n)) fk' fa' := by
  intro c hc
  by_cases e : c = z
  · subst e
    rw [sh_Lz, sh_Kz, sh_Kz, pk_us]
    exact ⟨rfl, h1⟩
  · rw [sh_Ln e, sh_Kn e, sh_Kn e, pk_un e]
    refine ⟨(hP c hc).1, fun t ht => ?_⟩
    have h8 := (hO c hc).1
    have o := h2 (c * 8 + t) (by omega)
    rw [o.1, o.2]
    exact (hP c hc).2 t ht
theorem sh_Dnew (hz : z < 16) (c a : Nat) : sh_D (sh_L L z n) (sh_K K z TK) (sh_K A z TA) c a ↔ ((c = z ∧ sh_N TK TA n a) ∨ (c ≠ z ∧ sh_D L K A c a)) := by
  by_cases e : c = z
  · subst e
    unfold sh_D sh_N
    rw [sh_Lz, sh_Kz, sh_Kz]
    exact ⟨fun h => Or.inl ⟨rfl, h.2⟩, fun h => h.elim (fun h => ⟨hz, h.2⟩) (fun h => absurd rfl h.1)⟩
  · unfold sh_D
    rw [sh_Ln e, sh_Kn e, sh_Kn e]
    exact ⟨fun h => Or.inr ⟨e, h⟩, fun h => h.elim (fun h => absurd h.1 e) (fun h => h.2)⟩
theorem sh_Anew (hz : z < 16) (hA : gr_A (sh_D L K A)) (h : ∀ a, sh_N TK TA n a → ¬ sh_R (sh_D L K A) z a) : gr_A (sh_D (sh_L L z n) (sh_K K z TK) (sh_K A z TA)) := by
  refine gr_new (z := z) (N := sh_N TK TA n) (fun c a e h => ?_) (fun a h => ?_) hA h
  · rw [sh_Dnew hz] at h
    exact h.elim (fun h => absurd h.1 e) (fun h => h.2)
  · rw [sh_Dnew hz] at h
    exact h.elim (fun h => h.2) (fun h => absurd rfl h.1)
theorem sh_Cnew (hz : z < 16) (h : ∃ a, sh_N TK TA n a ∧ sh_R (sh_D L K A) z a) : ¬ gr_A (sh_D (sh_L L z n) (sh_K K z TK) (sh_K A z TA)) := by
  obtain ⟨a, h1, h2⟩ := h
  intro hA
  refine hA z (gr_circ (D := sh_D L K A) (fun c b e h => ?_) ?_ h2)
  · rw [sh_Dnew hz]
    exact Or.inr ⟨e, h⟩
  · rw [sh_Dnew hz]
    exact Or.inl ⟨rfl, h1⟩
theorem sh_Bnew {dc : Nat → Int32} {m : Int32} (hz : z < 16) (hB : sh_B (sh_D L K A) dc) (hm : ∀ i, i < 32 → (bt m i = true ↔ sh_N TK TA n i)) : sh_B (sh_D (sh_L L z n) (sh_K K z TK) (sh_K A z TA)) (upd dc z m) := by
  intro c hc i hi
  rw [sh_Dnew hz]
  by_cases e : c = z
  · subst e
    rw [pk_us, hm i hi]
    exact ⟨fun h => Or.inl ⟨rfl, h⟩, fun h => h.elim (fun h => h.2) (fun h => absurd rfl h.1)⟩
  · rw [pk_un e, hB c hc i hi]
    exact ⟨fun h => Or.inr ⟨e, h⟩, fun h => h.elim (fun h => absurd h.1 e) (fun h => h.2)⟩
end
section
variable {kd td : Nat → Int32} {z n : Nat}
theorem ya_o_in {TK : Nat → Int32} (hn : n ≤ 8) (h : ∀ t, t < n → td t = TK t) : ∀ t, t < n → ya_o z 8 kd td (z * 8 + t) = TK t := by
  intro t ht
  unfold ya_o
  rw [if_pos (by omega), Nat.add_sub_cancel_left]
  exact h t ht
theorem ya_o_out : ∀ i, ¬ (z * 8 ≤ i ∧ i < z * 8 + 8) → ya_o z 8 kd td i = kd i := fun _ h => if_neg h
end
theorem i_vc_formula {k : Nat} {u : SX} {v : SY} (I : i_Rel k u v) (hk : k + 4 ≤ 2048) (v1 : Int32) : wpX_formula (fun r u' => wpY_formula (fun r' v' => r' = r ∧ i_Rel (k + 4) u' v') v v1) u v1 := by
  obtain ⟨n, r, q, R, C, L, K, A, TK, TA, tk, ta, nu, fl, fk, fa, dc, vl, fo, tr, sk, ri, ci, en, kd, ag, sz, td, tg, ip, ey, vy, bf, st, dp, rfl, rfl, g1, g2, g3, g4⟩ := I
  unfold wpX_formula wpY_formula
  rcases pk_ix v1 (n := 16) (by decide) with h | h | ⟨z, hz, rfl⟩
  · exact xa_cellF (Or.inl h) (br_t rfl (ya_badT (Or.inl h) (br_f (by decide) ⟨rfl, re_mk g1 g2 g3 g4⟩)))
  · exact xa_cellF (Or.inr h) (br_t rfl (ya_badT (Or.inr h) (br_f (by decide) ⟨rfl, re_mk g1 g2 g3 g4⟩)))
  obtain ⟨hn, ht⟩ := g1
  obtain ⟨hO, hP, hP', hA, hB, hv⟩ := g4
  have hX : ∀ t, t < n → tk t = TK t ∧ ta t = TA t := fun t h => ⟨(ht t h).1, (ht t h).2.1⟩
  have hY1 : ∀ t, t < n → td t = TK t := fun t h => (ht t h).2.2.1
  have hY2 : ∀ t, t < n → tg t = TA t := fun t h => (ht t h).2.2.2.1
  have hV : ∀ t, t < n → sh_tok (TK t) (TA t) := fun t h => (ht t h).2.2.2.2
  have P2 : sh_P (sh_L L z n) (sh_K K z TK) (sh_K A z TA) (upd sz z (nI n)) (ya_o z 8 kd td) (ya_o z 8 ag tg) :=
    sh_Pnew hO hP' (fun t h => ⟨ya_o_in hn hY1 t h, ya_o_in hn hY2 t h⟩) (fun i h => ⟨ya_o_out i h, ya_o_out i h⟩)
  refine xa_cellT hz (br_f (by decide) (xa_judge TK TA hn hX hV hA sh_dmD hB hz (fun ns => br_f (by decide) ?_) (fun hs hc => br_f (by decide) ?_) (fun hs hc => br_t rfl ?_)))
  · refine ya_badF hz (br_t rfl (ya_sound TK TA hn hY1 hV (fun hs => absurd hs ns) (fun _ => br_t rfl ⟨rfl, ?_⟩)))
    exact re_mk (k := k + 4) (n := 0) (re_T0 _ _ _ _) g2 g3 ⟨hO, hP, hP', hA, hB, hv⟩
  · have O2 := sh_OKnew (z := z) hO hn hV hs
    refine ya_badF hz (br_t rfl (ya_sound TK TA hn hY1 hV (fun hs => br_f (by decide) ?_) (fun ns => absurd hs ns)))
    refine ya_exch hz (ya_circ O2 P2 (fun dp' _ a => absurd a (sh_Cnew hz hc)) (fun dp' _ _ => br_f (by decide) (ya_exch hz ⟨rfl, ?_⟩)))
    rw [ya_oo, ya_oo, ya_tt, ya_tt, ya_uu]
    exact re_mk (k := k + 4) (n := 0) (re_T0 _ _ _ _) g2 g3 ⟨hO, hP, hP', hA, hB, hv⟩
  · have O2 := sh_OKnew (z := z) hO hn hV hs
    have A2 := sh_Anew hz hA hc
    refine xa_hold TK TA hn hX hV hz (fun m fk' fa' hm f1 f2 => ?_)
    have P1 := sh_Pnew (TK := TK) (TA := TA) hO hP f1 f2
    have B2 := sh_Bnew hz hB hm
    refine xa_out_values (S := so_S (sh_F (sh_L L z n) (sh_K K z TK) (sh_K A z TA) nu)) O2 P1 A2 B2 (fun c hc _ => so_fix (sh_loc O2) A2 sh_dom hc) (fun c _ h => ?_) (fun w s hw => ?_)
    · rw [b_0] at h
      exact absurd h (by decide)
    refine ya_badF hz (br_t rfl (ya_sound TK TA hn hY1 hV (fun hs => br_f (by decide) ?_) (fun ns => absurd hs ns)))
    refine ya_exch hz (ya_circ O2 P2 (fun dp' _ _ => br_t rfl ⟨rfl, ?_⟩) (fun dp' _ a => absurd A2 a))
    exact re_mk (k := k + 4) (n := 0) (re_T0 _ _ _ _) g2 g3 ⟨O2, P1, P2, A2, B2, hw⟩
end
section
section
variable {L : Nat → Nat} {K A : Nat → Nat → Int32} {z : Nat}
theorem sh_OKz (hO : sh_OK L K A) : sh_OK (sh_L L z 0) K A := by
  intro c hc
  by_cases e : c = z
  · subst e
    rw [sh_Lz]
    exact ⟨Nat.zero_le 8, fun t h => absurd h (Nat.not_lt_zero t), Or.inl rfl⟩
  · rw [sh_Ln e]
    exact hO c hc
theorem sh_Pz {fl fk fa : Nat → Int32} (hP : sh_P L K A fl fk fa) : sh_P (sh_L L z 0) K A (upd fl z 0) fk fa := by
  intro c hc
  by_cases e : c = z
  · subst e
    rw [sh_Lz, pk_us]
    exact ⟨rfl, fun t h => absurd h (Nat.not_lt_zero t)⟩
  · rw [sh_Ln e, pk_un e]
    exact hP c hc
theorem sh_Dz (c a : Nat) : sh_D (sh_L L z 0) K A c a ↔ (c ≠ z ∧ sh_D L K A c a) := by
  unfold sh_D
  by_cases e : c = z
  · subst e
    rw [sh_Lz]
    exact ⟨fun ⟨_, _, t, h, _⟩ => absurd h (Nat.not_lt_zero t), fun h => absurd rfl h.1⟩
  · rw [sh_Ln e]
    exact ⟨fun h => ⟨e, h⟩, fun h => h.2⟩
theorem sh_Az (hA : gr_A (sh_D L K A)) : gr_A (sh_D (sh_L L z 0) K A) := by
  have key : ∀ x y, gr_T (sh_D (sh_L L z 0) K A) x y → gr_T (sh_D L K A) x y := by
    intro x y h
    induction h with
    | single h => exact Relation.TransGen.single ((sh_Dz _ _).mp h).2
    | tail _ h2 ih => exact Relation.TransGen.tail ih ((sh_Dz _ _).mp h2).2
  exact fun c h => hA c (key c c h)
theorem sh_Bz {dc : Nat → Int32} (hB : sh_B (sh_D L K A) dc) : sh_B (sh_D (sh_L L z 0) K A) (upd dc z 0) := by
  intro c hc i hi
  rw [sh_Dz]
  by_cases e : c = z
  · subst e
    rw [pk_us, b_0]
    exact ⟨fun h => absurd h (by decide), fun h => absurd rfl h.1⟩
  · rw [pk_un e, hB c hc i hi]
    exact ⟨fun h => ⟨e, h⟩, fun h => h.2⟩
end
section
variable {xn xr xc xR xC : Int32} {tk ta nu fl fk fa dc vl fo tr sk ri ci en : Nat → Int32}
variable {yn yr yc yR yC : Int32} {kd ag sz nb td tg ip ey vy bf st dp : Nat → Int32}
theorem xa_num {post : Int32 → SX → Prop} {z : Nat} {y : Int32} (hz : z < 16)
    (h : ∀ fo', (∀ c, c < 16 → fo' c = vl c) → wpX_workOutCells__values (fun u => match u with | (xn, xr, xc, xR, xC, tk, ta, nu, fl, fk, fa, dc, vl, fo, tr, sk, ri, ci, en) => (wpX_countChangedValues (fun r => (post r (xn, xr, xc, xR, xC, tk, ta, nu, fl, fk, fa, dc, vl, fo, tr, sk, ri, ci, en))) (xn, xr, xc, xR, xC, tk, ta, nu, fl, fk, fa, dc, vl, fo, tr, sk, ri, ci, en))) (xn, xr, xc, xR, xC, tk, ta, upd nu z y, upd fl z 0, fk, fa, upd dc z 0, vl, fo', tr, sk, ri, ci, en) 0) :
    ∀ d x, x + d = 16 → ∀ fo', (∀ c, c < x → fo' c = vl c) → wX_number_11 post (nI z) y xn xr xc xR xC (d + 1) (nI x) tk ta nu fl fk fa dc vl fo' tr sk ri ci en := by
  have ecz : (nI z).toNatClampNeg = z := nI_clamp (by omega)
  have hinz : vp_in (nI z) 16 := vp_in_nI hz (by omega)
  intro d
  induction d with
  | zero =>
    intro x hx fo' hf
    have e : x = 16 := hx
    subst e
    exact br_t (nI_le (Nat.le_refl 16) (by decide)) ⟨hinz, nm_r (by rw [ecz]) ⟨hinz, nm_r (by rw [ecz]) ⟨hinz, nm_r (by rw [ecz]) (h fo' hf)⟩⟩⟩
  | succ d ih =>
    intro x hx fo' hf
    have ec : (nI x).toNatClampNeg = x := nI_clamp (by omega)
    have hin : vp_in (nI x) 16 := vp_in_nI (by omega) (by omega)
    refine br_f (nI_ge (b := 16) (by omega) (by decide)) ⟨hin, hin, nm_r (e' := upd fo' x (vl x)) (by rw [ec]) (nm_r (nI_1 x) (ih (x + 1) (by omega) _ ?_))⟩
    intro c hc
    by_cases e : c = x
    · subst e; rw [pk_us]
    · rw [pk_un e]; exact hf c (by omega)
theorem ya_cntN {post : Int32 → SY → Prop} (h : post (nI (gr_cnt (fun c => bf c ≠ vy c) 16)) (yn, yr, yc, yR, yC, kd, ag, sz, nb, td, tg, ip, ey, vy, bf, st, dp)) :
    ∀ d x, x + d = 16 → wY_number_71 post yn yr yc yR yC kd ag sz nb td tg ip ey vy bf st dp (d + 1) (nI (gr_cnt (fun c => bf c ≠ vy c) x)) (nI x) := by
  intro d
  induction d with
  | zero =>
    intro x hx
    have e : x = 16 := hx
    subst e
    exact br_t (nI_le (Nat.le_refl 16) (by decide)) h
  | succ d ih =>
    intro x hx
    have ec : (nI x).toNatClampNeg = x := nI_clamp (by omega)
    have hin : vp_in (nI x) 16 := vp_in_nI (by omega) (by omega)
    have ih := ih (x + 1) (by omega)
    refine br_f (nI_ge (b := 16) (by omega) (by decide)) ⟨hin, hin, br_c (fun q => nm_r (nI_1 x) ?_) (fun q => nm_r (nI_1 _) (nm_r (nI_1 x) ?_))⟩
    · rw [ec] at q
      rw [gr_c0 (P := fun c => bf c ≠ vy c) (fun n => n q)] at ih
      exact ih
    · rw [ec] at q
      rw [gr_c1 (P := fun c => bf c ≠ vy c) q] at ih
      exact ih
theorem ya_num {post : Int32 → SY → Prop} {z : Nat} {y : Int32} (hz : z < 16)
    (h : ∀ bf', (∀ c, c < 16 → bf' c = vy c) → wpY_work (fun u => match u with | (yn, yr, yc, yR, yC, kd, ag, sz, nb, td, tg, ip, ey, vy, bf, st, dp) => (∃ n71 : Nat, wY_number_71 post yn yr yc yR yC kd ag sz nb td tg ip ey vy bf st dp n71 0 0)) (yn, yr, yc, yR, yC, kd, ag, upd sz z 0, upd nb z y, td, tg, ip, ey, vy, bf', st, dp) (-1) 0 (-1) 0) :
    ∀ d x, x + d = 16 → ∀ bf', (∀ c, c < x → bf' c = vy c) → wY_number_20 post (nI z) y yn yr yc yR yC (d + 1) (nI x) kd ag sz nb td tg ip ey vy bf' st dp := by
  have ecz : (nI z).toNatClampNeg = z := nI_clamp (by omega)
  have hinz : vp_in (nI z) 16 := vp_in_nI hz (by omega)
  intro d
  induction d with
  | zero =>
    intro x hx bf' hf
    have e : x = 16 := hx
    subst e
    exact br_t (nI_le (Nat.le_refl 16) (by decide)) ⟨hinz, nm_r (by rw [ecz]) ⟨hinz, nm_r (by rw [ecz]) (h bf' hf)⟩⟩
  | succ d ih =>
    intro x hx bf' hf
    have ec : (nI x).toNatClampNeg = x := nI_clamp (by omega)
    have hin : vp_in (nI x) 16 := vp_in_nI (by omega) (by omega)
    refine br_f (nI_ge (b := 16) (by omega) (by decide)) ⟨hin, hin, nm_r (e' := upd bf' x (vy x)) (by rw [ec]) (nm_r (nI_1 x) (ih (x + 1) (by omega) _ ?_))⟩
    intro c hc
    by_cases e : c = x
    · subst e; rw [pk_us]
    · rw [pk_un e]; exact hf c (by omega)
end
theorem i_vc_number {k : Nat} {u : SX} {v : SY} (I : i_Rel k u v) (hk : k + 4 ≤ 2048) (v1 : Int32) (v2 : Int32) : wpX_number (fun r u' => wpY_number (fun r' v' => r' = r ∧ i_Rel (k + 4) u' v') v v1 v2) u v1 v2 := by
  obtain ⟨n, r, q, R, C, L, K, A, TK, TA, tk, ta, nu, fl, fk, fa, dc, vl, fo, tr, sk, ri, ci, en, kd, ag, sz, td, tg, ip, ey, vy, bf, st, dp, rfl, rfl, g1, g2, g3, g4⟩ := I
  unfold wpX_number wpY_number
  rcases pk_ix v1 (n := 16) (by decide) with h | h | ⟨z, hz, rfl⟩
  · exact xa_cellF (Or.inl h) (br_t rfl (ya_badT (Or.inl h) (br_f (by decide) ⟨rfl, re_mk g1 g2 g3 g4⟩)))
  · exact xa_cellF (Or.inr h) (br_t rfl (ya_badT (Or.inr h) (br_f (by decide) ⟨rfl, re_mk g1 g2 g3 g4⟩)))
  obtain ⟨hO, hP, hP', hA, hB, hv⟩ := g4
  have O2 : sh_OK (sh_L L z 0) K A := sh_OKz hO
  have A2 : gr_A (sh_D (sh_L L z 0) K A) := sh_Az hA
  refine xa_cellT hz (br_f (by decide) ⟨17, xa_num hz (fun fo' hf => ?_) 16 0 rfl fo (fun c z => absurd z (Nat.not_lt_zero c))⟩)
  refine xa_out_values (S := so_S (sh_F (sh_L L z 0) K A (upd nu z v2))) O2 (sh_Pz hP) A2 (sh_Bz hB) (fun c hc _ => so_fix (sh_loc O2) A2 sh_dom hc) (fun c _ h => ?_) (fun w s hw => ?_)
  · rw [b_0] at h
    exact absurd h (by decide)
  refine xa_chg ?_
  refine ya_badF hz (br_t rfl (ya_work0 hO hP' hA (fun w1 s1 hw1 => ⟨17, ya_num hz (fun bf' hb => ?_) 16 0 rfl bf (fun c z => absurd z (Nat.not_lt_zero c))⟩)))
  refine ya_work0 O2 (sh_Pz hP') A2 (fun w2 s2 hw2 => ⟨17, ya_cntN ⟨?_, ?_⟩ 16 0 rfl⟩)
  · congr 1
    refine gr_congr 16 (fun c hc => ?_)
    rw [hb c hc, hw1 c hc, hw2 c hc, hw c hc, hf c hc, hv c hc]
    exact ne_comm
  · exact re_mk (k := k + 4) g1 g2 g3 ⟨O2, sh_Pz hP, sh_Pz hP', A2, sh_Bz hB, hw⟩
end
section
def re_Z (Z : Nat → Nat → Int32) (r q i j : Nat) (en : Nat → Int32) : Prop := ∀ i' j', i' < r → j' < q → (i' < i ∨ (i' = i ∧ j' < j)) → en (i' * 4 + j') = Z i' j'
theorem re_Zput {Z : Nat → Nat → Int32} {r q i j : Nat} {en : Nat → Int32} (hq : q ≤ 4) (hj : j < q) (h : re_Z Z r q i j en) : re_Z Z r q i (j + 1) (upd en (i * 4 + j) (Z i j)) := by
  intro i' j' hi' hj' hh
  by_cases e : i' = i ∧ j' = j
  · obtain ⟨e1, e2⟩ := e
    subst e1 e2
    rw [pk_us]
  · rw [pk_un (by omega)]
    exact h i' j' hi' hj' (by omega)
theorem re_Zrow {Z : Nat → Nat → Int32} {r q i : Nat} {en : Nat → Int32} (h : re_Z Z r q i q en) : re_Z Z r q (i + 1) 0 en := by
  intro i' j' hi' hj' hh
  exact h i' j' hi' hj' (by omega)
/-- the entry of row i and column j of the table of cell o over the cells a and b -/
noncomputable def re_z (L : Nat → Nat) (K A : Nat → Nat → Int32) (nu : Nat → Int32) (o a b : Nat) (ri ci : Nat → Int32) (i j : Nat) : Int32 := so_S (sh_G L K A nu a (ri i) b (ci j)) o
section
variable {xn xr xc xR xC : Int32} {tk ta nu fl fk fa dc vl fo tr sk ri ci en : Nat → Int32}
variable {L : Nat → Nat} {K A : Nat → Nat → Int32} {r q o a b : Nat} {g : Int32}
theorem xa_tab68 {post : Int32 → SX → Prop} {J : Int32 → Int32 → Int32 → Int32 → Int32 → Int32 → (Nat → Int32) → (Nat → Int32) → (Nat → Int32) → (Nat → Int32) → (Nat → Int32) → (Nat → Int32) → (Nat → Int32) → (Nat → Int32) → (Nat → Int32) → (Nat → Int32) → (Nat → Int32) → (Nat → Int32) → (Nat → Int32) → (Nat → Int32) → Prop}
    (hO : sh_OK L K A) (hP : sh_P L K A fl fk fa) (hA : gr_A (sh_D L K A)) (hB : sh_B (sh_D L K A) dc) (hr : r ≤ 4) (hq : q ≤ 4) (ho : o < 16) (ha : a < 16) (hb : b < 16) (hab : a ≠ b) (hg : ∀ c, c < 32 → (bt g c = true ↔ (c = a ∨ c = b)))
    {i : Nat} (hi : i < r) (h : ∀ tr sk en, re_Z (re_z L K A nu o a b ri ci) r q (i + 1) 0 en → J (nI (i + 1)) xn xr xc (nI r) (nI q) tk ta nu fl fk fa dc vl fo tr sk ri ci en) :
    ∀ d j, j + d = q → ∀ tr sk en, re_Z (re_z L K A nu o a b ri ci) r q i j en → wX_table_68 post J (nI o) (nI a) (nI b) g (nI i) (d + 1) (nI j) xn xr xc (nI r) (nI q) tk ta nu fl fk fa dc vl fo tr sk ri ci en := by
  intro d
  induction d with
  | zero =>
    intro j hj tr sk en hv
    have e : j = q := hj
    subst e
    exact br_t (nI_le (Nat.le_refl j) (by omega)) (nm_r (nI_1 i) (h tr sk en (re_Zrow hv)))
  | succ d ih =>
    intro j hj tr sk en hv
    have ei : (nI i).toNatClampNeg = i := nI_clamp (by omega)
    have ej : (nI j).toNatClampNeg = j := nI_clamp (by omega)
    have eo : (nI o).toNatClampNeg = o := nI_clamp (by omega)
    have ea : (nI a).toNatClampNeg = a := nI_clamp (by omega)
    have eb : (nI b).toNatClampNeg = b := nI_clamp (by omega)
    refine br_f (nI_ge (by omega) (by omega)) ⟨vp_in_nI (by omega) (by omega), vp_in_nI ha (by omega), nm_r (e' := upd tr a (ri i)) (by rw [ea, ei]) ⟨vp_in_nI (by omega) (by omega), vp_in_nI hb (by omega), nm_r (e' := upd (upd tr a (ri i)) b (ci j)) (by rw [eb, ej]) ?_⟩⟩
    have hfix : ∀ c, c < 16 → so_S (sh_G L K A nu a (ri i) b (ci j)) c = sh_G L K A nu a (ri i) b (ci j) c (so_S (sh_G L K A nu a (ri i) b (ci j))) := fun c hc => so_fix (sh_gloc hO a (ri i) b (ci j)) hA sh_dom hc
    refine xa_out_trialValues (S := so_S (sh_G L K A nu a (ri i) b (ci j))) hO hP hA hB (fun c hc hn => ?_) (fun c hc hy => ?_) (fun w s hw => ?_)
    · rw [hg c (by omega)] at hn
      refine (hfix c hc).trans ?_
      exact (if_neg (fun e => hn (Or.inl e))).trans (if_neg (fun e => hn (Or.inr e)))
    · rw [hg c (by omega)] at hy
      rw [hfix c hc]
      by_cases e : c = b
      · subst e
        rw [pk_us]
        exact ((if_neg (fun e => hab e.symm)).trans (if_pos rfl)).symm
      · have e2 : c = a := hy.resolve_right e
        subst e2
        rw [pk_un e, pk_us]
        exact (if_pos rfl).symm
    · refine ⟨vp_in_nI ho (by omega), by rw [ya_i4]; exact vp_in_nI (by omega) (by omega), nm_r (e' := upd en (i * 4 + j) (re_z L K A nu o a b ri ci i j)) ?_ (nm_r (nI_1 j) (ih (j + 1) (by omega) w s _ (re_Zput hq (by omega) hv)))⟩
      rw [ya_i4, nI_clamp (by omega), eo, hw o ho]
      rfl
theorem xa_table {post : Int32 → SX → Prop} (hO : sh_OK L K A) (hP : sh_P L K A fl fk fa) (hA : gr_A (sh_D L K A)) (hB : sh_B (sh_D L K A) dc) (hr : r ≤ 4) (hq : q ≤ 4) (ho : o < 16) (ha : a < 16) (hb : b < 16) (hab : a ≠ b)
    (h : ∀ tr sk en, (∀ i j, i < r → j < q → en (i * 4 + j) = re_z L K A nu o a b ri ci i j) → post (nI (r * q)) (xn, nI 0, nI 0, nI r, nI q, tk, ta, nu, fl, fk, fa, dc, vl, fo, tr, sk, ri, ci, en)) : wpX_table post (xn, nI r, nI q, xR, xC, tk, ta, nu, fl, fk, fa, dc, vl, fo, tr, sk, ri, ci, en) (nI o) (nI a) (nI b) := by
  have hg : ∀ c, c < 32 → (bt (((1 : Int32) <<< (nI a &&& 31)) ||| ((1 : Int32) <<< (nI b &&& 31))) c = true ↔ (c = a ∨ c = b)) := by
    intro c hc
    rw [bi_or1 (by omega) hc, bi_one (by omega) hc, decide_eq_true_iff]
  have M : ∀ d i, i + d = r → ∀ tr sk en, re_Z (re_z L K A nu o a b ri ci) r q i 0 en → wX_table_56 post (nI o) (nI a) (nI b) (((1 : Int32) <<< (nI a &&& 31)) ||| ((1 : Int32) <<< (nI b &&& 31))) (d + 1) (nI i) xn (nI r) (nI q) (nI r) (nI q) tk ta nu fl fk fa dc vl fo tr sk ri ci en := by
    intro d
    induction d with
    | zero =>
      intro i hi tr sk en hv
      have e : i = r := hi
      subst e
      refine br_t (nI_le (Nat.le_refl i) (by omega)) ?_
      rw [pk_mul]
      exact h tr sk en (fun i' j' h1 h2 => hv i' j' h1 h2 (Or.inl h1))
    | succ d ih =>
      intro i hi tr sk en hv
      exact br_f (nI_ge (by omega) (by omega)) ⟨q + 1, xa_tab68 hO hP hA hB hr hq ho ha hb hab hg (by omega) (fun tr' sk' en' h' => ih (i + 1) (by omega) tr' sk' en' h') q 0 (Nat.zero_add q) tr sk en hv⟩
  have nab : ¬ nI a = nI b := fun e => hab ((nI_eq (by omega) (by omega)).mp e)
  unfold wpX_table
  refine xa_cellT ho (br_f (by decide) (xa_cellT ha (br_f (by decide) (xa_cellT hb (br_f (by decide) (br_f nab (nm_e ⟨r + 1, M r 0 (Nat.zero_add r) tr sk en ?_⟩)))))))
  intro i' j' _ _ z
  omega
end
section
variable {yn yr yc yR yC : Int32} {kd ag sz nb td tg ip ey vy bf st dp : Nat → Int32}
variable {L : Nat → Nat} {K A : Nat → Nat → Int32} {r q o a b : Nat} {ri ci : Nat → Int32}
theorem ya_tab46 {post : Int32 → SY → Prop} {J : Int32 → Int32 → Int32 → Int32 → Int32 → Int32 → (Nat → Int32) → (Nat → Int32) → (Nat → Int32) → (Nat → Int32) → (Nat → Int32) → (Nat → Int32) → (Nat → Int32) → (Nat → Int32) → (Nat → Int32) → (Nat → Int32) → (Nat → Int32) → (Nat → Int32) → Prop}
    (hO : sh_OK L K A) (hP : sh_P L K A sz kd ag) (hA : gr_A (sh_D L K A)) (hr : r ≤ 4) (hq : q ≤ 4) (ho : o < 16) (ha : a < 16) (hb : b < 16) (hri : ∀ i, i < r → ri i = ip i) (hci : ∀ j, j < q → ci j = ip (4 + j))
    {i : Nat} (hi : i < r) (h : ∀ vy st ey, re_Z (re_z L K A nb o a b ri ci) r q (i + 1) 0 ey → J (nI (i + 1)) yn (nI r) (nI q) yR yC kd ag sz nb td tg ip ey vy bf st dp) :
    ∀ d j, j + d = q → ∀ vy st ey, re_Z (re_z L K A nb o a b ri ci) r q i j ey → wY_table_46 post J (nI o) (nI a) (nI b) (nI i) (d + 1) (nI j) yn (nI r) (nI q) yR yC kd ag sz nb td tg ip ey vy bf st dp := by
  intro d
  induction d with
  | zero =>
    intro j hj vy st ey hv
    have e : j = q := hj
    subst e
    exact br_t (nI_le (Nat.le_refl j) (by omega)) (nm_r (nI_1 i) (h vy st ey (re_Zrow hv)))
  | succ d ih =>
    intro j hj vy st ey hv
    have ei : (nI i).toNatClampNeg = i := nI_clamp (by omega)
    have e4 : (4 : Int32) + nI j = nI (4 + j) := nI_add 4 j
    have ej : ((4 : Int32) + nI j).toNatClampNeg = 4 + j := by rw [e4, nI_clamp (by omega)]
    have eo : (nI o).toNatClampNeg = o := nI_clamp (by omega)
    refine br_f (nI_ge (by omega) (by omega)) ⟨vp_in_nI (by omega) (by omega), by rw [e4]; exact vp_in_nI (by omega) (by omega), ya_workG hO hP hA ha hb (fun w s hw => ?_)⟩
    refine ⟨vp_in_nI ho (by omega), by rw [ya_i4]; exact vp_in_nI (by omega) (by omega), nm_r (e' := upd ey (i * 4 + j) (re_z L K A nb o a b ri ci i j)) ?_ (nm_r (nI_1 j) (ih (j + 1) (by omega) w s _ (re_Zput hq (by omega) hv)))⟩
    rw [ya_i4, nI_clamp (by omega), eo, hw o ho, ei, ej, ← hri i hi, ← hci j (by omega)]
    rfl
theorem ya_table {post : Int32 → SY → Prop} (hO : sh_OK L K A) (hP : sh_P L K A sz kd ag) (hA : gr_A (sh_D L K A)) (hr : r ≤ 4) (hq : q ≤ 4) (ho : o < 16) (ha : a < 16) (hb : b < 16) (hab : a ≠ b) (hri : ∀ i, i < r → ri i = ip i) (hci : ∀ j, j < q → ci j = ip (4 + j))
    (h : ∀ vy st ey, (∀ i j, i < r → j < q → ey (i * 4 + j) = re_z L K A nb o a b ri ci i j) → post (nI (r * q)) (yn, nI 0, nI 0, nI r, nI q, kd, ag, sz, nb, td, tg, ip, ey, vy, bf, st, dp)) : wpY_table post (yn, nI r, nI q, yR, yC, kd, ag, sz, nb, td, tg, ip, ey, vy, bf, st, dp) (nI o) (nI a) (nI b) := by
  have M : ∀ d i, i + d = r → ∀ vy st ey, re_Z (re_z L K A nb o a b ri ci) r q i 0 ey → wY_table_34 post (nI o) (nI a) (nI b) (d + 1) (nI i) yn (nI r) (nI q) yR yC kd ag sz nb td tg ip ey vy bf st dp := by
    intro d
    induction d with
    | zero =>
      intro i hi vy st ey hv
      have e : i = r := hi
      subst e
      refine br_t (nI_le (Nat.le_refl i) (by omega)) ?_
      rw [pk_mul]
      exact h vy st ey (fun i' j' h1 h2 => hv i' j' h1 h2 (Or.inl h1))
    | succ d ih =>
      intro i hi vy st ey hv
      exact br_f (nI_ge (by omega) (by omega)) ⟨q + 1, ya_tab46 hO hP hA hr hq ho ha hb hri hci (by omega) (fun vy' st' ey' h' => ih (i + 1) (by omega) vy' st' ey' h') q 0 (Nat.zero_add q) vy st ey hv⟩
  have nab : ¬ nI a = nI b := fun e => hab ((nI_eq (by omega) (by omega)).mp e)
  unfold wpY_table
  refine ya_badF ho (br_t rfl (ya_badF ha (br_t rfl (ya_badF hb (br_t rfl (br_f nab ⟨r + 1, M r 0 (Nat.zero_add r) vy st ey ?_⟩))))))
  intro i' j' _ _ z
  omega
end
theorem re_cell (x : Int32) : (x < 0 ∨ nI 16 ≤ x) ∨ ∃ j, j < 16 ∧ x = nI j := by
  rcases pk_ix x (n := 16) (by decide) with h | h | h
  · exact Or.inl (Or.inl h)
  · exact Or.inl (Or.inr h)
  · exact Or.inr h
theorem i_vc_table {k : Nat} {u : SX} {v : SY} (I : i_Rel k u v) (hk : k + 4 ≤ 2048) (v1 : Int32) (v2 : Int32) (v3 : Int32) : wpX_table (fun r u' => wpY_table (fun r' v' => r' = r ∧ i_Rel (k + 4) u' v') v v1 v2 v3) u v1 v2 v3 := by
  obtain ⟨n, r, q, R, C, L, K, A, TK, TA, tk, ta, nu, fl, fk, fa, dc, vl, fo, tr, sk, ri, ci, en, kd, ag, sz, td, tg, ip, ey, vy, bf, st, dp, rfl, rfl, g1, g2, g3, g4⟩ := I
  have J : i_Rel (k + 4) _ _ := re_mk (k := k + 4) (fo := fo) (tr := tr) (sk := sk) (vy := vy) (bf := bf) (st := st) (dp := dp) g1 g2 g3 g4
  obtain ⟨hO, hP, hP', hA, hB, hv⟩ := g4
  obtain ⟨hr, hq, hri, hci⟩ := g2
  rcases re_cell v1 with h1 | ⟨o, ho, rfl⟩
  · unfold wpX_table wpY_table
    exact xa_cellF h1 (br_t rfl (ya_badT h1 (br_f (by decide) ⟨rfl, J⟩)))
  rcases re_cell v2 with h2 | ⟨a, ha, rfl⟩
  · unfold wpX_table wpY_table
    exact xa_cellT ho (br_f (by decide) (xa_cellF h2 (br_t rfl (ya_badF ho (br_t rfl (ya_badT h2 (br_f (by decide) ⟨rfl, J⟩)))))))
  rcases re_cell v3 with h3 | ⟨b, hb, rfl⟩
  · unfold wpX_table wpY_table
    exact xa_cellT ho (br_f (by decide) (xa_cellT ha (br_f (by decide) (xa_cellF h3 (br_t rfl (ya_badF ho (br_t rfl (ya_badF ha (br_t rfl (ya_badT h3 (br_f (by decide) ⟨rfl, J⟩)))))))))))
  by_cases e : a = b
  · subst e
    unfold wpX_table wpY_table
    exact xa_cellT ho (br_f (by decide) (xa_cellT ha (br_f (by decide) (xa_cellT ha (br_f (by decide) (br_t rfl (ya_badF ho (br_t rfl (ya_badF ha (br_t rfl (ya_badF ha (br_t rfl (br_t rfl ⟨rfl, J⟩)))))))))))))
  · refine xa_table hO hP hA hB hr hq ho ha hb e (fun tr' sk' en' he => ?_)
    refine ya_table hO hP' hA hr hq ho ha hb e hri hci (fun vy' st' ey' he' => ⟨rfl, ?_⟩)
    exact re_mk (k := k + 4) (r := 0) (q := 0) g1 (re_I0 _ _ _) ⟨hr, hq, fun i j h1 h2 => (he i j h1 h2).trans (he' i j h1 h2).symm⟩ ⟨hO, hP, hP', hA, hB, hv⟩
end
