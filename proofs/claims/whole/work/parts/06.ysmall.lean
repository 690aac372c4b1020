theorem ya_b1 : vp_nar .boolean 1 = 1 := by first | rfl | decide
theorem ya_b0 : vp_nar .boolean 0 = 0 := by first | rfl | decide
theorem ya_pv : ∀ m, m < 8 → sk_p (nI m) = if m < 2 then 0 else if m < 7 then 2 else 3 := by decide +kernel
theorem ya_i16 (a b : Nat) : nI a * 16 + nI b = nI (a * 16 + b) := (congrArg (fun q => q + nI b) (pk_mul a 16)).trans (nI_add _ _)
theorem ya_i8 (a b : Nat) : nI a * 8 + nI b = nI (a * 8 + b) := (congrArg (fun q => q + nI b) (pk_mul a 8)).trans (nI_add _ _)
theorem ya_i4 (a b : Nat) : nI a * 4 + nI b = nI (a * 4 + b) := (congrArg (fun q => q + nI b) (pk_mul a 4)).trans (nI_add _ _)
section
variable {yn yr yc yR yC : Int32} {kd ag sz nb td tg ip ey vy bf st dp : Nat → Int32}
theorem ya_badF {post : Int32 → Prop} {c : Nat} (hc : c < 16) (h : post 0) : wpY_bad post (yn, yr, yc, yR, yC, kd, ag, sz, nb, td, tg, ip, ey, vy, bf, st, dp) (nI c) :=
  br_f (nI_pos (by omega)) (br_t (nI_le (b := 15) (by omega) (by decide)) h)
theorem ya_badT {post : Int32 → Prop} {p : Int32} (hp : p < 0 ∨ nI 16 ≤ p) (h : post 1) : wpY_bad post (yn, yr, yc, yR, yC, kd, ag, sz, nb, td, tg, ip, ey, vy, bf, st, dp) p := by
  refine br_c (fun _ => h) (fun n => br_f ?_ h)
  have h16 := hp.resolve_left n
  intro z
  have := Int32.le_trans h16 z
  exact absurd this (by decide)
theorem ya_pops {post : Int32 → Prop} {k k' : Int32} {m : Nat} (e : k = k') (hm : m < 8) (em : k' = nI m) (h : post (nI (sk_p k'))) : wpY_pops post (yn, yr, yc, yR, yC, kd, ag, sz, nb, td, tg, ip, ey, vy, bf, st, dp) k := by
  subst e
  subst em
  rw [ya_pv m hm] at h
  refine pk_le 2 m (fun q => pk_le 7 m (fun q7 => ?_) (fun q7 => ?_)) (fun q => ?_)
  · rw [if_neg (by omega), if_neg (by omega)] at h; exact h
  · rw [if_neg (by omega), if_pos (by omega)] at h; exact h
  · rw [if_pos (by omega)] at h; exact h
theorem ya_sound {post : Int32 → Prop} {n : Nat} (TK TA : Nat → Int32) (hn : n ≤ 8) (hT : ∀ t, t < n → td t = TK t) (hV : ∀ t, t < n → sh_tok (TK t) (TA t)) (h1 : sk_S TK n → post 1) (h0 : ¬ sk_S TK n → post 0) : wpY_sound post (nI n, yr, yc, yR, yC, kd, ag, sz, nb, td, tg, ip, ey, vy, bf, st, dp) := by
  have L : ∀ d t, t + d = n → (∀ i, i < t → sk_p (TK i) ≤ sk_h TK i) → wY_sound_4 post (nI n) yr yc yR yC kd ag sz nb td tg ip ey vy bf st dp (d + 1) (nI (sk_h TK t)) (nI t) := by
    intro d
    induction d with
    | zero =>
      intro t ht hi
      have e : t = n := ht
      subst e
      have hh := sk_ht TK t
      exact br_t (nI_le (Nat.le_refl t) (by omega)) (pk_eq (sk_h TK t) 1 (fun e => h1 ⟨hi, e⟩) (fun e => h0 (fun z => e z.2)))
    | succ d ih =>
      intro t ht hi
      have hh := sk_ht TK t
      have hp3 := sk_p3 (TK t)
      obtain ⟨⟨m, hm, em⟩, _⟩ := hV t (by omega)
      refine br_f (nI_ge (by omega) (by omega)) ⟨vp_in_nI (by omega) (by omega), ya_pops (k' := TK t) (by rw [nI_clamp (by omega)]; exact hT t (by omega)) hm em ?_⟩
      refine pk_le (sk_p (TK t)) (sk_h TK t) (fun hp => nm_r (sk_step hp) (nm_r (nI_1 t) (ih (t + 1) (by omega) ?_))) (fun hp => h0 (fun z => ?_))
      · intro i hi'
        by_cases e : i = t
        · subst e; exact hp
        · exact hi i (by omega)
      · have := z.1 t (by omega)
        omega
  exact ⟨n + 1, L n 0 (by omega) (fun i hi => absurd hi (Nat.not_lt_zero i))⟩
/-! exchange -/
def ya_o (z i : Nat) (kd td : Nat → Int32) : Nat → Int32 := fun j => if z * 8 ≤ j ∧ j < z * 8 + i then td (j - z * 8) else kd j
def ya_t (z i : Nat) (kd td : Nat → Int32) : Nat → Int32 := fun s => if s < i then kd (z * 8 + s) else td s
theorem ya_o0 (z : Nat) (kd td : Nat → Int32) : ya_o z 0 kd td = kd := by
  funext j
  exact if_neg (by omega)
theorem ya_t0 (z : Nat) (kd td : Nat → Int32) : ya_t z 0 kd td = td := by
  funext j
  exact if_neg (by omega)
theorem ya_o1 (z i : Nat) (kd td : Nat → Int32) : upd (ya_o z i kd td) (z * 8 + i) (ya_t z i kd td i) = ya_o z (i + 1) kd td := by
  funext j
  by_cases e : j = z * 8 + i
  · subst e
    rw [pk_us]
    unfold ya_t ya_o
    rw [if_neg (by omega), if_pos (by omega)]
    congr 1
    omega
  · rw [pk_un e]
    unfold ya_o
    by_cases q : z * 8 ≤ j ∧ j < z * 8 + i
    · rw [if_pos q, if_pos (by omega)]
    · rw [if_neg q, if_neg (by omega)]
theorem ya_t1 (z i : Nat) (kd td : Nat → Int32) : upd (ya_t z i kd td) i (ya_o z i kd td (z * 8 + i)) = ya_t z (i + 1) kd td := by
  funext j
  by_cases e : j = i
  · subst e
    rw [pk_us]
    unfold ya_t ya_o
    rw [if_neg (by omega), if_pos (by omega)]
  · rw [pk_un e]
    unfold ya_t
    by_cases q : j < i
    · rw [if_pos q, if_pos (by omega)]
    · rw [if_neg q, if_neg (by omega)]
theorem ya_oo (z : Nat) (kd td : Nat → Int32) : ya_o z 8 (ya_o z 8 kd td) (ya_t z 8 kd td) = kd := by
  funext j
  show (if z * 8 ≤ j ∧ j < z * 8 + 8 then ya_t z 8 kd td (j - z * 8) else ya_o z 8 kd td j) = kd j
  by_cases q : z * 8 ≤ j ∧ j < z * 8 + 8
  · rw [if_pos q]
    unfold ya_t
    rw [if_pos (by omega)]
    congr 1
    omega
  · rw [if_neg q]
    unfold ya_o
    rw [if_neg q]
theorem ya_tt (z : Nat) (kd td : Nat → Int32) : ya_t z 8 (ya_o z 8 kd td) (ya_t z 8 kd td) = td := by
  funext j
  show (if j < 8 then ya_o z 8 kd td (z * 8 + j) else ya_t z 8 kd td j) = td j
  by_cases q : j < 8
  · rw [if_pos q]
    unfold ya_o
    rw [if_pos (by omega)]
    congr 1
    omega
  · rw [if_neg q]
    unfold ya_t
    rw [if_neg q]
theorem ya_uu (f : Nat → Int32) (z : Nat) (x : Int32) : upd (upd f z x) z (f z) = f := by
  funext j
  by_cases e : j = z
  · subst e; rw [pk_us]
  · rw [pk_un e, pk_un e]
theorem ya_exch {post : SY → Prop} {z : Nat} (hz : z < 16) (h : post (sz z, yr, yc, yR, yC, ya_o z 8 kd td, ya_o z 8 ag tg, upd sz z yn, nb, ya_t z 8 kd td, ya_t z 8 ag tg, ip, ey, vy, bf, st, dp)) : wpY_exchange post (yn, yr, yc, yR, yC, kd, ag, sz, nb, td, tg, ip, ey, vy, bf, st, dp) (nI z) := by
  have hinz : vp_in (nI z) 16 := vp_in_nI hz (by omega)
  have ecz : (nI z).toNatClampNeg = z := nI_clamp (by omega)
  have L : ∀ d i, i + d = 8 → wY_exchange_2 post (nI z) yn yr yc yR yC (d + 1) (nI i) (ya_o z i kd td) (ya_o z i ag tg) sz nb (ya_t z i kd td) (ya_t z i ag tg) ip ey vy bf st dp := by
    intro d
    induction d with
    | zero =>
      intro i hi
      have e : i = 8 := hi
      subst e
      exact br_t (nI_le (Nat.le_refl 8) (by decide)) ⟨hinz, nm_r (by rw [ecz]) ⟨hinz, nm_r (by rw [ecz]) h⟩⟩
    | succ d ih =>
      intro i hi
      have ec : (nI i).toNatClampNeg = i := nI_clamp (by omega)
      have ei : (nI z * 8 + nI i).toNatClampNeg = z * 8 + i := by rw [ya_i8, nI_clamp (by omega)]
      have hin : vp_in (nI i) 8 := vp_in_nI (by omega) (by omega)
      have hi2 : vp_in (nI z * 8 + nI i) 128 := by rw [ya_i8]; exact vp_in_nI (by omega) (by omega)
      refine br_f (nI_ge (b := 8) (by omega) (by decide)) ⟨hi2, nm_r (by rw [ei]) ⟨hi2, nm_r (by rw [ei]) ⟨hin, hi2, nm_r (by rw [ei, ec]; exact ya_o1 z i kd td) ⟨hin, hi2, nm_r (by rw [ei, ec]; exact ya_o1 z i ag tg) ⟨hin, nm_r (by rw [ec]; exact ya_t1 z i kd td) ⟨hin, nm_r (by rw [ec]; exact ya_t1 z i ag tg) (nm_r (nI_1 i) (ih (i + 1) (by omega)))⟩⟩⟩⟩⟩⟩
  have L0 := L 8 0 rfl
  rw [ya_o0, ya_o0, ya_t0, ya_t0] at L0
  exact ⟨9, L0⟩
end
