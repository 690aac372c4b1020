theorem sk_v1 (a : Int32) (V s : Nat → Int32) (b : Nat) : sk_v 1 a V s b = V a.toNatClampNeg := (if_neg (by decide)).trans (if_pos rfl)
theorem sk_v0 (a : Int32) (V s : Nat → Int32) (b : Nat) : sk_v 0 a V s b = a := if_pos rfl
theorem sk_v7 (a : Int32) (V s : Nat → Int32) (b : Nat) : sk_v 7 a V s b = if s b ≤ 0 then s (b + 2) else s (b + 1) := (if_neg (by decide)).trans ((if_neg (by decide)).trans (if_pos rfl))
theorem sk_vc {k : Int32} (a : Int32) (V s : Nat → Int32) (b : Nat) (h0 : ¬ k = 0) (h1 : ¬ k = 1) (h7 : ¬ k = 7) : sk_v k a V s b = sk_c k (s b) (s (b + 1)) := (if_neg h0).trans ((if_neg h1).trans (if_neg h7))
theorem sk_c2 (x y : Int32) : sk_c 2 x y = x + y := if_pos rfl
theorem sk_c3 (x y : Int32) : sk_c 3 x y = x - y := (if_neg (by decide)).trans (if_pos rfl)
theorem sk_c4 (x y : Int32) : sk_c 4 x y = x * y := (if_neg (by decide)).trans ((if_neg (by decide)).trans (if_pos rfl))
theorem sk_c5 (x y : Int32) : sk_c 5 x y = if y ≤ x then y else x := (if_neg (by decide)).trans ((if_neg (by decide)).trans ((if_neg (by decide)).trans (if_pos rfl)))
theorem sk_c6 (x y : Int32) : sk_c 6 x y = if x ≤ y then y else x := (if_neg (by decide)).trans ((if_neg (by decide)).trans ((if_neg (by decide)).trans (if_neg (by decide))))
section
variable {yn yr yc yR yC : Int32} {kd ag sz nb td tg ip ey vy bf st dp : Nat → Int32}
theorem ya_246 {post : Int32 → SY → Prop} {J : Int32 → Int32 → (Nat → Int32) → (Nat → Int32) → (Nat → Int32) → (Nat → Int32) → (Nat → Int32) → (Nat → Int32) → (Nat → Int32) → (Nat → Int32) → (Nat → Int32) → (Nat → Int32) → (Nat → Int32) → (Nat → Int32) → Prop}
    {x1 v w : Int32} {h p t : Nat} (hp : p ≤ h) (hh : h < 8) (e : v = w) (H : J (nI (h - p + 1)) (nI (t + 1)) kd ag sz nb td tg ip ey vy bf (upd st (h - p) w) dp) : wY_worked_246 post J x1 (nI h) (nI t) (nI p) v yn yr yc yR yC kd ag sz nb td tg ip ey vy bf st dp := by
  subst e
  have e1 : nI h - nI p + 1 = nI (h - p + 1) := by rw [pk_sub hp, nI_1]
  have e2 : nI (h - p + 1) - 1 = nI (h - p) := nI_pred _
  exact nm_r e1 ⟨by rw [e2]; exact vp_in_nI (by omega) (by omega), nm_r (by rw [e2, nI_clamp (by omega)]) (nm_r (nI_1 t) H)⟩
theorem ya_102 {post : Int32 → SY → Prop} {J : Int32 → Int32 → (Nat → Int32) → (Nat → Int32) → (Nat → Int32) → (Nat → Int32) → (Nat → Int32) → (Nat → Int32) → (Nat → Int32) → (Nat → Int32) → (Nat → Int32) → (Nat → Int32) → (Nat → Int32) → (Nat → Int32) → Prop}
    {x1 k a x y z : Int32} {h t m : Nat} (hm : m < 8) (em : k = nI m) (hcell : k = 1 → ∃ b, b < 16 ∧ a = nI b) (hp : sk_p k ≤ h) (hh : h < 8) (hz : 1 ≤ h → z = st (h - 1)) (hy : 2 ≤ h → y = st (h - 2)) (hx : 3 ≤ h → x = st (h - 3))
    (H : J (nI (h - sk_p k + 1)) (nI (t + 1)) kd ag sz nb td tg ip ey vy bf (upd st (h - sk_p k) (sk_v k a vy st (h - sk_p k))) dp) : wY_worked_102 post J x1 (nI h) (nI t) k a (nI (sk_p k)) z y x yn yr yc yR yC kd ag sz nb td tg ip ey vy bf st dp := by
  have two : ¬ k = 0 → ¬ k = 1 → ¬ k = 7 → sk_p k = 2 := fun a b c => by unfold sk_p; rw [if_neg a, if_neg b, if_neg c]
  have arg : sk_p k = 2 → y = st (h - sk_p k) ∧ z = st (h - sk_p k + 1) := fun e => by
    rw [e] at hp ⊢
    exact ⟨hy hp, by rw [hz (by omega)]; congr 1; omega⟩
  refine br_c (fun e => ?_) (fun n1 => br_c (fun e => ?_) (fun n2 => br_c (fun e => ?_) (fun n3 => br_c (fun e => ?_) (fun n4 => br_c (fun e => ?_) (fun n5 => br_c (fun e => ?_) (fun n6 => br_c (fun e => ?_) (fun n7 => ?_)))))))
  · obtain ⟨b, hb, eb⟩ := hcell e
    refine ⟨by rw [eb]; exact vp_in_nI hb (by omega), nm_e (ya_246 hp hh ?_ H)⟩
    rw [e, sk_v1]
  · have e2 := arg (two (by rw [e]; decide) (by rw [e]; decide) (by rw [e]; decide))
    refine nm_e (ya_246 hp hh ?_ H)
    rw [sk_vc _ _ _ _ (by rw [e]; decide) (by rw [e]; decide) (by rw [e]; decide), ← e2.1, ← e2.2, e, sk_c2]
  · have e2 := arg (two (by rw [e]; decide) (by rw [e]; decide) (by rw [e]; decide))
    refine nm_e (ya_246 hp hh ?_ H)
    rw [sk_vc _ _ _ _ (by rw [e]; decide) (by rw [e]; decide) (by rw [e]; decide), ← e2.1, ← e2.2, e, sk_c3]
  · have e2 := arg (two (by rw [e]; decide) (by rw [e]; decide) (by rw [e]; decide))
    refine nm_e (ya_246 hp hh ?_ H)
    rw [sk_vc _ _ _ _ (by rw [e]; decide) (by rw [e]; decide) (by rw [e]; decide), ← e2.1, ← e2.2, e, sk_c4]
  · have e2 := arg (two (by rw [e]; decide) (by rw [e]; decide) (by rw [e]; decide))
    refine br_c (fun q => ya_246 hp hh ?_ H) (fun q => ya_246 hp hh ?_ H)
    · rw [sk_vc _ _ _ _ (by rw [e]; decide) (by rw [e]; decide) (by rw [e]; decide), ← e2.1, ← e2.2, e, sk_c5, if_pos q]
    · rw [sk_vc _ _ _ _ (by rw [e]; decide) (by rw [e]; decide) (by rw [e]; decide), ← e2.1, ← e2.2, e, sk_c5, if_neg q]
  · have e2 := arg (two (by rw [e]; decide) (by rw [e]; decide) (by rw [e]; decide))
    refine br_c (fun q => ya_246 hp hh ?_ H) (fun q => ya_246 hp hh ?_ H)
    · rw [sk_vc _ _ _ _ (by rw [e]; decide) (by rw [e]; decide) (by rw [e]; decide), ← e2.1, ← e2.2, e, sk_c6, if_pos q]
    · rw [sk_vc _ _ _ _ (by rw [e]; decide) (by rw [e]; decide) (by rw [e]; decide), ← e2.1, ← e2.2, e, sk_c6, if_neg q]
  · have e3 : sk_p k = 3 := by rw [e]; decide
    have g1 : x = st (h - sk_p k) := by rw [e3]; exact hx (by omega)
    have g2 : y = st (h - sk_p k + 1) := by rw [e3, hy (by omega)]; congr 1; omega
    have g3 : z = st (h - sk_p k + 2) := by rw [e3, hz (by omega)]; congr 1; omega
    have gv : sk_v k a vy st (h - sk_p k) = if x ≤ 0 then z else y := by
      rw [g1, g2, g3]
      generalize h - sk_p k = b
      rw [e, sk_v7]
    refine br_c (fun q => ya_246 hp hh ?_ H) (fun q => ya_246 hp hh ?_ H)
    · rw [gv, if_pos q]
    · rw [gv, if_neg q]
  · have e0 : k = 0 := by
      have c : m = 0 ∨ m = 1 ∨ m = 2 ∨ m = 3 ∨ m = 4 ∨ m = 5 ∨ m = 6 ∨ m = 7 := by omega
      rcases c with c | c | c | c | c | c | c | c <;> subst c
      · exact em
      · exact absurd em n1
      · exact absurd em n2
      · exact absurd em n3
      · exact absurd em n4
      · exact absurd em n5
      · exact absurd em n6
      · exact absurd em n7
    refine ya_246 hp hh ?_ H
    generalize h - sk_p k = b
    rw [e0, sk_v0]
theorem ya_worked {post : Int32 → SY → Prop} {K A : Nat → Int32} {c l : Nat} (hc : c < 16) (hl : l ≤ 8) (el : sz c = nI l) (hf : ∀ t, t < l → kd (c * 8 + t) = K t ∧ ag (c * 8 + t) = A t) (hV : ∀ t, t < l → sh_tok (K t) (A t)) (hS : sk_S K l)
    (h : ∀ s, post (sk_ev K A l vy) (yn, yr, yc, yR, yC, kd, ag, sz, nb, td, tg, ip, ey, vy, bf, s, dp)) : wpY_worked post (yn, yr, yc, yR, yC, kd, ag, sz, nb, td, tg, ip, ey, vy, bf, st, dp) (nI c) := by
  have L : ∀ d t, t + d = l → wY_worked_4 post (nI c) yn yr yc yR yC (d + 1) (nI (sk_h K t)) (nI t) kd ag sz nb td tg ip ey vy bf (sk_st K A vy st t) dp := by
    intro d
    have ecc : (nI c).toNatClampNeg = c := nI_clamp (by omega)
    have hinc : vp_in (nI c) 16 := vp_in_nI hc (by omega)
    induction d with
    | zero =>
      intro t ht
      have e : t = l := ht
      subst e
      refine ⟨hinc, br_t (by rw [ecc, el]; exact nI_le (Nat.le_refl t) (by omega)) ?_⟩
      have := h (sk_st K A vy st t)
      rw [← sk_end st hS] at this
      exact this
    | succ d ih =>
      intro t ht
      have ei : (nI c * 8 + nI t).toNatClampNeg = c * 8 + t := by rw [ya_i8, nI_clamp (by omega)]
      have hi2 : vp_in (nI c * 8 + nI t) 128 := by rw [ya_i8]; exact vp_in_nI (by omega) (by omega)
      obtain ⟨ek, ear⟩ := hf t (by omega)
      obtain ⟨⟨m, hm, em⟩, hcell⟩ := hV t (by omega)
      have hp := hS.1 t (by omega)
      have hh := sk_ht K t
      have ih := ih (t + 1) (by omega)
      have eh : sk_h K (t + 1) = sk_h K t - sk_p (K t) + 1 := rfl
      have es : sk_st K A vy st (t + 1) = upd (sk_st K A vy st t) (sk_h K t - sk_p (K t)) (sk_v (K t) (A t) vy (sk_st K A vy st t) (sk_h K t - sk_p (K t))) := rfl
      rw [eh, es] at ih
      refine ⟨hinc, br_f (by rw [ecc, el]; exact nI_ge (by omega) (by omega)) ⟨hi2, nm_r (e' := K t) (by rw [ei, ek]) ⟨hi2, nm_r (e' := A t) (by rw [ei, ear]) (ya_pops rfl hm em ?_)⟩⟩⟩
      generalize hH : sk_h K t = g at ih hp hh ⊢
      generalize sk_st K A vy st t = u at ih ⊢
      have e1 : 1 ≤ g → nI g - 1 = nI (g - 1) := fun z => pk_sub (b := 1) z
      have e2 : 2 ≤ g → nI g - 2 = nI (g - 2) := fun z => pk_sub (b := 2) z
      have e3 : 3 ≤ g → nI g - 3 = nI (g - 3) := fun z => pk_sub (b := 3) z
      have K3 : ∀ z y, (1 ≤ g → z = u (g - 1)) → (2 ≤ g → y = u (g - 2)) → wY_worked_83 post (wY_worked_4 post (nI c) yn yr yc yR yC (d + 1)) (nI c) (nI g) (nI t) (K t) (A t) (nI (sk_p (K t))) z y yn yr yc yR yC kd ag sz nb td tg ip ey vy bf u dp := by
        intro z y hz hy
        refine pk_le g 2 (fun q => ?_) (fun q => ⟨by rw [e3 q]; exact vp_in_nI (by omega) (by omega), ?_⟩)
        · exact ya_102 hm em hcell hp (by omega) hz hy (fun z => by omega) ih
        · exact ya_102 hm em hcell hp (by omega) hz hy (fun z => by rw [e3 z, nI_clamp (by omega)]) ih
      have K2 : ∀ z, (1 ≤ g → z = u (g - 1)) → wY_worked_64 post (wY_worked_4 post (nI c) yn yr yc yR yC (d + 1)) (nI c) (nI g) (nI t) (K t) (A t) (nI (sk_p (K t))) z yn yr yc yR yC kd ag sz nb td tg ip ey vy bf u dp := by
        intro z hz
        refine pk_le g 1 (fun q => ?_) (fun q => ⟨by rw [e2 q]; exact vp_in_nI (by omega) (by omega), ?_⟩)
        · exact K3 z 0 hz (fun z => by omega)
        · exact K3 z _ hz (fun z => by rw [e2 z, nI_clamp (by omega)])
      refine pk_le g 0 (fun q => ?_) (fun q => ⟨by rw [e1 q]; exact vp_in_nI (by omega) (by omega), ?_⟩)
      · exact K2 0 (fun z => by omega)
      · exact K2 _ (fun z => by rw [e1 z, nI_clamp (by omega)])
  exact ⟨l + 1, L l 0 (by omega)⟩
/-! the rounds of work -/
def ya_Q (S : Nat → Int32) (D : Nat → Nat → Prop) (p x : Nat) (v : Nat → Int32) : Prop := ∀ a, a < 16 → (gr_r D a < p ∨ (gr_r D a ≤ p ∧ a < x)) → v a = S a
theorem ya_Qput {G : Nat → (Nat → Int32) → Int32} {D : Nat → Nat → Prop} (hL : so_L G D) (hA : gr_A D) (hd : ∀ a b, D a b → b < 16) {p x : Nat} {v : Nat → Int32} {w : Int32} (hx : x < 16) (h : ya_Q (so_S G) D p x v) (hw : w = G x v) : ya_Q (so_S G) D p (x + 1) (upd v x w) := by
  intro a ha hr
  by_cases e : a = x
  · subst e
    rw [pk_us, hw, so_fix hL hA hd ha]
    apply hL a ha
    intro b hb
    have hlt := gr_rD hA (hd _ _ hb) hb
    exact h b (hd _ _ hb) (by omega)
  · rw [pk_un e]
    exact h a ha (by omega)
theorem ya_work13 {post : SY → Prop} {J : Int32 → Int32 → Int32 → Int32 → Int32 → Int32 → (Nat → Int32) → (Nat → Int32) → (Nat → Int32) → (Nat → Int32) → (Nat → Int32) → (Nat → Int32) → (Nat → Int32) → (Nat → Int32) → (Nat → Int32) → (Nat → Int32) → (Nat → Int32) → (Nat → Int32) → Prop}
    {L : Nat → Nat} {K A : Nat → Nat → Int32} (hO : sh_OK L K A) (hP : sh_P L K A sz kd ag) (hA : gr_A (sh_D L K A)) {G : Nat → (Nat → Int32) → Int32} (hL : so_L G (sh_D L K A)) {x1 x2 x3 x4 : Int32}
    (h1 : ∀ c, c < 16 → nI c = x1 → ∀ V, x2 = G c V) (h2 : ∀ c, c < 16 → ¬ nI c = x1 → nI c = x3 → ∀ V, x4 = G c V) (h3 : ∀ c, c < 16 → ¬ nI c = x1 → ¬ nI c = x3 → ∀ V, sh_F L K A nb c V = G c V)
    {p : Nat} (hp : p < 16) (h : ∀ v s, ya_Q (so_S G) (sh_D L K A) (p + 1) 0 v → J (nI (p + 1)) yn yr yc yR yC kd ag sz nb td tg ip ey v bf s dp) :
    ∀ d x, x + d = 16 → ∀ v s, ya_Q (so_S G) (sh_D L K A) p x v → wY_work_13 post J x1 x2 x3 x4 (nI p) (d + 1) (nI x) yn yr yc yR yC kd ag sz nb td tg ip ey v bf s dp := by
  intro d
  induction d with
  | zero =>
    intro x hx v s hv
    have e : x = 16 := hx
    subst e
    refine br_t (nI_le (Nat.le_refl 16) (by decide)) (nm_r (nI_1 p) (h v s ?_))
    intro a ha h2
    exact hv a ha (by omega)
  | succ d ih =>
    intro x hx v s hv
    have hx16 : x < 16 := by omega
    have ec : (nI x).toNatClampNeg = x := nI_clamp (by omega)
    have hin : vp_in (nI x) 16 := vp_in_nI hx16 (by omega)
    have put : ∀ w s', w = G x v → wY_work_13 post J x1 x2 x3 x4 (nI p) (d + 1) (nI (x + 1)) yn yr yc yR yC kd ag sz nb td tg ip ey (upd v x w) bf s' dp := fun w s' hw => ih (x + 1) (by omega) _ s' (ya_Qput hL hA sh_dom hx16 hv hw)
    refine br_f (nI_ge (b := 16) hx16 (by decide)) ⟨hin, nm_r (e' := nb x) (by rw [ec]) (br_c (fun q => ⟨hin, nm_r (by rw [ec]) (nm_r (nI_1 x) (put x2 s (h1 x hx16 q v)))⟩) (fun q => br_c (fun q2 => ⟨hin, nm_r (by rw [ec]) (nm_r (nI_1 x) (put x4 s (h2 x hx16 q q2 v)))⟩) (fun q2 => ⟨hin, ?_⟩)))⟩
    have hF := h3 x hx16 q q2 v
    obtain ⟨o1, o2, o3⟩ := hO x hx16
    obtain ⟨p1, p2⟩ := hP x hx16
    unfold sh_F at hF
    refine pk_le (L x) 0 (fun q => ?_) (fun q => ?_) (by rw [ec]; exact p1) rfl (by omega)
    · rw [if_pos (by omega)] at hF
      exact ⟨hin, nm_r (by rw [ec]) (nm_r (nI_1 x) (put _ s hF))⟩
    · rw [if_neg (by omega)] at hF
      refine ya_worked hx16 o1 p1 p2 o2 (o3.resolve_left (by omega)) (fun s' => ?_)
      exact ⟨hin, nm_r (by rw [ec]) (nm_r (nI_1 x) (put _ s' hF))⟩
theorem ya_work {post : SY → Prop} {L : Nat → Nat} {K A : Nat → Nat → Int32} (hO : sh_OK L K A) (hP : sh_P L K A sz kd ag) (hA : gr_A (sh_D L K A)) {G : Nat → (Nat → Int32) → Int32} (hL : so_L G (sh_D L K A)) {x1 x2 x3 x4 : Int32}
    (h1 : ∀ c, c < 16 → nI c = x1 → ∀ V, x2 = G c V) (h2 : ∀ c, c < 16 → ¬ nI c = x1 → nI c = x3 → ∀ V, x4 = G c V) (h3 : ∀ c, c < 16 → ¬ nI c = x1 → ¬ nI c = x3 → ∀ V, sh_F L K A nb c V = G c V)
    (h : ∀ v s, (∀ c, c < 16 → v c = so_S G c) → post (yn, yr, yc, yR, yC, kd, ag, sz, nb, td, tg, ip, ey, v, bf, s, dp)) : wpY_work post (yn, yr, yc, yR, yC, kd, ag, sz, nb, td, tg, ip, ey, vy, bf, st, dp) x1 x2 x3 x4 := by
  have M : ∀ d p, p + d = 16 → ∀ v s, ya_Q (so_S G) (sh_D L K A) p 0 v → wY_work_3 post x1 x2 x3 x4 (d + 1) (nI p) yn yr yc yR yC kd ag sz nb td tg ip ey v bf s dp := by
    intro d
    induction d with
    | zero =>
      intro p hp v s hv
      have e : p = 16 := hp
      subst e
      exact br_t (nI_le (Nat.le_refl 16) (by decide)) (h v s fun c hc => hv c hc (Or.inl (gr_r16 hA hc)))
    | succ d ih =>
      intro p hp v s hv
      exact br_f (nI_ge (b := 16) (by omega) (by decide)) ⟨17, ya_work13 hO hP hA hL h1 h2 h3 (by omega) (fun v' s' h' => ih (p + 1) (by omega) v' s' h') 16 0 rfl v s hv⟩
  refine ⟨17, M 16 0 rfl vy st ?_⟩
  intro a _ z
  omega
theorem ya_work0 {post : SY → Prop} {L : Nat → Nat} {K A : Nat → Nat → Int32} (hO : sh_OK L K A) (hP : sh_P L K A sz kd ag) (hA : gr_A (sh_D L K A))
    (h : ∀ v s, (∀ c, c < 16 → v c = so_S (sh_F L K A nb) c) → post (yn, yr, yc, yR, yC, kd, ag, sz, nb, td, tg, ip, ey, v, bf, s, dp)) : wpY_work post (yn, yr, yc, yR, yC, kd, ag, sz, nb, td, tg, ip, ey, vy, bf, st, dp) (-1) 0 (-1) 0 := by
  have n1 : ∀ c, c < 16 → ¬ nI c = -1 := by decide +kernel
  exact ya_work hO hP hA (sh_loc hO) (fun c hc e => absurd e (n1 c hc)) (fun c hc _ e => absurd e (n1 c hc)) (fun _ _ _ _ _ => rfl) h
theorem ya_workG {post : SY → Prop} {L : Nat → Nat} {K A : Nat → Nat → Int32} (hO : sh_OK L K A) (hP : sh_P L K A sz kd ag) (hA : gr_A (sh_D L K A)) {r q : Nat} (hr : r < 16) (hq : q < 16) {x y : Int32}
    (h : ∀ v s, (∀ c, c < 16 → v c = so_S (sh_G L K A nb r x q y) c) → post (yn, yr, yc, yR, yC, kd, ag, sz, nb, td, tg, ip, ey, v, bf, s, dp)) : wpY_work post (yn, yr, yc, yR, yC, kd, ag, sz, nb, td, tg, ip, ey, vy, bf, st, dp) (nI r) x (nI q) y := by
  refine ya_work hO hP hA (sh_gloc hO r x q y) ?_ ?_ ?_ h
  · intro c hc e V
    rw [nI_eq (by omega) (by omega)] at e
    exact (if_pos e).symm
  · intro c hc e1 e2 V
    rw [nI_eq (by omega) (by omega)] at e1 e2
    exact ((if_neg e1).trans (if_pos e2)).symm
  · intro c hc e1 e2 V
    rw [nI_eq (by omega) (by omega)] at e1 e2
    exact ((if_neg e1).trans (if_neg e2)).symm
end
