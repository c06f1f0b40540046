/-! the reference's stream of one process: it writes what the steps of p give, from the first one on -/
def ny_W (kd xi yi : Nat → Nat) (nu : Nat → Int32) (L : Nat → Nat) (it0 : Nat → Int32) (p c : Nat) (it : Nat → Int32) : Prop :=
  (∀ d, d < c → nw_g kd xi yi L (nw_V it0) p d) ∧ (∀ d, d < c → nw_em kd xi (nw_V it0) p d → it (p * 40 + nw_pos kd xi (nw_V it0) p d) = nw_val kd xi yi nu (nw_V it0) p d) ∧
  (∀ q, q < 8 → ∀ i, i < 40 → (q ≠ p ∨ nw_pos kd xi (nw_V it0) p c ≤ i) → it (q * 40 + i) = it0 (q * 40 + i))
section
variable {ak ax ay an it it0 ln : Nat → Int32} {kd xi yi L C : Nat → Nat} {p c : Nat} {f : Int32}
theorem ny_0 : ny_W kd xi yi an L it0 p 0 it0 := ⟨fun d h => absurd h (Nat.not_lt_zero _), fun d h => absurd h (Nat.not_lt_zero _), fun _ _ _ _ _ => rfl⟩
theorem ny_ag (B : nw_B kd xi yi an L (nw_V it0) C) (hp : p < 8) (W : ny_W kd xi yi an L it0 p c it) {q i : Nat} (hq : q < 8) (hi : i < L q) : it (q * 40 + i) = it0 (q * 40 + i) := by
  have l40 := nw_l40 B hq
  by_cases e : q = p
  · subst e
    rw [(B q hq).1] at hi
    obtain ⟨d, h1, h2, h3⟩ := pn_pos_ex hi
    have h2' : nw_pos kd xi (nw_V it0) q d = i := h2
    by_cases hd : d < c
    · have e1 := W.2.1 d hd h3
      have e2 := ((B q hq).2 d h1).2 h3
      rw [h2'] at e1 e2
      exact e1.trans e2.symm
    · have m : nw_pos kd xi (nw_V it0) q c ≤ nw_pos kd xi (nw_V it0) q d := pn_pos_mono _ _ (by omega)
      refine W.2.2 q hq i ?_ (Or.inr (by omega))
      have := (B q hq).1
      have := l40
      have : i < nw_pos kd xi (nw_V it0) q (C q) := hi
      omega
  · exact W.2.2 q hq i (by omega) (Or.inl e)
theorem ny_put (hp : p < 8) (W : ny_W kd xi yi an L it0 p c it) (g : nw_g kd xi yi L (nw_V it0) p c) (em : nw_em kd xi (nw_V it0) p c) : ny_W kd xi yi an L it0 p (c + 1) (upd it (p * 40 + nw_pos kd xi (nw_V it0) p c) (nw_val kd xi yi an (nw_V it0) p c)) := by
  have hc : nw_pos kd xi (nw_V it0) p c < 40 := Nat.lt_of_le_of_lt (pn_pos_le _ _ _) g.1
  have hs : nw_pos kd xi (nw_V it0) p (c + 1) = nw_pos kd xi (nw_V it0) p c + 1 := pn_pos_s em
  refine ⟨fun d hd => ?_, fun d hd hm => ?_, fun q hq i hi h => ?_⟩
  · by_cases e : d = c
    · subst e; exact g
    · exact W.1 d (by omega)
  · by_cases e : d = c
    · subst e; exact pk_us
    · have : nw_pos kd xi (nw_V it0) p d < nw_pos kd xi (nw_V it0) p c := pn_pos_lt hm (by omega)
      rw [pk_un (by omega)]
      exact W.2.1 d (by omega) hm
  · rw [hs] at h
    rw [pk_un (by omega)]
    exact W.2.2 q hq i hi (by omega)
theorem ny_skip (W : ny_W kd xi yi an L it0 p c it) (g : nw_g kd xi yi L (nw_V it0) p c) (em : ¬ nw_em kd xi (nw_V it0) p c) : ny_W kd xi yi an L it0 p (c + 1) it := by
  have hs : nw_pos kd xi (nw_V it0) p (c + 1) = nw_pos kd xi (nw_V it0) p c := pn_pos_ns em
  refine ⟨fun d hd => ?_, fun d hd hm => ?_, fun q hq i hi h => ?_⟩
  · by_cases e : d = c
    · subst e; exact g
    · exact W.1 d (by omega)
  · by_cases e : d = c
    · subst e; exact absurd hm em
    · exact W.2.1 d (by omega) hm
  · rw [hs] at h
    exact W.2.2 q hq i hi h
theorem ym_put {post : Int32 → SY → Prop} {n : Nat} {v : Int32} (hp : p < 8) (hn : n < 40) (H : post (nI (n + 1)) (f, ak, ax, ay, an, upd it (p * 40 + n) v, ln)) : wpY_put post (f, ak, ax, ay, an, it, ln) (nI p) (nI n) v := by
  unfold wpY_put
  dsimp only
  rw [xa_ix, xa_c (show p * 40 + n < 320 by omega), nI_1]
  exact pk_eq n 40 (fun h => by omega) (fun h => ⟨xa_i320 (by omega), nm_e H⟩)
theorem ys_put {post : Int32 → SY → Prop} {n : Nat} {v : Int32} (hp : p < 8) (W : ny_W kd xi yi an L it0 p c it) (g : nw_g kd xi yi L (nw_V it0) p c) (em : nw_em kd xi (nw_V it0) p c) (hn : n = nw_pos kd xi (nw_V it0) p c) (hv : nw_val kd xi yi an (nw_V it0) p c = v)
    (H : ∀ it', ny_W kd xi yi an L it0 p (c + 1) it' → post (nI (n + 1)) (f, ak, ax, ay, an, it', ln)) : wpY_put post (f, ak, ax, ay, an, it, ln) (nI p) (nI n) v := by
  have hc : nw_pos kd xi (nw_V it0) p c < 40 := Nat.lt_of_le_of_lt (pn_pos_le _ _ _) g.1
  refine ym_put hp (by omega) (H _ ?_)
  rw [← hv, hn]
  exact ny_put hp W g em
/-- what is asked after a stream -/
def ys_H (kd xi yi : Nat → Nat) (f : Int32) (ak ax ay an it0 ln : Nat → Int32) (L : Nat → Nat) (p : Nat) (post : Int32 → SY → Prop) : Prop :=
  ∀ it c, ny_W kd xi yi an L it0 p c it → ¬ nw_g kd xi yi L (nw_V it0) p c → post (nI (nw_pos kd xi (nw_V it0) p c)) (f, ak, ax, ay, an, it, ln)
theorem ys_e {post : Int32 → SY → Prop} (H : ys_H kd xi yi f ak ax ay an it0 ln L p post) (hk : kd p ≠ 4) (W : ny_W kd xi yi an L it0 p c it) (ng : ¬ nw_g kd xi yi L (nw_V it0) p c) : post (nI c) (f, ak, ax, ay, an, it, ln) := by
  have := H it c W ng
  rwa [show nw_pos kd xi (nw_V it0) p c = c from pn_pos_n hk _ _] at this
theorem yl_start0 {post : Int32 → SY → Prop} (A : nw_A kd xi yi ak ax ay) (hp : p < 8) (hk : kd p = 0) (H : ys_H kd xi yi f ak ax ay an it0 ln L p post) :
    ∀ d c n, c + d = 40 → d < n → ∀ it, ny_W kd xi yi an L it0 p c it → wY_start_4 post (nI p) n (nI c) (nI c) f ak ax ay an it ln := by
  have ek : ak p = 0 := by rw [(A p hp).2.1, hk]; rfl
  intro d
  induction d with
  | zero =>
    intro c n hc hn it W
    obtain ⟨n, rfl⟩ : ∃ m, n = m + 1 := ⟨n - 1, by omega⟩
    rw [wY_start_4, xa_c8 hp]
    refine ⟨xa_i8 hp, br_t ek ?_⟩
    unfold wY_start_20
    refine pk_le 40 c (fun h => ys_e H (by omega) W (fun g => ?_)) (fun h => by omega)
    have := g.1
    omega
  | succ d ih =>
    intro c n hc hn it W
    obtain ⟨n, rfl⟩ : ∃ m, n = m + 1 := ⟨n - 1, by omega⟩
    rw [wY_start_4, xa_c8 hp]
    refine ⟨xa_i8 hp, br_t ek ?_⟩
    unfold wY_start_20
    refine pk_le 40 c (fun h => by omega) (fun h => ?_)
    rw [xa_c8 hp]
    refine ⟨xa_i8 hp, br_t ek ⟨xa_i8 hp, ?_⟩⟩
    unfold wY_start_58
    refine ys_put hp W ((pn_g0 hk).mpr h) (fun z => by omega) (pn_pos_n (by omega) _ _).symm (pn_v0 hk) (fun it' W' => nm_r (nI_1 c) (ih (c + 1) n (by omega) (by omega) it' W'))
theorem yl_start1 {post : Int32 → SY → Prop} (A : nw_A kd xi yi ak ax ay) (hp : p < 8) (hk : kd p = 1) (H : ys_H kd xi yi f ak ax ay an it0 ln L p post) :
    ∀ d c n, c + d = 5 → d < n → ∀ it, ny_W kd xi yi an L it0 p c it → wY_start_4 post (nI p) n (nI c) (nI c) f ak ax ay an it ln := by
  have ek : ¬ ak p = 0 := by rw [(A p hp).2.1, hk]; decide
  intro d
  induction d with
  | zero =>
    intro c n hc hn it W
    obtain ⟨n, rfl⟩ : ∃ m, n = m + 1 := ⟨n - 1, by omega⟩
    rw [wY_start_4, xa_c8 hp]
    refine ⟨xa_i8 hp, br_f ek ?_⟩
    unfold wY_start_20
    refine pk_le 5 c (fun h => ys_e H (by omega) W (fun g => ?_)) (fun h => by omega)
    have := (pn_g1 hk).mp g
    omega
  | succ d ih =>
    intro c n hc hn it W
    obtain ⟨n, rfl⟩ : ∃ m, n = m + 1 := ⟨n - 1, by omega⟩
    rw [wY_start_4, xa_c8 hp]
    refine ⟨xa_i8 hp, br_f ek ?_⟩
    unfold wY_start_20
    refine pk_le 5 c (fun h => by omega) (fun h => ?_)
    rw [xa_c8 hp]
    refine ⟨xa_i8 hp, br_f ek ⟨xa_i8 hp, ?_⟩⟩
    unfold wY_start_58
    refine ys_put hp W ((pn_g1 hk).mpr ⟨by omega, h⟩) (fun z => by omega) (pn_pos_n (by omega) _ _).symm (pn_v1 hk) (fun it' W' => nm_r (nI_1 c) (ih (c + 1) n (by omega) (by omega) it' W'))
theorem yl_add {post : Int32 → SY → Prop} (A : nw_A kd xi yi ak ax ay) (B : nw_B kd xi yi an L (nw_V it0) C) (hl : ∀ q, q < 8 → ln q = nI (L q)) (hp : p < 8) (hk : kd p = 2) (H : ys_H kd xi yi f ak ax ay an it0 ln L p post) :
    ∀ d i n, i + d = 40 → d < n → ∀ c it, c ≤ i → (c = i ∨ ¬ nw_g kd xi yi L (nw_V it0) p c) → ny_W kd xi yi an L it0 p c it → wY_add_4 post (nI p) n (nI c) (nI i) f ak ax ay an it ln := by
  obtain ⟨⟨_, hx, hy⟩, _, ex, ey⟩ := A p hp
  have lx := nw_l40 B hx
  have ly := nw_l40 B hy
  intro d
  induction d with
  | zero =>
    intro i n hc hn c it hci hQ W
    obtain ⟨n, rfl⟩ : ∃ m, n = m + 1 := ⟨n - 1, by omega⟩
    rw [wY_add_4]
    refine pk_le 40 i (fun h => ys_e H (by omega) W (fun g => ?_)) (fun h => by omega)
    rcases hQ with e | e
    · have := g.1
      omega
    · exact e g
  | succ d ih =>
    intro i n hc hn c it hci hQ W
    obtain ⟨n, rfl⟩ : ∃ m, n = m + 1 := ⟨n - 1, by omega⟩
    rw [wY_add_4]
    refine pk_le 40 i (fun h => by omega) (fun h => ?_)
    rw [xa_c8 hp, ex, ey, xa_c8 hx, xa_c8 hy, hl _ hx, hl _ hy]
    refine ⟨xa_i8 hp, xa_i8 hx, pk_le (L (xi p)) i (fun h1 => ?_) (fun h1 => ⟨xa_i8 hp, xa_i8 hy, pk_le (L (yi p)) i (fun h2 => ?_) (fun h2 => ?_)⟩)⟩
    · refine nm_r (nI_1 i) (ih (i + 1) n (by omega) (by omega) c it (by omega) (Or.inr (fun g => ?_)) W)
      rcases hQ with e | e
      · have := (pn_g2 hk).mp g
        omega
      · exact e g
    · refine nm_r (nI_1 i) (ih (i + 1) n (by omega) (by omega) c it (by omega) (Or.inr (fun g => ?_)) W)
      rcases hQ with e | e
      · have := (pn_g2 hk).mp g
        omega
      · exact e g
    · have g : nw_g kd xi yi L (nw_V it0) p c := (pn_g2 hk).mpr ⟨by omega, by omega, by omega⟩
      have e : c = i := by
        rcases hQ with e | e
        · exact e
        · exact absurd g e
      subst e
      rw [xa_ix, xa_ix, xa_c (show xi p * 40 + c < 320 by omega), xa_c (show yi p * 40 + c < 320 by omega), ny_ag B hp W hx h1, ny_ag B hp W hy h2]
      refine ⟨xa_i8 hp, xa_i320 (by omega), xa_i8 hp, xa_i320 (by omega), ?_⟩
      exact ys_put hp W g (fun z => by omega) (pn_pos_n (by omega) _ _).symm (pn_v2 hk) (fun it' W' => nm_r (nI_1 c) (ih (c + 1) n (by omega) (by omega) (c + 1) it' (Nat.le_refl _) (Or.inl rfl) W'))
theorem yl_turn1 {post : Int32 → SY → Prop} {J : Int32 → Int32 → Int32 → (Nat → Int32) → (Nat → Int32) → (Nat → Int32) → (Nat → Int32) → (Nat → Int32) → (Nat → Int32) → Prop} (B : nw_B kd xi yi an L (nw_V it0) C) (hl : ∀ q, q < 8 → ln q = nI (L q)) (hp : p < 8) (hk : kd p = 3) {i z : Nat} (hi : i < 40) (hci : c ≤ i) (hz : z < 8)
    (e1 : (if i % 2 = 0 then L (xi p) else L (yi p)) = L z) (e2 : nw_val kd xi yi an (nw_V it0) p i = it0 (z * 40 + i / 2)) (hQ : c = i ∨ ¬ nw_g kd xi yi L (nw_V it0) p c) (W : ny_W kd xi yi an L it0 p c it)
    (HJ : ∀ c' it', c' ≤ i + 1 → (c' = i + 1 ∨ ¬ nw_g kd xi yi L (nw_V it0) p c') → ny_W kd xi yi an L it0 p c' it' → J (nI c') (nI (i + 1)) f ak ax ay an it' ln) : wY_turn_31 post J (nI p) (nI c) (nI i) (nI z) f ak ax ay an it ln := by
  have lz := nw_l40 B hz
  unfold wY_turn_31
  rw [xa_c8 hz, hl _ hz, xa_half (by omega), xa_ix, xa_c (show z * 40 + i / 2 < 320 by omega)]
  refine pk_eq c i (fun e => ⟨xa_2, xa_i8 hz, pk_le (L z) (i / 2) (fun h1 => ?_) (fun h1 => ⟨xa_2, xa_i320 (by omega), ?_⟩)⟩) (fun e => ?_)
  · refine nm_r (nI_1 i) (HJ c it (by omega) (Or.inr (fun g => ?_)) W)
    have := (pn_g3 hk).mp g
    rw [e, e1] at this
    omega
  · subst e
    rw [ny_ag B hp W hz h1]
    exact ys_put hp W ((pn_g3 hk).mpr ⟨hi, by rw [e1]; exact h1⟩) (fun z => by omega) (pn_pos_n (by omega) _ _).symm e2 (fun it' W' => nm_r (nI_1 c) (HJ (c + 1) it' (Nat.le_refl _) (Or.inl rfl) W'))
  · refine nm_r (nI_1 i) (HJ c it (by omega) (Or.inr ?_) W)
    rcases hQ with e' | e'
    · exact absurd e' e
    · exact e'
theorem yl_turn {post : Int32 → SY → Prop} (A : nw_A kd xi yi ak ax ay) (B : nw_B kd xi yi an L (nw_V it0) C) (hl : ∀ q, q < 8 → ln q = nI (L q)) (hp : p < 8) (hk : kd p = 3) (H : ys_H kd xi yi f ak ax ay an it0 ln L p post) :
    ∀ d i n, i + d = 40 → d < n → ∀ c it, c ≤ i → (c = i ∨ ¬ nw_g kd xi yi L (nw_V it0) p c) → ny_W kd xi yi an L it0 p c it → wY_turn_4 post (nI p) n (nI c) (nI i) f ak ax ay an it ln := by
  obtain ⟨⟨_, hx, hy⟩, _, ex, ey⟩ := A p hp
  intro d
  induction d with
  | zero =>
    intro i n hc hn c it hci hQ W
    obtain ⟨n, rfl⟩ : ∃ m, n = m + 1 := ⟨n - 1, by omega⟩
    rw [wY_turn_4]
    refine pk_le 40 i (fun h => ys_e H (by omega) W (fun g => ?_)) (fun h => by omega)
    rcases hQ with e | e
    · have := g.1
      omega
    · exact e g
  | succ d ih =>
    intro i n hc hn c it hci hQ W
    obtain ⟨n, rfl⟩ : ∃ m, n = m + 1 := ⟨n - 1, by omega⟩
    rw [wY_turn_4]
    refine pk_le 40 i (fun h => by omega) (fun h => ?_)
    rw [xa_par (by omega), xa_c8 hp, ex, ey]
    refine ⟨xa_2, pk_eq (i % 2) 0 (fun h2 => ⟨xa_i8 hp, ?_⟩) (fun h2 => ⟨xa_i8 hp, ?_⟩)⟩
    · exact yl_turn1 B hl hp hk h hci hx (if_pos h2) ((pn_v3 hk).trans (if_pos h2)) hQ W (fun c' it' h1 h2 h3 => ih (i + 1) n (by omega) (by omega) c' it' h1 h2 h3)
    · exact yl_turn1 B hl hp hk h hci hy (if_neg h2) ((pn_v3 hk).trans (if_neg h2)) hQ W (fun c' it' h1 h2 h3 => ih (i + 1) n (by omega) (by omega) c' it' h1 h2 h3)
end
