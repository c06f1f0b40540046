/-! the reference's one (ODD, SUM, DELAY), merge, and stream -/
section
variable {ak ax ay an it it0 ln : Nat → Int32} {kd xi yi L C : Nat → Nat} {p c : Nat} {f : Int32}
theorem yl_one {post : Int32 → SY → Prop} (A : nw_A kd xi yi ak ax ay) (B : nw_B kd xi yi an L (nw_V it0) C) (hp : p < 8) (hk : kd p = 4 ∨ kd p = 7) (H : ys_H kd xi yi f ak ax ay an it0 ln L p post) :
    ∀ d c n, c + d = L (xi p) → d < n → ∀ it, ny_W kd xi yi an L it0 p c it → wY_one_114 post (nI p) (nI (xi p)) (nI (L (xi p))) n (nI (nw_pos kd xi (nw_V it0) p c)) (pn_sm (nw_V it0 (xi p)) c) (nI c) f ak ax ay an it ln := by
  obtain ⟨⟨_, hx, hy⟩, ek, ex, ey⟩ := A p hp
  have lx := nw_l40 B hx
  intro d
  induction d with
  | zero =>
    intro c n hc hn it W
    obtain ⟨n, rfl⟩ : ∃ m, n = m + 1 := ⟨n - 1, by omega⟩
    rw [wY_one_114]
    refine pk_le (L (xi p)) c (fun h => H it c W (fun g => ?_)) (fun h => by omega)
    rcases hk with hk | hk
    · have := (pn_g4 hk).mp g
      omega
    · have := (pn_g7 hk).mp g
      omega
  | succ d ih =>
    intro c n hc hn it W
    obtain ⟨n, rfl⟩ : ∃ m, n = m + 1 := ⟨n - 1, by omega⟩
    rw [wY_one_114]
    refine pk_le (L (xi p)) c (fun h => by omega) (fun h => ?_)
    rw [xa_ix, xa_c (show xi p * 40 + c < 320 by omega), ny_ag B hp W hx h, xa_c8 hp, ek]
    refine ⟨xa_i320 (by omega), nm_e (nm_e ⟨xa_i8 hp, ?_⟩)⟩
    rcases hk with hk | hk
    · have g : nw_g kd xi yi L (nw_V it0) p c := (pn_g4 hk).mpr ⟨by omega, h⟩
      refine br_f (by rw [hk]; decide) (br_c (fun ho => ?_) (fun ho => ?_))
      · have em : nw_em kd xi (nw_V it0) p c := fun _ => ho
        refine ys_put hp W g em rfl (pn_v4 hk) (fun it' W' => nm_r (nI_1 c) ?_)
        have := ih (c + 1) n (by omega) (by omega) it' W'
        rwa [show nw_pos kd xi (nw_V it0) p (c + 1) = nw_pos kd xi (nw_V it0) p c + 1 from pn_pos_s em] at this
      · have em : ¬ nw_em kd xi (nw_V it0) p c := fun z => ho (z hk)
        refine nm_r (nI_1 c) ?_
        have := ih (c + 1) n (by omega) (by omega) it (ny_skip W g em)
        rwa [show nw_pos kd xi (nw_V it0) p (c + 1) = nw_pos kd xi (nw_V it0) p c from pn_pos_ns em] at this
    · have g : nw_g kd xi yi L (nw_V it0) p c := (pn_g7 hk).mpr ⟨by omega, h⟩
      have em : nw_em kd xi (nw_V it0) p c := fun z => by omega
      refine br_t (by rw [hk]; rfl) ?_
      refine ys_put hp W g em rfl (pn_v7 hk) (fun it' W' => nm_r (nI_1 c) ?_)
      have := ih (c + 1) n (by omega) (by omega) it' W'
      rwa [show nw_pos kd xi (nw_V it0) p (c + 1) = nw_pos kd xi (nw_V it0) p c + 1 from pn_pos_s em] at this
/-- DELAY writes from its end down -/
def yl_D (it0 : Nat → Int32) (x p m i : Nat) (it : Nat → Int32) : Prop := ∀ q, q < 8 → ∀ j, j < 40 → it (q * 40 + j) = if q = p ∧ i < j ∧ j ≤ m then it0 (x * 40 + (j - 1)) else it0 (q * 40 + j)
theorem yl_delay {post : Int32 → SY → Prop} (A : nw_A kd xi yi ak ax ay) (B : nw_B kd xi yi an L (nw_V it0) C) (hp : p < 8) (hk : kd p = 5) (H : ys_H kd xi yi f ak ax ay an it0 ln L p post) {m : Nat} (hm : m ≤ 39) (hm1 : m ≤ L (xi p)) (hm2 : L (xi p) ≤ 39 → m = L (xi p)) (hm3 : 39 ≤ L (xi p) → m = 39) :
    ∀ i n, i ≤ m → i < n → ∀ it, yl_D it0 (xi p) p m i it → wY_one_44 post (nI p) (nI (xi p)) (nI (L (xi p))) f n (nI i) ak ax ay an it ln := by
  obtain ⟨⟨_, hx, hy⟩, ek, ex, ey⟩ := A p hp
  have lx := nw_l40 B hx
  intro i
  induction i with
  | zero =>
    intro n him hn it D
    obtain ⟨n, rfl⟩ : ∃ m, n = m + 1 := ⟨n - 1, by omega⟩
    have W : ny_W kd xi yi an L it0 p (m + 1) (upd it (p * 40) (an p)) := by
      refine ⟨fun d hd => (pn_g5 hk).mpr ⟨by omega, by omega⟩, fun d hd _ => ?_, fun q hq j hj h => ?_⟩
      · rw [show nw_pos kd xi (nw_V it0) p d = d from pn_pos_n (by omega) _ _, show nw_val kd xi yi an (nw_V it0) p d = _ from pn_v5 hk]
        by_cases e : d = 0
        · rw [if_pos e, e]; exact pk_us
        · rw [if_neg e, pk_un (by omega), D p hp d (by omega), if_pos ⟨rfl, by omega, by omega⟩]
          rfl
      · rw [show nw_pos kd xi (nw_V it0) p (m + 1) = m + 1 from pn_pos_n (by omega) _ _] at h
        rw [pk_un (by omega), D q hq j hj, if_neg (by omega)]
    have ng : ¬ nw_g kd xi yi L (nw_V it0) p (m + 1) := by
      intro g
      have := (pn_g5 hk).mp g
      omega
    have P := ys_e H (by omega) W ng
    rw [wY_one_44]
    refine br_t (by decide) ?_
    rw [xa_ix0, xa_c8 hp, xa_c (show p * 40 < 320 by omega)]
    refine ⟨xa_i8 hp, xa_i320 (by omega), nm_e (pk_le 39 (L (xi p)) (fun h => ?_) (fun h => ?_))⟩
    · rw [hm3 h] at P
      exact P
    · rw [hm2 (by omega)] at P
      rw [nI_1]
      exact P
  | succ i ih =>
    intro n him hn it D
    obtain ⟨n, rfl⟩ : ∃ m, n = m + 1 := ⟨n - 1, by omega⟩
    rw [wY_one_44]
    refine br_f (nI_nle (by omega) (by omega)) ?_
    rw [xa_ix, xa_ix, show nI (xi p * 40 + (i + 1)) - 1 = nI (xi p * 40 + i) from nI_pred _, xa_c (show xi p * 40 + i < 320 by omega), xa_c (show p * 40 + (i + 1) < 320 by omega)]
    refine ⟨xa_i320 (by omega), xa_i320 (by omega), nm_e (nm_r (pk_m1 i) (ih n (by omega) (by omega) _ ?_))⟩
    intro q hq j hj
    have e0 := D (xi p) hx i (by omega)
    rw [if_neg (by omega)] at e0
    by_cases e : q = p ∧ j = i + 1
    · obtain ⟨e1, e2⟩ := e
      subst e1 e2
      rw [pk_us, if_pos ⟨rfl, by omega, by omega⟩, e0]
      rfl
    · rw [pk_un (by omega), D q hq j hj]
      by_cases h : q = p ∧ i + 1 < j ∧ j ≤ m
      · rw [if_pos h, if_pos ⟨h.1, by omega, h.2.2⟩]
      · rw [if_neg h, if_neg (by omega)]
theorem ys_one {post : Int32 → SY → Prop} (A : nw_A kd xi yi ak ax ay) (B : nw_B kd xi yi an L (nw_V it0) C) (hl : ∀ q, q < 8 → ln q = nI (L q)) (hp : p < 8) (hk : kd p = 4 ∨ kd p = 5 ∨ kd p = 7) (H : ys_H kd xi yi f ak ax ay an it0 ln L p post) : wpY_one post (f, ak, ax, ay, an, it0, ln) (nI p) := by
  obtain ⟨⟨_, hx, hy⟩, ek, ex, ey⟩ := A p hp
  have lx := nw_l40 B hx
  unfold wpY_one
  dsimp only
  rw [xa_c8 hp, ex, ek]
  refine ⟨xa_i8 hp, nm_e ⟨xa_i8 hx, ?_⟩⟩
  rw [xa_c8 hx, hl _ hx]
  refine nm_e ⟨xa_i8 hp, ?_⟩
  have D0 : ∀ m, yl_D it0 (xi p) p m m it0 := fun m q _ j _ => (if_neg (by omega)).symm
  have h1 : kd p ≠ 5 → ∃ n114 : Nat, wY_one_114 post (nI p) (nI (xi p)) (nI (L (xi p))) n114 0 0 0 f ak ax ay an it0 ln := by
    intro h5
    refine ⟨L (xi p) + 1, ?_⟩
    have := yl_one A B hp (by omega) H (L (xi p)) 0 (L (xi p) + 1) (by omega) (by omega) it0 ny_0
    rw [show nw_pos kd xi (nw_V it0) p 0 = 0 from pn_pos_0 _ _] at this
    exact this
  refine pk_eq (kd p) 5 (fun h5 => pk_le 39 (L (xi p)) (fun h => ⟨40, ?_⟩) (fun h => ⟨L (xi p) + 1, ?_⟩)) h1
  · exact yl_delay A B hp h5 H (m := 39) (by omega) h (fun z => by omega) (fun _ => rfl) 39 40 (by omega) (by omega) it0 (D0 39)
  · exact yl_delay A B hp h5 H (m := L (xi p)) (by omega) (by omega) (fun _ => rfl) (fun z => by omega) (L (xi p)) (L (xi p) + 1) (by omega) (by omega) it0 (D0 _)
theorem yl_merge {post : Int32 → SY → Prop} (A : nw_A kd xi yi ak ax ay) (B : nw_B kd xi yi an L (nw_V it0) C) (hl : ∀ q, q < 8 → ln q = nI (L q)) (hp : p < 8) (hk : kd p = 6) (H : ys_H kd xi yi f ak ax ay an it0 ln L p post) :
    ∀ d i n, i + d = 40 → d < n → ∀ c a b it, c ≤ i → a = nw_mi xi yi (nw_V it0) p c → b = c - a → (c = i ∨ ¬ nw_g kd xi yi L (nw_V it0) p c) → ny_W kd xi yi an L it0 p c it → wY_merge_10 post (nI p) n (nI c) (nI a) (nI b) (nI i) f ak ax ay an it ln := by
  obtain ⟨⟨_, hx, hy⟩, _, ex, ey⟩ := A p hp
  have lx := nw_l40 B hx
  have ly := nw_l40 B hy
  intro d
  induction d with
  | zero =>
    intro i n hc hn c a b it hci ha hb hQ W
    obtain ⟨n, rfl⟩ : ∃ m, n = m + 1 := ⟨n - 1, by omega⟩
    rw [wY_merge_10]
    refine pk_le 40 i (fun h => ys_e H (by omega) W (fun g => ?_)) (fun h => by omega)
    rcases hQ with e | e
    · have := g.1
      omega
    · exact e g
  | succ d ih =>
    intro i n hc hn c a b it hci ha hb hQ W
    obtain ⟨n, rfl⟩ : ∃ m, n = m + 1 := ⟨n - 1, by omega⟩
    have hle : nw_mi xi yi (nw_V it0) p c ≤ c := pn_mi_le _ _ _
    have hv : nw_val kd xi yi an (nw_V it0) p c = if nw_V it0 (xi p) (nw_mi xi yi (nw_V it0) p c) ≤ nw_V it0 (yi p) (c - nw_mi xi yi (nw_V it0) p c) then nw_V it0 (xi p) (nw_mi xi yi (nw_V it0) p c) else nw_V it0 (yi p) (c - nw_mi xi yi (nw_V it0) p c) := pn_v6 hk
    have hs : nw_mi xi yi (nw_V it0) p (c + 1) = if nw_V it0 (xi p) (nw_mi xi yi (nw_V it0) p c) ≤ nw_V it0 (yi p) (c - nw_mi xi yi (nw_V it0) p c) then nw_mi xi yi (nw_V it0) p c + 1 else nw_mi xi yi (nw_V it0) p c := rfl
    have gi : nw_g kd xi yi L (nw_V it0) p c ↔ c < 40 ∧ nw_mi xi yi (nw_V it0) p c < L (xi p) ∧ c - nw_mi xi yi (nw_V it0) p c < L (yi p) := pn_g6 hk
    rw [← ha] at hv hs gi hle
    rw [← hb] at hv hs gi
    rw [wY_merge_10]
    refine pk_le 40 i (fun h => by omega) (fun h => ?_)
    rw [xa_c8 hp, ex, ey, xa_c8 hx, xa_c8 hy, hl _ hx, hl _ hy]
    refine ⟨xa_i8 hp, xa_i8 hx, pk_le (L (xi p)) a (fun h1 => ?_) (fun h1 => ⟨xa_i8 hp, xa_i8 hy, pk_le (L (yi p)) b (fun h2 => ?_) (fun h2 => ?_)⟩)⟩
    · refine nm_r (nI_1 i) (ih (i + 1) n (by omega) (by omega) c a b it (by omega) ha hb (Or.inr (fun g => ?_)) W)
      have := gi.mp g
      omega
    · refine nm_r (nI_1 i) (ih (i + 1) n (by omega) (by omega) c a b it (by omega) ha hb (Or.inr (fun g => ?_)) W)
      have := gi.mp g
      omega
    · have g : nw_g kd xi yi L (nw_V it0) p c := gi.mpr ⟨by omega, h1, h2⟩
      have e : c = i := by
        rcases hQ with e | e
        · exact e
        · exact absurd g e
      subst e
      rw [xa_ix, xa_ix, xa_c (show xi p * 40 + a < 320 by omega), xa_c (show yi p * 40 + b < 320 by omega), ny_ag B hp W hx h1, ny_ag B hp W hy h2]
      refine ⟨xa_i8 hp, xa_i320 (by omega), nm_e ⟨xa_i8 hp, xa_i320 (by omega), nm_e (br_c (fun hc => ?_) (fun hc => ?_))⟩⟩
      · have hc' : nw_V it0 (xi p) a ≤ nw_V it0 (yi p) b := hc
        rw [if_pos hc'] at hv hs
        exact ys_put hp W g (fun z => by omega) (pn_pos_n (by omega) _ _).symm hv (fun it' W' => nm_r (nI_1 a) (nm_r (nI_1 c) (ih (c + 1) n (by omega) (by omega) (c + 1) (a + 1) b it' (Nat.le_refl _) hs.symm (by omega) (Or.inl rfl) W')))
      · have hc' : ¬ nw_V it0 (xi p) a ≤ nw_V it0 (yi p) b := hc
        rw [if_neg hc'] at hv hs
        exact ys_put hp W g (fun z => by omega) (pn_pos_n (by omega) _ _).symm hv (fun it' W' => nm_r (nI_1 b) (nm_r (nI_1 c) (ih (c + 1) n (by omega) (by omega) (c + 1) a (b + 1) it' (Nat.le_refl _) hs.symm (by omega) (Or.inl rfl) W')))
theorem ys_stream {post : Int32 → SY → Prop} (A : nw_A kd xi yi ak ax ay) (B : nw_B kd xi yi an L (nw_V it0) C) (hl : ∀ q, q < 8 → ln q = nI (L q)) (hp : p < 8) (H : ys_H kd xi yi f ak ax ay an it0 ln L p post) : wpY_stream post (f, ak, ax, ay, an, it0, ln) (nI p) := by
  obtain ⟨⟨hk8, hx, hy⟩, ek, ex, ey⟩ := A p hp
  unfold wpY_stream
  dsimp only
  rw [xa_c8 hp, ek]
  refine ⟨xa_i8 hp, pk_le 2 (kd p) (fun h => ⟨xa_i8 hp, pk_eq (kd p) 2 (fun h2 => ?_) (fun h2 => ⟨xa_i8 hp, pk_eq (kd p) 3 (fun h3 => ?_) (fun h3 => ⟨xa_i8 hp, pk_eq (kd p) 6 (fun h6 => ?_) (fun h6 => ?_)⟩)⟩)⟩) (fun h => ?_)⟩
  · unfold wpY_add
    exact ⟨41, yl_add A B hl hp h2 H 40 0 41 rfl (by decide) 0 it0 (Nat.le_refl _) (Or.inl rfl) ny_0⟩
  · unfold wpY_turn
    exact ⟨41, yl_turn A B hl hp h3 H 40 0 41 rfl (by decide) 0 it0 (Nat.le_refl _) (Or.inl rfl) ny_0⟩
  · unfold wpY_merge
    exact ⟨41, yl_merge A B hl hp h6 H 40 0 41 rfl (by decide) 0 0 0 it0 (Nat.le_refl _) rfl rfl (Or.inl rfl) ny_0⟩
  · exact ys_one A B hl hp (by omega) H
  · unfold wpY_start
    by_cases h0 : kd p = 0
    · exact ⟨41, yl_start0 A hp h0 H 40 0 41 rfl (by decide) it0 ny_0⟩
    · exact ⟨41, yl_start1 A hp (by omega) H 5 0 41 rfl (by decide) it0 ny_0⟩
end
