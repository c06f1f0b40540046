/-! MERGE, SUM, the step itself, and the component's working out -/
section
variable {ak ax ay an it ma ux uy : Nat → Int32} {kd xi yi L C : Nat → Nat} {p : Nat}
theorem xs_merge {post : SX → Prop} (A : nw_A kd xi yi ak ax ay) (I : nx_I kd xi yi an it ma ux uy L C) (hp : p < 8) (hk : kd p = 6) (h40 : L p < 40) (H : xs_H kd xi yi ak ax ay an it ma ux uy L C p post) : wpX_stepMerge post (ak, ax, ay, an, it, ma, ux, uy) (nI p) := by
  have hL := nx_eq I hp (by omega)
  obtain ⟨⟨_, hx, hy⟩, _, ex, ey⟩ := A p hp
  have lx := nx_40 I hx
  have ly := nx_40 I hy
  have e6 := I.2.2.2 p hp hk
  have hv : nw_val kd xi yi an (nw_V it) p (C p) = _ := pn_v6 hk
  have hs : nw_mi xi yi (nw_V it) p (C p + 1) = if nw_V it (xi p) (nw_mi xi yi (nw_V it) p (C p)) ≤ nw_V it (yi p) (C p - nw_mi xi yi (nw_V it) p (C p)) then nw_mi xi yi (nw_V it) p (C p) + 1 else nw_mi xi yi (nw_V it) p (C p) := rfl
  have hle : nw_mi xi yi (nw_V it) p (C p) ≤ C p := pn_mi_le _ _ _
  have gi : nw_g kd xi yi L (nw_V it) p (C p) ↔ C p < 40 ∧ nw_mi xi yi (nw_V it) p (C p) < L (xi p) ∧ C p - nw_mi xi yi (nw_V it) p (C p) < L (yi p) := pn_g6 hk
  change nw_val kd xi yi an (nw_V it) p (C p) = if nw_V it (xi p) (nw_mi xi yi (nw_V it) p (C p)) ≤ nw_V it (yi p) (C p - nw_mi xi yi (nw_V it) p (C p)) then nw_V it (xi p) (nw_mi xi yi (nw_V it) p (C p)) else nw_V it (yi p) (C p - nw_mi xi yi (nw_V it) p (C p)) at hv
  unfold wpX_stepMerge
  dsimp only
  rw [xa_c8 hp, ex, ey, e6.1, e6.2]
  generalize hi : nw_mi xi yi (nw_V it) p (C p) = i at *
  rw [nI_1, nI_1]
  refine ⟨xa_i8 hp, nm_e ⟨xa_i8 hp, nm_e ⟨xa_i8 hp, nm_e ⟨xa_i8 hp, nm_e ?_⟩⟩⟩⟩
  refine xm_has hx (I.2.1 _ hx) lx (by omega) (fun h1 => br_f xa_10 ?_) (fun h1 => br_t rfl (H.1 (fun g => ?_)))
  · refine xm_has hy (I.2.1 _ hy) ly (by omega) (fun h2 => br_f xa_10 ?_) (fun h2 => br_t rfl (H.1 (fun g => ?_)))
    · refine xm_at hx (by omega) (xm_at hy (by omega) ?_)
      have g := gi.mpr ⟨by omega, h1, h2⟩
      refine br_c (fun hlt => ⟨xa_i8 hp, xa_i8 hp, nm_e ?_⟩) (fun hlt => ⟨xa_i8 hp, xa_i8 hp, nm_e ?_⟩)
      · have hn : ¬ nw_V it (xi p) i ≤ nw_V it (yi p) (C p - i) := Int32.not_le.mpr hlt
        rw [if_neg hn] at hv hs
        refine xs_mk A I hp g (fun z => by omega) hv (fun _ _ _ => rfl) (fun q _ e => pk_un e) (fun z => by omega) (fun _ => ?_) H
        rw [hs, pk_us]
        exact ⟨e6.1, congrArg nI (by omega)⟩
      · have hn : nw_V it (xi p) i ≤ nw_V it (yi p) (C p - i) := Int32.not_lt.mp hlt
        rw [if_pos hn] at hv hs
        refine xs_mk A I hp g (fun z => by omega) hv (fun q _ e => pk_un e) (fun _ _ _ => rfl) (fun z => by omega) (fun _ => ?_) H
        rw [hs, pk_us]
        exact ⟨rfl, e6.2.trans (congrArg nI (by omega))⟩
    · have := gi.mp g
      omega
  · have := gi.mp g
    omega
theorem xs_sum1 {post : SX → Prop} (A : nw_A kd xi yi ak ax ay) (I : nx_I kd xi yi an it ma ux uy L C) (hp : p < 8) (hk : kd p = 7) (h1 : C p < L (xi p)) (H : xs_H kd xi yi ak ax ay an it ma ux uy L C p post) {b : Int32} (hb : b = pn_sm (nw_V it (xi p)) (C p)) : wX_stepSum_39 post (nI p) (nI (xi p)) (nI (C p)) b ak ax ay an it ma ux uy := by
  obtain ⟨⟨_, hx, hy⟩, _, ex, ey⟩ := A p hp
  have lx := nx_40 I hx
  unfold wX_stepSum_39
  refine xm_at hx (by omega) ?_
  refine xs_mk0 A I hp (by omega) (by omega) ((pn_g7 hk).mpr ⟨by omega, h1⟩) ((pn_v7 hk).trans ?_) H
  rw [hb]
  rfl
theorem xs_sum {post : SX → Prop} (A : nw_A kd xi yi ak ax ay) (I : nx_I kd xi yi an it ma ux uy L C) (hp : p < 8) (hk : kd p = 7) (h40 : L p < 40) (H : xs_H kd xi yi ak ax ay an it ma ux uy L C p post) : wpX_stepSum post (ak, ax, ay, an, it, ma, ux, uy) (nI p) := by
  have hL := nx_eq I hp (by omega)
  obtain ⟨⟨_, hx, hy⟩, _, ex, ey⟩ := A p hp
  have lx := nx_40 I hx
  unfold wpX_stepSum
  dsimp only
  rw [xa_c8 hp, I.2.1 p hp, ex, hL]
  refine ⟨xa_i8 hp, nm_e ⟨xa_i8 hp, nm_e ?_⟩⟩
  refine xm_has hx (I.2.1 _ hx) lx (by omega) (fun h1 => br_f xa_10 ?_) (fun h1 => br_t rfl (H.1 (fun g => ?_)))
  · refine pk_eq (C p) 0 (fun h => xs_sum1 A I hp hk h1 H (by rw [h]; rfl)) (fun h => ?_)
    have e1 : nI (C p) - 1 = nI (C p - 1) := pk_sub (a := C p) (b := 1) (by omega)
    rw [e1]
    refine xm_at hp (by omega) (xs_sum1 A I hp hk h1 H ?_)
    have := ((I.1.1 p hp).2 (C p - 1) (by omega)).2 (fun z => by omega)
    have e2 : nw_pos kd xi (nw_V it) p (C p - 1) = C p - 1 := pn_pos_n (by omega) _ _
    have e3 : nw_val kd xi yi an (nw_V it) p (C p - 1) = pn_sm (nw_V it (xi p)) (C p - 1 + 1) := pn_v7 hk
    rw [e2, e3, show C p - 1 + 1 = C p by omega] at this
    exact this
  · have := (pn_g7 hk).mp g
    omega
theorem xs_step {post : SX → Prop} (A : nw_A kd xi yi ak ax ay) (I : nx_I kd xi yi an it ma ux uy L C) (hp : p < 8) (H : xs_H kd xi yi ak ax ay an it ma ux uy L C p post) : wpX_step post (ak, ax, ay, an, it, ma, ux, uy) (nI p) := by
  unfold wpX_step
  dsimp only
  rw [xa_c8 hp, I.2.1 p hp, (A p hp).2.1]
  refine ⟨xa_i8 hp, pk_lt (L p) 40 (fun h40 => ⟨xa_i8 hp, nm_e ?_⟩) (fun h => H.1 (fun g => ?_)) rfl rfl (by have := nx_40 I hp; omega)⟩
  · rcases nw_8 (A p hp).1.1 with hk | hk | hk | hk | hk | hk | hk | hk
    · rw [hk]
      refine br_f (by decide) (br_f (by decide) (br_t (by decide) ⟨xa_i8 hp, xa_i8 hp, ?_⟩))
      have hL := nx_eq I hp (by omega)
      exact xs_mk0 A I hp (by omega) (by omega) ((pn_g0 hk).mpr (by omega)) ((pn_v0 hk).trans (by rw [hL])) H
    · rw [hk]
      exact br_f (by decide) (br_f (by decide) (br_f (by decide) (br_t (by decide) (xs_list A I hp hk h40 H))))
    · rw [hk]
      exact br_f (by decide) (br_f (by decide) (br_f (by decide) (br_f (by decide) (br_t (by decide) (xs_add A I hp hk h40 H)))))
    · rw [hk]
      exact br_f (by decide) (br_f (by decide) (br_f (by decide) (br_f (by decide) (br_f (by decide) (br_t (by decide) (xs_turn A I hp hk h40 H))))))
    · rw [hk]
      exact br_f (by decide) (br_f (by decide) (br_f (by decide) (br_f (by decide) (br_f (by decide) (br_f (by decide) (br_t (by decide) (xs_odd A I hp hk H)))))))
    · rw [hk]
      exact br_f (by decide) (br_f (by decide) (br_f (by decide) (br_f (by decide) (br_f (by decide) (br_f (by decide) (br_f (by decide) (br_t (by decide) (xs_delay A I hp hk h40 H))))))))
    · rw [hk]
      exact br_f (by decide) (br_f (by decide) (br_f (by decide) (br_f (by decide) (br_f (by decide) (br_f (by decide) (br_f (by decide) (br_f (by decide) (br_t (by decide) (xs_merge A I hp hk h40 H)))))))))
    · rw [hk]
      exact br_f (by decide) (br_f (by decide) (br_f (by decide) (br_f (by decide) (br_f (by decide) (br_f (by decide) (br_f (by decide) (br_f (by decide) (br_f (by decide) (br_t (by decide) (xs_sum A I hp hk h40 H))))))))))
  · have := g.1
    have := nx_lt I hp
    omega
end
def xl_Q (kd xi yi : Nat → Nat) (it : Nat → Int32) (L C : Nat → Nat) (r p : Nat) : Prop :=
  nw_S kd xi yi L (nw_V it) C ∨ ((∀ q, q < p → ¬ nw_g kd xi yi L (nw_V it) q (C q)) ∧ r ≤ nw_s8 C) ∨ r + 1 ≤ nw_s8 C
section
variable {ak ax ay an : Nat → Int32} {kd xi yi : Nat → Nat}
theorem xl_46 {post : SX → Prop} {J : Int32 → (Nat → Int32) → (Nat → Int32) → (Nat → Int32) → (Nat → Int32) → (Nat → Int32) → (Nat → Int32) → (Nat → Int32) → (Nat → Int32) → Prop} {r : Nat} (A : nw_A kd xi yi ak ax ay)
    (HJ : ∀ it ma ux uy L C, nx_I kd xi yi an it ma ux uy L C → (nw_S kd xi yi L (nw_V it) C ∨ r + 1 ≤ nw_s8 C) → J (nI (r + 1)) ak ax ay an it ma ux uy) :
    ∀ d p n, p + d = 8 → d < n → ∀ it ma ux uy L C, nx_I kd xi yi an it ma ux uy L C → xl_Q kd xi yi it L C r p → wX_workOutStreams_46 post J (nI r) n (nI p) ak ax ay an it ma ux uy := by
  intro d
  induction d with
  | zero =>
    intro p n hp hn it ma ux uy L C I Q
    obtain ⟨n, rfl⟩ : ∃ m, n = m + 1 := ⟨n - 1, by omega⟩
    have hp8 : p = 8 := by omega
    subst hp8
    rw [wX_workOutStreams_46]
    refine br_t (by decide) (nm_r (nI_1 r) (HJ _ _ _ _ _ _ I ?_))
    rcases Q with h | h | h
    · exact Or.inl h
    · exact Or.inl h.1
    · exact Or.inr h
  | succ d ih =>
    intro p n hp hn it ma ux uy L C I Q
    obtain ⟨n, rfl⟩ : ∃ m, n = m + 1 := ⟨n - 1, by omega⟩
    rw [wX_workOutStreams_46]
    refine pk_le 8 p (fun h => by omega) (fun h => ?_)
    refine xs_step A I h ⟨fun ng => ?_, fun g it' ma' ux' uy' I' => ?_⟩
    · refine nm_r (nI_1 p) (ih (p + 1) n (by omega) (by omega) _ _ _ _ _ _ I ?_)
      rcases Q with h1 | h1 | h1
      · exact Or.inl h1
      · refine Or.inr (Or.inl ⟨fun q hq => ?_, h1.2⟩)
        by_cases e : q = p
        · subst e; exact ng
        · exact h1.1 q (by omega)
      · exact Or.inr (Or.inr h1)
    · refine nm_r (nI_1 p) (ih (p + 1) n (by omega) (by omega) _ _ _ _ _ _ I' ?_)
      have e := nw_s8u C (C p + 1) h
      rcases Q with h1 | h1 | h1
      · exact absurd g (h1 p h)
      · have := h1.2
        exact Or.inr (Or.inr (by omega))
      · exact Or.inr (Or.inr (by omega))
theorem xl_37 {post : SX → Prop} (A : nw_A kd xi yi ak ax ay)
    (HP : ∀ it ma ux uy L C, nx_I kd xi yi an it ma ux uy L C → nw_S kd xi yi L (nw_V it) C → post (ak, ax, ay, an, it, ma, ux, uy)) :
    ∀ d r n, r + d = 320 → d < n → ∀ it ma ux uy L C, nx_I kd xi yi an it ma ux uy L C → (nw_S kd xi yi L (nw_V it) C ∨ r ≤ nw_s8 C) → wX_workOutStreams_37 post n (nI r) ak ax ay an it ma ux uy := by
  intro d
  induction d with
  | zero =>
    intro r n hr hn it ma ux uy L C I Q
    obtain ⟨n, rfl⟩ : ∃ m, n = m + 1 := ⟨n - 1, by omega⟩
    have hr8 : r = 320 := by omega
    subst hr8
    rw [wX_workOutStreams_37]
    refine br_t (by decide) (HP _ _ _ _ _ _ I ?_)
    rcases Q with h | h
    · exact h
    · intro q hq g
      have := nw_s8_ge (fun q hq => nw_c40 I.1.1 hq) h hq
      have := g.1
      omega
  | succ d ih =>
    intro r n hr hn it ma ux uy L C I Q
    obtain ⟨n, rfl⟩ : ∃ m, n = m + 1 := ⟨n - 1, by omega⟩
    rw [wX_workOutStreams_37]
    refine pk_le 320 r (fun h => by omega) (fun h => ⟨9, ?_⟩)
    refine xl_46 A (fun it' ma' ux' uy' L' C' I' Q' => ih (r + 1) n (by omega) (by omega) _ _ _ _ _ _ I' Q') 8 0 9 rfl (by decide) _ _ _ _ _ _ I ?_
    rcases Q with h1 | h1
    · exact Or.inl h1
    · exact Or.inr (Or.inl ⟨fun q hq => absurd hq (Nat.not_lt_zero _), h1⟩)
theorem xl_2 {post : SX → Prop} (A : nw_A kd xi yi ak ax ay) {it : Nat → Int32}
    (HP : ∀ it ma ux uy L C, nx_I kd xi yi an it ma ux uy L C → nw_S kd xi yi L (nw_V it) C → post (ak, ax, ay, an, it, ma, ux, uy)) :
    ∀ d p n, p + d = 8 → d < n → ∀ ma ux uy : Nat → Int32, (∀ q, q < p → ma q = 0 ∧ ux q = 0 ∧ uy q = 0) → wX_workOutStreams_2 post n (nI p) ak ax ay an it ma ux uy := by
  intro d
  induction d with
  | zero =>
    intro p n hp hn ma ux uy Z
    obtain ⟨n, rfl⟩ : ∃ m, n = m + 1 := ⟨n - 1, by omega⟩
    have hp8 : p = 8 := by omega
    subst hp8
    rw [wX_workOutStreams_2]
    refine br_t (by decide) ⟨321, ?_⟩
    refine xl_37 A HP 320 0 321 rfl (by decide) it ma ux uy (fun _ => 0) (fun _ => 0) ⟨nw_0, fun q hq => ?_, fun q hq _ => ?_, fun q hq _ => ⟨?_, ?_⟩⟩ (Or.inr (Nat.zero_le _))
    · rw [(Z q hq).1]; rfl
    · rw [(Z q hq).2.1]; rfl
    · rw [(Z q hq).2.1]; rfl
    · rw [(Z q hq).2.2]; rfl
  | succ d ih =>
    intro p n hp hn ma ux uy Z
    obtain ⟨n, rfl⟩ : ∃ m, n = m + 1 := ⟨n - 1, by omega⟩
    rw [wX_workOutStreams_2]
    refine pk_le 8 p (fun h => by omega) (fun h => ?_)
    rw [xa_c8 h]
    refine ⟨xa_i8 h, nm_e ⟨xa_i8 h, nm_e ⟨xa_i8 h, nm_e (nm_r (nI_1 p) (ih (p + 1) n (by omega) (by omega) _ _ _ (fun q hq => ?_)))⟩⟩⟩
    by_cases e : q = p
    · subst e; exact ⟨pk_us, pk_us, pk_us⟩
    · rw [pk_un e, pk_un e, pk_un e]; exact Z q (by omega)
end
/-- the streams are worked out -/
def nd_D (kd xi yi : Nat → Nat) (nu it ln : Nat → Int32) : Prop := ∃ L C, nw_I kd xi yi nu L (nw_V it) C ∧ nw_S kd xi yi L (nw_V it) C ∧ ∀ q, q < 8 → ln q = nI (L q)
theorem xm_work {post : SX → Prop} {kd xi yi : Nat → Nat} {ak ax ay an it ma ux uy : Nat → Int32} (A : nw_A kd xi yi ak ax ay)
    (HP : ∀ it ma ux uy, nd_D kd xi yi an it ma → post (ak, ax, ay, an, it, ma, ux, uy)) : wpX_workOutStreams post (ak, ax, ay, an, it, ma, ux, uy) := by
  unfold wpX_workOutStreams
  exact ⟨9, xl_2 A (fun it ma ux uy L C I S => HP it ma ux uy ⟨L, C, I.1, S, I.2.1⟩) 8 0 9 rfl (by decide) ma ux uy (fun q hq => absurd hq (Nat.not_lt_zero _))⟩
