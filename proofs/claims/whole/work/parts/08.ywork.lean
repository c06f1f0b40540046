/-! the reference's working out -/
def yw_Q (kd xi yi : Nat → Nat) (it : Nat → Int32) (L C : Nat → Nat) (x : Int32) (r p : Nat) : Prop :=
  (x = 0 ∧ r ≤ nw_s8 L ∧ ∀ q, q < p → ¬ nw_g kd xi yi L (nw_V it) q (C q)) ∨ (x = 1 ∧ r + 1 ≤ nw_s8 L)
theorem nw_ueq (L : Nat → Nat) (p : Nat) : nw_u L p (L p) = L := by
  funext q
  by_cases e : q = p
  · subst e; exact nw_us
  · exact nw_un e
section
variable {ak ax ay an : Nat → Int32} {kd xi yi : Nat → Nat} {f : Int32}
theorem yw_one (N : nw_N kd xi yi) {it ln it' : Nat → Int32} {L C : Nat → Nat} {p c : Nat} (hp : p < 8) (I : nw_I kd xi yi an L (nw_V it) C) (W : ny_W kd xi yi an L it p c it') (ng : ¬ nw_g kd xi yi L (nw_V it) p c) :
    nw_Le L (nw_V it) (nw_u L p (nw_pos kd xi (nw_V it) p c)) (nw_V it') ∧ nw_I kd xi yi an (nw_u L p (nw_pos kd xi (nw_V it) p c)) (nw_V it') (nw_u C p c) := by
  refine nw_adv N I hp ?_ W.1 (fun q hq e i hi => W.2.2 q hq i (Nat.lt_of_lt_of_le hi (nw_l40 I.1 hq)) (Or.inl e)) W.2.1
  apply Nat.le_of_not_lt
  intro h
  exact ng ((I.1 p hp).2 c h).1
theorem yl_53 {post : SY → Prop} {J : Int32 → Int32 → Int32 → (Nat → Int32) → (Nat → Int32) → (Nat → Int32) → (Nat → Int32) → (Nat → Int32) → (Nat → Int32) → Prop} {r : Nat} (A : nw_A kd xi yi ak ax ay)
    (HJ : ∀ x it ln L C, nw_I kd xi yi an L (nw_V it) C → (∀ q, q < 8 → ln q = nI (L q)) → ((x = 0 ∧ nw_S kd xi yi L (nw_V it) C) ∨ (x = 1 ∧ r + 1 ≤ nw_s8 L)) → J x (nI (r + 1)) f ak ax ay an it ln) :
    ∀ d p n, p + d = 8 → d < n → ∀ x it ln L C, nw_I kd xi yi an L (nw_V it) C → (∀ q, q < 8 → ln q = nI (L q)) → yw_Q kd xi yi it L C x r p → wY_workOut_53 post J (nI r) n x (nI p) f ak ax ay an it ln := by
  intro d
  induction d with
  | zero =>
    intro p n hp hn x it ln L C I hl Q
    obtain ⟨n, rfl⟩ : ∃ m, n = m + 1 := ⟨n - 1, by omega⟩
    have hp8 : p = 8 := by omega
    subst hp8
    rw [wY_workOut_53]
    refine br_t (by decide) (nm_r (nI_1 r) (HJ _ _ _ _ _ I hl ?_))
    rcases Q with h | h
    · exact Or.inl ⟨h.1, h.2.2⟩
    · exact Or.inr h
  | succ d ih =>
    intro p n hp hn x it ln L C I hl Q
    obtain ⟨n, rfl⟩ : ∃ m, n = m + 1 := ⟨n - 1, by omega⟩
    rw [wY_workOut_53]
    refine pk_le 8 p (fun h => by omega) (fun h => ?_)
    refine ys_stream A I.1 hl h (fun it' c W ng => ?_)
    have N := nw_AN A
    obtain ⟨le, I'⟩ := yw_one (ln := ln) N h I W ng
    have l40 := nw_l40 I'.1 h
    have ll := (le p h).1
    have l0 := nw_l40 I.1 h
    rw [nw_us] at l40 ll
    dsimp only
    rw [xa_c8 h, hl p h]
    refine ⟨xa_i8 h, pk_eq (nw_pos kd xi (nw_V it) p c) (L p) (fun e => ?_) (fun e => ⟨xa_i8 h, ?_⟩)⟩
    · rw [e, nw_ueq] at le I'
      refine nm_r (nI_1 p) (ih (p + 1) n (by omega) (by omega) x it' ln L (nw_u C p c) I' hl ?_)
      rcases Q with ⟨h1, h2, h3⟩ | h1
      · refine Or.inl ⟨h1, h2, fun q hq g => ?_⟩
        have hq8 : q < 8 := by omega
        have le' : nw_Le L (nw_V it') L (nw_V it) := fun q hq => ⟨Nat.le_refl _, fun i hi => ((le q hq).2 i hi).symm⟩
        have l1 := ((nw_loc (nu := an) N le' hq8 (fun c' h' => ((I'.1 q hq8).2 c' h').1)).2.2 g).1
        by_cases e1 : q = p
        · subst e1
          rw [nw_us] at l1
          exact ng l1
        · rw [nw_un e1] at l1
          exact h3 q (by omega) l1
      · exact Or.inr h1
    · refine nm_e (nm_r (nI_1 p) (ih (p + 1) n (by omega) (by omega) 1 it' _ _ _ I' (fun q hq => ?_) ?_))
      · by_cases e1 : q = p
        · subst e1; rw [pk_us, nw_us]
        · rw [pk_un e1, nw_un e1]; exact hl q hq
      · have e2 := nw_s8u L (nw_pos kd xi (nw_V it) p c) h
        refine Or.inr ⟨rfl, ?_⟩
        rcases Q with ⟨h1, h2, h3⟩ | ⟨h1, h2⟩ <;> omega
theorem yl_38 {post : SY → Prop} (A : nw_A kd xi yi ak ax ay) (HP : ∀ it ln, nd_D kd xi yi an it ln → post (f, ak, ax, ay, an, it, ln)) :
    ∀ d r n, r + d = 321 → d < n → ∀ x it ln L C, nw_I kd xi yi an L (nw_V it) C → (∀ q, q < 8 → ln q = nI (L q)) → ((x = 0 ∧ nw_S kd xi yi L (nw_V it) C) ∨ (x = 1 ∧ r ≤ nw_s8 L)) → wY_workOut_38 post n x (nI r) f ak ax ay an it ln := by
  intro d
  induction d with
  | zero =>
    intro r n hr hn x it ln L C I hl Q
    obtain ⟨n, rfl⟩ : ∃ m, n = m + 1 := ⟨n - 1, by omega⟩
    rw [wY_workOut_38]
    rcases Q with h | h
    · exact pk_le 321 r (fun _ => HP _ _ ⟨L, C, I, h.2, hl⟩) (fun _ => br_t h.1 (HP _ _ ⟨L, C, I, h.2, hl⟩))
    · have := nw_s8_le (fun q hq => nw_l40 I.1 (q := q) hq)
      have := h.2
      exact absurd this (by omega)
  | succ d ih =>
    intro r n hr hn x it ln L C I hl Q
    obtain ⟨n, rfl⟩ : ∃ m, n = m + 1 := ⟨n - 1, by omega⟩
    rw [wY_workOut_38]
    refine pk_le 321 r (fun h => by omega) (fun h => ?_)
    rcases Q with h1 | h1
    · exact br_t h1.1 (HP _ _ ⟨L, C, I, h1.2, hl⟩)
    · refine br_f (by rw [h1.1]; decide) ⟨9, ?_⟩
      refine yl_53 A (fun x' it' ln' L' C' I' hl' Q' => ih (r + 1) n (by omega) (by omega) x' it' ln' L' C' I' hl' Q') 8 0 9 rfl (by decide) 0 it ln L C I hl (Or.inl ⟨rfl, h1.2, fun q hq => absurd hq (Nat.not_lt_zero _)⟩)
theorem yl_15 {post : SY → Prop} (A : nw_A kd xi yi ak ax ay) (HP : ∀ it ln, nd_D kd xi yi an it ln → post (f, ak, ax, ay, an, it, ln)) {it : Nat → Int32} :
    ∀ d p n, p + d = 8 → d < n → ∀ ln : Nat → Int32, (∀ q, q < p → ln q = 0) → wY_workOut_15 post f n (nI p) ak ax ay an it ln := by
  intro d
  induction d with
  | zero =>
    intro p n hp hn ln Z
    obtain ⟨n, rfl⟩ : ∃ m, n = m + 1 := ⟨n - 1, by omega⟩
    have hp8 : p = 8 := by omega
    subst hp8
    rw [wY_workOut_15]
    refine br_t (by decide) ⟨322, ?_⟩
    exact yl_38 A HP 321 0 322 rfl (by decide) 1 it ln (fun _ => 0) (fun _ => 0) nw_0 (fun q hq => by rw [Z q hq]; rfl) (Or.inr ⟨rfl, Nat.zero_le _⟩)
  | succ d ih =>
    intro p n hp hn ln Z
    obtain ⟨n, rfl⟩ : ∃ m, n = m + 1 := ⟨n - 1, by omega⟩
    rw [wY_workOut_15]
    refine pk_le 8 p (fun h => by omega) (fun h => ?_)
    rw [xa_c8 h]
    refine ⟨xa_i8 h, nm_e (nm_r (nI_1 p) (ih (p + 1) n (by omega) (by omega) _ (fun q hq => ?_)))⟩
    by_cases e : q = p
    · subst e; exact pk_us
    · rw [pk_un e]; exact Z q (by omega)
theorem ym_work {post : SY → Prop} {it ln : Nat → Int32} (A : nw_A kd xi yi ak ax ay) (hf : f ≠ 0 → nd_D kd xi yi an it ln)
    (HP : ∀ f' it' ln', f' ≠ 0 → nd_D kd xi yi an it' ln' → post (f', ak, ax, ay, an, it', ln')) : wpY_workOut post (f, ak, ax, ay, an, it, ln) := by
  unfold wpY_workOut
  refine br_c (fun _ => ⟨9, ?_⟩) (fun h => HP f it ln h (hf h))
  exact yl_15 A (fun it' ln' D => HP 1 it' ln' (by decide) D) 8 0 9 rfl (by decide) ln (fun q hq => absurd hq (Nat.not_lt_zero _))
end
theorem nd_eq {kd xi yi : Nat → Nat} {an it ma it' ln : Nat → Int32} (D : nd_D kd xi yi an it ma) (D' : nd_D kd xi yi an it' ln) {q : Nat} (hq : q < 8) :
    ∃ l, l ≤ 40 ∧ ma q = nI l ∧ ln q = nI l ∧ ∀ i, i < l → it (q * 40 + i) = it' (q * 40 + i) := by
  obtain ⟨L, C, I, S, hl⟩ := D
  obtain ⟨L', C', I', S', hl'⟩ := D'
  have u := nw_uni I S I' S' hq
  exact ⟨L q, nw_l40 I.1 hq, hl q hq, by rw [u.1]; exact hl' q hq, u.2⟩
