/-! the network: lengths L, contents V, steps done C; the least fixed point by 'below every fixed point' -/
def nw_u (f : Nat → Nat) (p v : Nat) : Nat → Nat := fun q => if q = p then v else f q
theorem nw_us {f : Nat → Nat} {p v : Nat} : nw_u f p v p = v := if_pos rfl
theorem nw_un {f : Nat → Nat} {p v q : Nat} (h : q ≠ p) : nw_u f p v q = f q := if_neg h
def nw_g (kd xi yi : Nat → Nat) (L : Nat → Nat) (V : Nat → Nat → Int32) (q c : Nat) : Prop := pn_g (kd q) (V (xi q)) (V (yi q)) (L (xi q)) (L (yi q)) c
def nw_pos (kd xi : Nat → Nat) (V : Nat → Nat → Int32) (q c : Nat) : Nat := pn_pos (kd q) (V (xi q)) c
def nw_em (kd xi : Nat → Nat) (V : Nat → Nat → Int32) (q c : Nat) : Prop := pn_em (kd q) (V (xi q)) c
def nw_val (kd xi yi : Nat → Nat) (nu : Nat → Int32) (V : Nat → Nat → Int32) (q c : Nat) : Int32 := pn_val (kd q) (nu q) (V (xi q)) (V (yi q)) c
def nw_mi (xi yi : Nat → Nat) (V : Nat → Nat → Int32) (q c : Nat) : Nat := pn_mi (V (xi q)) (V (yi q)) c
def nw_N (kd xi yi : Nat → Nat) : Prop := ∀ q, q < 8 → kd q < 8 ∧ xi q < 8 ∧ yi q < 8
def nw_B (kd xi yi : Nat → Nat) (nu : Nat → Int32) (L : Nat → Nat) (V : Nat → Nat → Int32) (C : Nat → Nat) : Prop :=
  ∀ q, q < 8 → L q = nw_pos kd xi V q (C q) ∧ ∀ c, c < C q → nw_g kd xi yi L V q c ∧ (nw_em kd xi V q c → V q (nw_pos kd xi V q c) = nw_val kd xi yi nu V q c)
def nw_S (kd xi yi : Nat → Nat) (L : Nat → Nat) (V : Nat → Nat → Int32) (C : Nat → Nat) : Prop := ∀ q, q < 8 → ¬ nw_g kd xi yi L V q (C q)
def nw_Le (L : Nat → Nat) (V : Nat → Nat → Int32) (L' : Nat → Nat) (V' : Nat → Nat → Int32) : Prop := ∀ q, q < 8 → L q ≤ L' q ∧ ∀ i, i < L q → V q i = V' q i
def nw_I (kd xi yi : Nat → Nat) (nu : Nat → Int32) (L : Nat → Nat) (V : Nat → Nat → Int32) (C : Nat → Nat) : Prop :=
  nw_B kd xi yi nu L V C ∧ ∀ L' V' C', nw_B kd xi yi nu L' V' C' → nw_S kd xi yi L' V' C' → (∀ q, q < 8 → C q ≤ C' q) ∧ nw_Le L V L' V'
section
variable {kd xi yi : Nat → Nat} {nu : Nat → Int32} {L : Nat → Nat} {V : Nat → Nat → Int32} {C : Nat → Nat}
theorem nw_loc (N : nw_N kd xi yi) {L' : Nat → Nat} {V' : Nat → Nat → Int32} (le : nw_Le L V L' V') {q c : Nat} (hq : q < 8) (hg : ∀ c', c' < c → nw_g kd xi yi L V q c') :
    nw_pos kd xi V q c = nw_pos kd xi V' q c ∧ (kd q = 6 → nw_mi xi yi V q c = nw_mi xi yi V' q c) ∧ (nw_g kd xi yi L V q c → nw_g kd xi yi L' V' q c ∧ nw_val kd xi yi nu V q c = nw_val kd xi yi nu V' q c ∧ (nw_em kd xi V q c ↔ nw_em kd xi V' q c)) :=
  pn_loc (nu q) (le _ (N q hq).2.1).2 (le _ (N q hq).2.2).2 (le _ (N q hq).2.1).1 (le _ (N q hq).2.2).1 c hg
theorem nw_c40 (B : nw_B kd xi yi nu L V C) {q : Nat} (hq : q < 8) : C q ≤ 40 := by
  apply Nat.le_of_not_lt
  intro h
  exact absurd ((B q hq).2 40 h).1.1 (by decide)
theorem nw_l40 (B : nw_B kd xi yi nu L V C) {q : Nat} (hq : q < 8) : L q ≤ 40 := by
  rw [(B q hq).1]
  exact Nat.le_trans (pn_pos_le _ _ _) (nw_c40 B hq)
theorem nw_0 : nw_I kd xi yi nu (fun _ => 0) V (fun _ => 0) := by
  refine ⟨fun q _ => ⟨(pn_pos_0 _ _).symm, fun c h => absurd h (Nat.not_lt_zero _)⟩, fun L' V' C' _ _ => ⟨fun q _ => Nat.zero_le _, fun q _ => ⟨Nat.zero_le _, fun i h => absurd h (Nat.not_lt_zero _)⟩⟩⟩
/-- the one step: process p goes on to c steps, its array slice holding what these steps give -/
theorem nw_adv (N : nw_N kd xi yi) (I : nw_I kd xi yi nu L V C) {p c : Nat} (hp : p < 8) (hc : C p ≤ c) (hg : ∀ d, d < c → nw_g kd xi yi L V p d) {V' : Nat → Nat → Int32}
    (hf : ∀ q, q < 8 → q ≠ p → ∀ i, i < L q → V' q i = V q i) (hw : ∀ d, d < c → nw_em kd xi V p d → V' p (nw_pos kd xi V p d) = nw_val kd xi yi nu V p d) :
    nw_Le L V (nw_u L p (nw_pos kd xi V p c)) V' ∧ nw_I kd xi yi nu (nw_u L p (nw_pos kd xi V p c)) V' (nw_u C p c) := by
  obtain ⟨B, F⟩ := I
  have le : nw_Le L V (nw_u L p (nw_pos kd xi V p c)) V' := by
    intro q hq
    by_cases e : q = p
    · subst e
      rw [nw_us, (B q hq).1]
      refine ⟨pn_pos_mono _ _ hc, fun i hi => ?_⟩
      obtain ⟨d, h1, h2, h3⟩ := pn_pos_ex hi
      have e1 := ((B q hq).2 d h1).2 h3
      have e2 := hw d (by omega) h3
      have h2' : nw_pos kd xi V q d = i := h2
      rw [h2'] at e1 e2
      rw [e1, e2]
    · rw [nw_un e]
      exact ⟨Nat.le_refl _, fun i hi => (hf q hq e i hi).symm⟩
  refine ⟨le, ?_, ?_⟩
  · intro q hq
    by_cases e : q = p
    · subst e
      rw [nw_us, nw_us]
      have l0 := nw_loc (nu := nu) N le hq hg
      refine ⟨l0.1, fun d hd => ?_⟩
      have l1 := nw_loc (nu := nu) (c := d) N le hq (fun c' h => hg c' (by omega))
      obtain ⟨g', v', m'⟩ := l1.2.2 (hg d hd)
      refine ⟨g', fun hm => ?_⟩
      rw [← l1.1, ← v']
      exact hw d hd (m'.mpr hm)
    · rw [nw_un e, nw_un e]
      have gq : ∀ d, d < C q → nw_g kd xi yi L V q d := fun d hd => ((B q hq).2 d hd).1
      have l0 := nw_loc (nu := nu) N le hq gq
      refine ⟨(B q hq).1.trans l0.1, fun d hd => ?_⟩
      have l1 := nw_loc (nu := nu) (c := d) N le hq (fun c' h => gq c' (by omega))
      obtain ⟨g', v', m'⟩ := l1.2.2 (gq d hd)
      refine ⟨g', fun hm => ?_⟩
      have hm0 := m'.mpr hm
      rw [← l1.1, ← v', ← ((B q hq).2 d hd).2 hm0]
      refine hf q hq e _ ?_
      rw [(B q hq).1]
      exact pn_pos_lt hm0 hd
  · intro L' V'' C' B' S'
    obtain ⟨fc, fl⟩ := F L' V'' C' B' S'
    have lp := fun d (h : d ≤ c) => nw_loc (nu := nu) (c := d) N fl hp (fun c' h' => hg c' (by omega))
    have hcp : c ≤ C' p := by
      apply Nat.le_of_not_lt
      intro h
      exact S' p hp ((lp (C' p) (by omega)).2.2 (hg _ h)).1
    refine ⟨fun q hq => ?_, fun q hq => ?_⟩
    · by_cases e : q = p
      · subst e; rw [nw_us]; exact hcp
      · rw [nw_un e]; exact fc q hq
    · by_cases e : q = p
      · subst e
        rw [nw_us]
        refine ⟨?_, fun i hi => ?_⟩
        · rw [(lp c (Nat.le_refl _)).1, (B' q hq).1]
          exact pn_pos_mono _ _ hcp
        · obtain ⟨d, h1, h2, h3⟩ := pn_pos_ex hi
          have h2' : nw_pos kd xi V q d = i := h2
          obtain ⟨g', v', m'⟩ := (lp d (by omega)).2.2 (hg d h1)
          have e1 := ((B' q hq).2 d (by omega)).2 (m'.mp h3)
          have e2 := hw d h1 h3
          rw [← (lp d (by omega)).1, ← v', h2'] at e1
          rw [h2'] at e2
          rw [e1, e2]
      · rw [nw_un e]
        exact ⟨(fl q hq).1, fun i hi => (hf q hq e i hi).trans ((fl q hq).2 i hi)⟩
theorem nw_uni (I : nw_I kd xi yi nu L V C) (S : nw_S kd xi yi L V C) {L' : Nat → Nat} {V' : Nat → Nat → Int32} {C' : Nat → Nat} (I' : nw_I kd xi yi nu L' V' C') (S' : nw_S kd xi yi L' V' C') {q : Nat} (hq : q < 8) :
    L q = L' q ∧ ∀ i, i < L q → V q i = V' q i := by
  have a := (I.2 L' V' C' I'.1 S').2 q hq
  have b := (I'.2 L V C I.1 S).2 q hq
  exact ⟨Nat.le_antisymm a.1 b.1, a.2⟩
end
def nw_s8 (f : Nat → Nat) : Nat := f 0 + f 1 + f 2 + f 3 + f 4 + f 5 + f 6 + f 7
theorem nw_8 {p : Nat} (h : p < 8) : p = 0 ∨ p = 1 ∨ p = 2 ∨ p = 3 ∨ p = 4 ∨ p = 5 ∨ p = 6 ∨ p = 7 := by omega
theorem nw_s8u (f : Nat → Nat) {p : Nat} (v : Nat) (h : p < 8) : nw_s8 (nw_u f p v) + f p = nw_s8 f + v := by
  rcases nw_8 h with e | e | e | e | e | e | e | e <;> subst e <;> simp only [nw_s8, nw_u] <;> simp <;> omega
theorem nw_s8_le {f : Nat → Nat} (h : ∀ q, q < 8 → f q ≤ 40) : nw_s8 f ≤ 320 := by
  have h0 := h 0 (by decide); have h1 := h 1 (by decide); have h2 := h 2 (by decide); have h3 := h 3 (by decide)
  have h4 := h 4 (by decide); have h5 := h 5 (by decide); have h6 := h 6 (by decide); have h7 := h 7 (by decide)
  unfold nw_s8
  omega
theorem nw_s8_ge {f : Nat → Nat} (h : ∀ q, q < 8 → f q ≤ 40) (hs : 320 ≤ nw_s8 f) {q : Nat} (hq : q < 8) : 40 ≤ f q := by
  have h0 := h 0 (by decide); have h1 := h 1 (by decide); have h2 := h 2 (by decide); have h3 := h 3 (by decide)
  have h4 := h 4 (by decide); have h5 := h 5 (by decide); have h6 := h 6 (by decide); have h7 := h 7 (by decide)
  unfold nw_s8 at hs
  rcases nw_8 hq with e | e | e | e | e | e | e | e <;> subst e <;> omega
