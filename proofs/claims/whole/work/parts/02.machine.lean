/-! one process as a machine of steps: c counts its steps (ODD: items of x used; the others: items made) -/
def pn_mi (x y : Nat → Int32) : Nat → Nat
  | 0 => 0
  | c + 1 => if x (pn_mi x y c) ≤ y (c - pn_mi x y c) then pn_mi x y c + 1 else pn_mi x y c
def pn_ct (x : Nat → Int32) : Nat → Nat
  | 0 => 0
  | c + 1 => if x c &&& 1 = 1 then pn_ct x c + 1 else pn_ct x c
def pn_sm (x : Nat → Int32) : Nat → Int32
  | 0 => 0
  | c + 1 => pn_sm x c + x c
def pn_pos (k : Nat) (x : Nat → Int32) (c : Nat) : Nat := if k = 4 then pn_ct x c else c
def pn_em (k : Nat) (x : Nat → Int32) (c : Nat) : Prop := k = 4 → x c &&& 1 = 1
def pn_val (k : Nat) (a : Int32) (x y : Nat → Int32) (c : Nat) : Int32 :=
  if k = 0 then a + nI c
  else if k = 1 then a * (2 * nI c + 1)
  else if k = 2 then x c + y c
  else if k = 3 then (if c % 2 = 0 then x (c / 2) else y (c / 2))
  else if k = 4 then x c
  else if k = 5 then (if c = 0 then a else x (c - 1))
  else if k = 6 then (if x (pn_mi x y c) ≤ y (c - pn_mi x y c) then x (pn_mi x y c) else y (c - pn_mi x y c))
  else if k = 7 then pn_sm x (c + 1)
  else 0
def pn_g (k : Nat) (x y : Nat → Int32) (lx ly c : Nat) : Prop :=
  c < 40 ∧ (k = 1 → c < 5) ∧ (k = 2 → c < lx ∧ c < ly) ∧ (k = 3 → c / 2 < if c % 2 = 0 then lx else ly) ∧ (k = 4 → c < lx) ∧ (k = 5 → c ≤ lx) ∧ (k = 6 → pn_mi x y c < lx ∧ c - pn_mi x y c < ly) ∧ (k = 7 → c < lx)
theorem pn_mi_le (x y : Nat → Int32) : ∀ c, pn_mi x y c ≤ c
  | 0 => Nat.le_refl _
  | c + 1 => by
    have := pn_mi_le x y c
    rw [pn_mi]
    split <;> omega
theorem pn_ct_le (x : Nat → Int32) : ∀ c, pn_ct x c ≤ c
  | 0 => Nat.le_refl _
  | c + 1 => by
    have := pn_ct_le x c
    rw [pn_ct]
    split <;> omega
theorem pn_ct_mono (x : Nat → Int32) (c : Nat) : ∀ d, pn_ct x c ≤ pn_ct x (c + d)
  | 0 => Nat.le_refl _
  | d + 1 => by
    have := pn_ct_mono x c d
    rw [← Nat.add_assoc, pn_ct]
    split <;> omega
theorem pn_ct_ex (x : Nat → Int32) (i : Nat) : ∀ c, i < pn_ct x c → ∃ c', c' < c ∧ pn_ct x c' = i ∧ x c' &&& 1 = 1
  | 0 => fun h => absurd h (Nat.not_lt_zero _)
  | c + 1 => by
    intro h
    rw [pn_ct] at h
    split at h
    · rename_i ho
      by_cases hi : i < pn_ct x c
      · obtain ⟨c', h1, h2⟩ := pn_ct_ex x i c hi
        exact ⟨c', by omega, h2⟩
      · exact ⟨c, by omega, by omega, ho⟩
    · obtain ⟨c', h1, h2⟩ := pn_ct_ex x i c h
      exact ⟨c', by omega, h2⟩
theorem pn_ct_eq {x x' : Nat → Int32} {l : Nat} (ax : ∀ i, i < l → x i = x' i) : ∀ c, (∀ c', c' < c → c' < l) → pn_ct x c = pn_ct x' c
  | 0 => fun _ => rfl
  | c + 1 => by
    intro h
    rw [pn_ct, pn_ct, pn_ct_eq ax c (fun c' hc => h c' (by omega)), ax c (h c (by omega))]
theorem pn_sm_eq {x x' : Nat → Int32} {l : Nat} (ax : ∀ i, i < l → x i = x' i) : ∀ c, (∀ c', c' < c → c' < l) → pn_sm x c = pn_sm x' c
  | 0 => fun _ => rfl
  | c + 1 => by
    intro h
    rw [pn_sm, pn_sm, pn_sm_eq ax c (fun c' hc => h c' (by omega)), ax c (h c (by omega))]
theorem pn_mi_eq {x y x' y' : Nat → Int32} {lx ly : Nat} (ax : ∀ i, i < lx → x i = x' i) (ay : ∀ i, i < ly → y i = y' i) : ∀ c, (∀ c', c' < c → pn_mi x y c' < lx ∧ c' - pn_mi x y c' < ly) → pn_mi x y c = pn_mi x' y' c
  | 0 => fun _ => rfl
  | c + 1 => by
    intro h
    have e := pn_mi_eq ax ay c (fun c' hc => h c' (by omega))
    have hc := h c (by omega)
    rw [pn_mi, pn_mi, ← e, ax _ hc.1, ay _ hc.2]
theorem pn_pos_le (k : Nat) (x : Nat → Int32) (c : Nat) : pn_pos k x c ≤ c := by
  unfold pn_pos
  split
  · exact pn_ct_le x c
  · exact Nat.le_refl _
theorem pn_pos_mono (k : Nat) (x : Nat → Int32) {c d : Nat} (h : c ≤ d) : pn_pos k x c ≤ pn_pos k x d := by
  unfold pn_pos
  split
  · have := pn_ct_mono x c (d - c)
    rwa [Nat.add_sub_cancel' h] at this
  · exact h
theorem pn_pos_0 (k : Nat) (x : Nat → Int32) : pn_pos k x 0 = 0 := Nat.le_zero.mp (pn_pos_le k x 0)
theorem pn_pos_n {k : Nat} (h : k ≠ 4) (x : Nat → Int32) (c : Nat) : pn_pos k x c = c := if_neg h
theorem pn_pos_s {k : Nat} {x : Nat → Int32} {c : Nat} (h : pn_em k x c) : pn_pos k x (c + 1) = pn_pos k x c + 1 := by
  unfold pn_pos
  split
  · rename_i h4
    rw [pn_ct, if_pos (h h4)]
  · rfl
theorem pn_pos_ns {k : Nat} {x : Nat → Int32} {c : Nat} (h : ¬ pn_em k x c) : pn_pos k x (c + 1) = pn_pos k x c := by
  unfold pn_pos
  split
  · rename_i h4
    rw [pn_ct, if_neg (fun z => h (fun _ => z))]
  · rename_i h4
    exact absurd (fun z => absurd z h4) h
theorem pn_pos_lt {k : Nat} {x : Nat → Int32} {c d : Nat} (h : pn_em k x c) (hd : c < d) : pn_pos k x c < pn_pos k x d := by
  have := pn_pos_mono k x (c := c + 1) (d := d) hd
  rw [pn_pos_s h] at this
  exact this
theorem pn_pos_ex {k : Nat} {x : Nat → Int32} {c i : Nat} (h : i < pn_pos k x c) : ∃ c', c' < c ∧ pn_pos k x c' = i ∧ pn_em k x c' := by
  unfold pn_pos at h ⊢
  split at h
  · rename_i h4
    obtain ⟨c', h1, h2, h3⟩ := pn_ct_ex x i c h
    exact ⟨c', h1, by rw [if_pos h4]; exact h2, fun _ => h3⟩
  · rename_i h4
    exact ⟨i, h, if_neg h4, fun z => absurd z h4⟩
theorem pn_loc {k : Nat} (a : Int32) {x y x' y' : Nat → Int32} {lx ly lx' ly' : Nat} (ax : ∀ i, i < lx → x i = x' i) (ay : ∀ i, i < ly → y i = y' i) (hx : lx ≤ lx') (hy : ly ≤ ly') (c : Nat) (hg : ∀ c', c' < c → pn_g k x y lx ly c') : pn_pos k x c = pn_pos k x' c ∧ (k = 6 → pn_mi x y c = pn_mi x' y' c) ∧ (pn_g k x y lx ly c → pn_g k x' y' lx' ly' c ∧ pn_val k a x y c = pn_val k a x' y' c ∧ (pn_em k x c ↔ pn_em k x' c)) := by
  have P : pn_pos k x c = pn_pos k x' c := by
    unfold pn_pos
    split
    · rename_i h4
      exact pn_ct_eq ax c (fun c' h => (hg c' h).2.2.2.2.1 h4)
    · rfl
  have M : k = 6 → pn_mi x y c = pn_mi x' y' c := fun h6 => pn_mi_eq ax ay c (fun c' h => (hg c' h).2.2.2.2.2.2.1 h6)
  refine ⟨P, M, fun g0 => ?_⟩
  have S : k = 7 → pn_sm x (c + 1) = pn_sm x' (c + 1) := by
    intro h7
    refine pn_sm_eq ax (c + 1) (fun c' h => ?_)
    have := g0.2.2.2.2.2.2.2 h7
    omega
  obtain ⟨g40, g1, g2, g3, g4, g5, g6, g7⟩ := g0
  refine ⟨⟨g40, g1, fun h => ⟨Nat.lt_of_lt_of_le (g2 h).1 hx, Nat.lt_of_lt_of_le (g2 h).2 hy⟩, ?_, fun h => Nat.lt_of_lt_of_le (g4 h) hx, fun h => Nat.le_trans (g5 h) hx, ?_, fun h => Nat.lt_of_lt_of_le (g7 h) hx⟩, ?_, ?_⟩
  · intro h
    have := g3 h
    split at this <;> rename_i he
    · rw [if_pos he]; omega
    · rw [if_neg he]; omega
  · intro h
    rw [← M h]
    exact ⟨Nat.lt_of_lt_of_le (g6 h).1 hx, Nat.lt_of_lt_of_le (g6 h).2 hy⟩
  · unfold pn_val
    split
    · rfl
    split
    · rfl
    split
    · rename_i h
      rw [ax _ (g2 h).1, ay _ (g2 h).2]
    split
    · rename_i h
      have := g3 h
      split <;> rename_i he
      · rw [if_pos he] at this; exact ax _ this
      · rw [if_neg he] at this; exact ay _ this
    split
    · rename_i h
      exact ax _ (g4 h)
    split
    · rename_i h
      split
      · rfl
      · exact ax _ (by have := g5 h; omega)
    split
    · rename_i h
      rw [← M h, ax _ (g6 h).1, ay _ (g6 h).2]
    split
    · rename_i h
      exact S h
    · rfl
  · unfold pn_em
    constructor
    · intro h h4
      rw [← ax _ (g4 h4)]; exact h h4
    · intro h h4
      rw [ax _ (g4 h4)]; exact h h4
