section
theorem pk_us {f : Nat → Int32} {k : Nat} {x : Int32} : upd f k x k = x := if_pos rfl
theorem pk_un {f : Nat → Int32} {k j : Nat} {x : Int32} (h : j ≠ k) : upd f k x j = f j := if_neg h
theorem pk_sub {a b : Nat} (h : b ≤ a) : nI a - nI b = nI (a - b) := by
  obtain ⟨c, rfl⟩ : ∃ c, a = c + b := ⟨a - b, by omega⟩
  rw [← nI_add, Int32.add_sub_cancel, Nat.add_sub_cancel]
theorem pk_m1 (n : Nat) : nI (n + 1) + (-1) = nI n := by
  rw [← nI_1, Int32.add_assoc, show (1 : Int32) + (-1) = 0 from rfl, Int32.add_zero]
theorem pk_mul (a b : Nat) : nI a * nI b = nI (a * b) := (Int32.ofNat_mul a b).symm
theorem pk_div {a d : Nat} (ha : a < 2 ^ 31) (h0 : 0 < d) (hd : d < 2 ^ 31) : nI a / nI d = nI (a / d) := by
  apply Int32.toInt_inj.mp
  rw [lg_idiv_nonneg (by rw [nI_toInt ha]; omega) (by rw [nI_toInt hd]; omega), nI_toInt ha, nI_toInt hd, nI_toInt (Nat.lt_of_le_of_lt (Nat.div_le_self a d) ha)]
  first | rfl | exact (Int.natCast_ediv _ _).symm
theorem pk_rem {a d : Nat} (ha : a < 2 ^ 31) (h0 : 0 < d) (hd : d < 2 ^ 31) : nI a - nI a / nI d * nI d = nI (a % d) := by
  rw [pk_div ha h0 hd, pk_mul, pk_sub (Nat.div_mul_le_self a d)]
  exact congrArg nI (by have := Nat.div_add_mod' a d; omega)
theorem pk_ix (x : Int32) {n : Nat} (hn : n < 2 ^ 31) : x < 0 ∨ nI n ≤ x ∨ ∃ j : Nat, j < n ∧ x = nI j := by
  by_cases h : x < 0
  · exact Or.inl h
  · obtain ⟨j, hj, rfl⟩ := nI_of h
    by_cases h2 : j < n
    · exact Or.inr (Or.inr ⟨j, h2, rfl⟩)
    · exact Or.inr (Or.inl (nI_le (by omega) hj))
theorem pk_le {x y : Int32} {A B : Prop} (a b : Nat) (f : a ≤ b → A) (g : b < a → B) (hx : x = nI a := by rfl) (hy : y = nI b := by rfl) (ha : a < 2 ^ 31 := by omega) (hb : b < 2 ^ 31 := by omega) : (x ≤ y → A) ∧ (¬ x ≤ y → B) := by
  subst hx hy
  rw [nI_leI ha hb]
  exact ⟨f, fun z => g (by omega)⟩
theorem pk_lt {x y : Int32} {A B : Prop} (a b : Nat) (f : a < b → A) (g : b ≤ a → B) (hx : x = nI a := by rfl) (hy : y = nI b := by rfl) (ha : a < 2 ^ 31 := by omega) (hb : b < 2 ^ 31 := by omega) : (x < y → A) ∧ (¬ x < y → B) := by
  subst hx hy
  rw [nI_ltI ha hb]
  exact ⟨f, fun z => g (by omega)⟩
theorem pk_eq {x y : Int32} {A B : Prop} (a b : Nat) (f : a = b → A) (g : a ≠ b → B) (hx : x = nI a := by rfl) (hy : y = nI b := by rfl) (ha : a < 2 ^ 31 := by omega) (hb : b < 2 ^ 31 := by omega) : (x = y → A) ∧ (¬ x = y → B) := by
  subst hx hy
  rw [nI_eq ha hb]
  exact ⟨f, g⟩
theorem pk_in {x : Int32} (n N : Nat) (h : n < N) (hx : x = nI n := by rfl) (hN : N < 2 ^ 31 := by omega) : vp_in x N := by
  subst hx
  exact vp_in_nI h hN
theorem pk_cl {x : Int32} (n : Nat) (hx : x = nI n := by rfl) (h : n < 2 ^ 31 := by omega) : x.toNatClampNeg = n := by
  subst hx
  exact nI_clamp h
theorem pk_tn {n : Nat} (h : n < 2 ^ 32) : (nI n).toBitVec.toNat = n := Nat.mod_eq_of_lt h
theorem pk_and (x : Int32) {m : Int32} (k : Nat) (hm : m.toBitVec.toNat = 2 ^ k - 1) : x &&& m = nI (x.toBitVec.toNat % 2 ^ k) := by
  apply Int32.toBitVec_inj.mp
  apply BitVec.eq_of_toNat_eq
  rw [Int32.toBitVec_and, BitVec.toNat_and, hm, Nat.and_two_pow_sub_one_eq_mod]
  show _ = (BitVec.ofNat 32 _).toNat
  rw [BitVec.toNat_ofNat]
  exact (Nat.mod_eq_of_lt (Nat.lt_of_le_of_lt (Nat.mod_le _ _) x.toBitVec.isLt)).symm
theorem pk_andN {n : Nat} (h : n < 2 ^ 32) {m : Int32} (k : Nat) (hm : m.toBitVec.toNat = 2 ^ k - 1) : nI n &&& m = nI (n % 2 ^ k) := by
  rw [pk_and _ k hm, pk_tn h]
theorem pk_andE (x : Int32) {m : Int32} (k : Nat) (hm : m.toBitVec.toNat = 2 ^ k - 1) : ∃ j : Nat, j < 2 ^ k ∧ x &&& m = nI j := ⟨_, Nat.mod_lt _ (Nat.two_pow_pos k), pk_and x k hm⟩
theorem pk_andIn (x : Int32) {m : Int32} (k : Nat) (hm : m.toBitVec.toNat = 2 ^ k - 1) (hk : k ≤ 30) : vp_in (x &&& m) (2 ^ k) := by
  obtain ⟨j, hj, e⟩ := pk_andE x k hm
  rw [e]
  exact vp_in_nI hj (Nat.lt_of_le_of_lt (Nat.pow_le_pow_right (by decide) hk) (by decide))
theorem xa_8 : nI 8 = 8 := by decide +kernel
theorem xa_40 : nI 40 = 40 := by decide +kernel
theorem xa_ix (p n : Nat) : nI p * 40 + nI n = nI (p * 40 + n) := by
  rw [← xa_40, pk_mul, nI_add]
theorem xa_ix0 (p : Nat) : nI p * 40 = nI (p * 40) := by
  rw [← xa_40, pk_mul]
theorem xa_half {n : Nat} (h : n < 2 ^ 31) : nI n / 2 = nI (n / 2) := pk_div h (by decide) (by decide)
theorem xa_par {n : Nat} (h : n < 2 ^ 31) : nI n - nI n / 2 * 2 = nI (n % 2) := pk_rem h (by decide) (by decide)
theorem xa_c {n : Nat} (h : n < 320) : (nI n).toNatClampNeg = n := nI_clamp (by omega)
theorem xa_c8 {n : Nat} (h : n < 8) : (nI n).toNatClampNeg = n := nI_clamp (by omega)
theorem xa_i8 {n : Nat} (h : n < 8) : vp_in (nI n) 8 := vp_in_nI h (by decide)
theorem xa_i320 {n : Nat} (h : n < 320) : vp_in (nI n) 320 := vp_in_nI h (by decide)
theorem xa_2 : ¬ (2 : Int32) = 0 := by decide
end
section
/-! one process as a machine of steps: c counts its steps (ODD: items of x used; the others: items made) -/
def pn_mi (x y : Nat → Int32) : Nat → Nat
  | 0 => 0
  | c + 1 => if x (pn_mi x y c) ≤ y (c - pn_mi x y c) then pn_mi x y c + 1 else pn_mi x y c
def pn_ct (x : Nat → Int32) : Nat → Nat
  | 0 => 0
  | c + 1 => if x c &&& 1 = 1 then pn_ct x c + 1 else pn_ct x c
def pn_sm (x : Nat → Int32) : Nat → Int32
  | 0 => 0
  | c + 1 => pn_sm x c + x c
def pn_pos (k : Nat) (x : Nat → Int32) (c : Nat) : Nat := if k = 4 then pn_ct x c else c
def pn_em (k : Nat) (x : Nat → Int32) (c : Nat) : Prop := k = 4 → x c &&& 1 = 1
def pn_val (k : Nat) (a : Int32) (x y : Nat → Int32) (c : Nat) : Int32 :=
  if k = 0 then a + nI c
  else if k = 1 then a * (2 * nI c + 1)
  else if k = 2 then x c + y c
  else if k = 3 then (if c % 2 = 0 then x (c / 2) else y (c / 2))
  else if k = 4 then x c
  else if k = 5 then (if c = 0 then a else x (c - 1))
  else if k = 6 then (if x (pn_mi x y c) ≤ y (c - pn_mi x y c) then x (pn_mi x y c) else y (c - pn_mi x y c))
  else if k = 7 then pn_sm x (c + 1)
  else 0
def pn_g (k : Nat) (x y : Nat → Int32) (lx ly c : Nat) : Prop :=
  c < 40 ∧ (k = 1 → c < 5) ∧ (k = 2 → c < lx ∧ c < ly) ∧ (k = 3 → c / 2 < if c % 2 = 0 then lx else ly) ∧ (k = 4 → c < lx) ∧ (k = 5 → c ≤ lx) ∧ (k = 6 → pn_mi x y c < lx ∧ c - pn_mi x y c < ly) ∧ (k = 7 → c < lx)
theorem pn_mi_le (x y : Nat → Int32) : ∀ c, pn_mi x y c ≤ c
  | 0 => Nat.le_refl _
  | c + 1 => by
    have := pn_mi_le x y c
    rw [pn_mi]
    split <;> omega
theorem pn_ct_le (x : Nat → Int32) : ∀ c, pn_ct x c ≤ c
  | 0 => Nat.le_refl _
  | c + 1 => by
    have := pn_ct_le x c
    rw [pn_ct]
    split <;> omega
theorem pn_ct_mono (x : Nat → Int32) (c : Nat) : ∀ d, pn_ct x c ≤ pn_ct x (c + d)
  | 0 => Nat.le_refl _
  | d + 1 => by
    have := pn_ct_mono x c d
    rw [← Nat.add_assoc, pn_ct]
    split <;> omega
theorem pn_ct_ex (x : Nat → Int32) (i : Nat) : ∀ c, i < pn_ct x c → ∃ c', c' < c ∧ pn_ct x c' = i ∧ x c' &&& 1 = 1
  | 0 => fun h => absurd h (Nat.not_lt_zero _)
  | c + 1 => by
    intro h
    rw [pn_ct] at h
    split at h
    · rename_i ho
      by_cases hi : i < pn_ct x c
      · obtain ⟨c', h1, h2⟩ := pn_ct_ex x i c hi
        exact ⟨c', by omega, h2⟩
      · exact ⟨c, by omega, by omega, ho⟩
    · obtain ⟨c', h1, h2⟩ := pn_ct_ex x i c h
      exact ⟨c', by omega, h2⟩
theorem pn_ct_eq {x x' : Nat → Int32} {l : Nat} (ax : ∀ i, i < l → x i = x' i) : ∀ c, (∀ c', c' < c → c' < l) → pn_ct x c = pn_ct x' c
  | 0 => fun _ => rfl
  | c + 1 => by
    intro h
    rw [pn_ct, pn_ct, pn_ct_eq ax c (fun c' hc => h c' (by omega)), ax c (h c (by omega))]
theorem pn_sm_eq {x x' : Nat → Int32} {l : Nat} (ax : ∀ i, i < l → x i = x' i) : ∀ c, (∀ c', c' < c → c' < l) → pn_sm x c = pn_sm x' c
  | 0 => fun _ => rfl
  | c + 1 => by
    intro h
    rw [pn_sm, pn_sm, pn_sm_eq ax c (fun c' hc => h c' (by omega)), ax c (h c (by omega))]
theorem pn_mi_eq {x y x' y' : Nat → Int32} {lx ly : Nat} (ax : ∀ i, i < lx → x i = x' i) (ay : ∀ i, i < ly → y i = y' i) : ∀ c, (∀ c', c' < c → pn_mi x y c' < lx ∧ c' - pn_mi x y c' < ly) → pn_mi x y c = pn_mi x' y' c
  | 0 => fun _ => rfl
  | c + 1 => by
    intro h
    have e := pn_mi_eq ax ay c (fun c' hc => h c' (by omega))
    have hc := h c (by omega)
    rw [pn_mi, pn_mi, ← e, ax _ hc.1, ay _ hc.2]
theorem pn_pos_le (k : Nat) (x : Nat → Int32) (c : Nat) : pn_pos k x c ≤ c := by
  unfold pn_pos
  split
  · exact pn_ct_le x c
  · exact Nat.le_refl _
theorem pn_pos_mono (k : Nat) (x : Nat → Int32) {c d : Nat} (h : c ≤ d) : pn_pos k x c ≤ pn_pos k x d := by
  unfold pn_pos
  split
  · have := pn_ct_mono x c (d - c)
    rwa [Nat.add_sub_cancel' h] at this
  · exact h
theorem pn_pos_0 (k : Nat) (x : Nat → Int32) : pn_pos k x 0 = 0 := Nat.le_zero.mp (pn_pos_le k x 0)
theorem pn_pos_n {k : Nat} (h : k ≠ 4) (x : Nat → Int32) (c : Nat) : pn_pos k x c = c := if_neg h
theorem pn_pos_s {k : Nat} {x : Nat → Int32} {c : Nat} (h : pn_em k x c) : pn_pos k x (c + 1) = pn_pos k x c + 1 := by
  unfold pn_pos
  split
  · rename_i h4
    rw [pn_ct, if_pos (h h4)]
  · rfl
theorem pn_pos_ns {k : Nat} {x : Nat → Int32} {c : Nat} (h : ¬ pn_em k x c) : pn_pos k x (c + 1) = pn_pos k x c := by
  unfold pn_pos
  split
  · rename_i h4
    rw [pn_ct, if_neg (fun z => h (fun _ => z))]
  · rename_i h4
    exact absurd (fun z => absurd z h4) h
theorem pn_pos_lt {k : Nat} {x : Nat → Int32} {c d : Nat} (h : pn_em k x c) (hd : c < d) : pn_pos k x c < pn_pos k x d := by
  have := pn_pos_mono k x (c := c + 1) (d := d) hd
  rw [pn_pos_s h] at this
  exact this
theorem pn_pos_ex {k : Nat} {x : Nat → Int32} {c i : Nat} (h : i < pn_pos k x c) : ∃ c', c' < c ∧ pn_pos k x c' = i ∧ pn_em k x c' := by
  unfold pn_pos at h ⊢
  split at h
  · rename_i h4
    obtain ⟨c', h1, h2, h3⟩ := pn_ct_ex x i c h
    exact ⟨c', h1, by rw [if_pos h4]; exact h2, fun _ => h3⟩
  · rename_i h4
    exact ⟨i, h, if_neg h4, fun z => absurd z h4⟩
theorem pn_loc {k : Nat} (a : Int32) {x y x' y' : Nat → Int32} {lx ly lx' ly' : Nat} (ax : ∀ i, i < lx → x i = x' i) (ay : ∀ i, i < ly → y i = y' i) (hx : lx ≤ lx') (hy : ly ≤ ly') (c : Nat) (hg : ∀ c', c' < c → pn_g k x y lx ly c') : pn_pos k x c = pn_pos k x' c ∧ (k = 6 → pn_mi x y c = pn_mi x' y' c) ∧ (pn_g k x y lx ly c → pn_g k x' y' lx' ly' c ∧ pn_val k a x y c = pn_val k a x' y' c ∧ (pn_em k x c ↔ pn_em k x' c)) := by
  have P : pn_pos k x c = pn_pos k x' c := by
    unfold pn_pos
    split
    · rename_i h4
      exact pn_ct_eq ax c (fun c' h => (hg c' h).2.2.2.2.1 h4)
    · rfl
  have M : k = 6 → pn_mi x y c = pn_mi x' y' c := fun h6 => pn_mi_eq ax ay c (fun c' h => (hg c' h).2.2.2.2.2.2.1 h6)
  refine ⟨P, M, fun g0 => ?_⟩
  have S : k = 7 → pn_sm x (c + 1) = pn_sm x' (c + 1) := by
    intro h7
    refine pn_sm_eq ax (c + 1) (fun c' h => ?_)
    have := g0.2.2.2.2.2.2.2 h7
    omega
  obtain ⟨g40, g1, g2, g3, g4, g5, g6, g7⟩ := g0
  refine ⟨⟨g40, g1, fun h => ⟨Nat.lt_of_lt_of_le (g2 h).1 hx, Nat.lt_of_lt_of_le (g2 h).2 hy⟩, ?_, fun h => Nat.lt_of_lt_of_le (g4 h) hx, fun h => Nat.le_trans (g5 h) hx, ?_, fun h => Nat.lt_of_lt_of_le (g7 h) hx⟩, ?_, ?_⟩
  · intro h
    have := g3 h
    split at this <;> rename_i he
    · rw [if_pos he]; omega
    · rw [if_neg he]; omega
  · intro h
    rw [← M h]
    exact ⟨Nat.lt_of_lt_of_le (g6 h).1 hx, Nat.lt_of_lt_of_le (g6 h).2 hy⟩
  · unfold pn_val
    split
    · rfl
    split
    · rfl
    split
    · rename_i h
      rw [ax _ (g2 h).1, ay _ (g2 h).2]
    split
    · rename_i h
      have := g3 h
      split <;> rename_i he
      · rw [if_pos he] at this; exact ax _ this
      · rw [if_neg he] at this; exact ay _ this
    split
    · rename_i h
      exact ax _ (g4 h)
    split
    · rename_i h
      split
      · rfl
      · exact ax _ (by have := g5 h; omega)
    split
    · rename_i h
      rw [← M h, ax _ (g6 h).1, ay _ (g6 h).2]
    split
    · rename_i h
      exact S h
    · rfl
  · unfold pn_em
    constructor
    · intro h h4
      rw [← ax _ (g4 h4)]; exact h h4
    · intro h h4
      rw [ax _ (g4 h4)]; exact h h4
end
section
/-! the network: lengths L, contents V, steps done C; the least fixed point by 'below every fixed point' -/
def nw_u (f : Nat → Nat) (p v : Nat) : Nat → Nat := fun q => if q = p then v else f q
theorem nw_us {f : Nat → Nat} {p v : Nat} : nw_u f p v p = v := if_pos rfl
theorem nw_un {f : Nat → Nat} {p v q : Nat} (h : q ≠ p) : nw_u f p v q = f q := if_neg h
def nw_g (kd xi yi : Nat → Nat) (L : Nat → Nat) (V : Nat → Nat → Int32) (q c : Nat) : Prop := pn_g (kd q) (V (xi q)) (V (yi q)) (L (xi q)) (L (yi q)) c
def nw_pos (kd xi : Nat → Nat) (V : Nat → Nat → Int32) (q c : Nat) : Nat := pn_pos (kd q) (V (xi q)) c
def nw_em (kd xi : Nat → Nat) (V : Nat → Nat → Int32) (q c : Nat) : Prop := pn_em (kd q) (V (xi q)) c
def nw_val (kd xi yi : Nat → Nat) (nu : Nat → Int32) (V : Nat → Nat → Int32) (q c : Nat) : Int32 := pn_val (kd q) (nu q) (V (xi q)) (V (yi q)) c
def nw_mi (xi yi : Nat → Nat) (V : Nat → Nat → Int32) (q c : Nat) : Nat := pn_mi (V (xi q)) (V (yi q)) c
def nw_N (kd xi yi : Nat → Nat) : Prop := ∀ q, q < 8 → kd q < 8 ∧ xi q < 8 ∧ yi q < 8
def nw_B (kd xi yi : Nat → Nat) (nu : Nat → Int32) (L : Nat → Nat) (V : Nat → Nat → Int32) (C : Nat → Nat) : Prop :=
  ∀ q, q < 8 → L q = nw_pos kd xi V q (C q) ∧ ∀ c, c < C q → nw_g kd xi yi L V q c ∧ (nw_em kd xi V q c → V q (nw_pos kd xi V q c) = nw_val kd xi yi nu V q c)
def nw_S (kd xi yi : Nat → Nat) (L : Nat → Nat) (V : Nat → Nat → Int32) (C : Nat → Nat) : Prop := ∀ q, q < 8 → ¬ nw_g kd xi yi L V q (C q)
def nw_Le (L : Nat → Nat) (V : Nat → Nat → Int32) (L' : Nat → Nat) (V' : Nat → Nat → Int32) : Prop := ∀ q, q < 8 → L q ≤ L' q ∧ ∀ i, i < L q → V q i = V' q i
def nw_I (kd xi yi : Nat → Nat) (nu : Nat → Int32) (L : Nat → Nat) (V : Nat → Nat → Int32) (C : Nat → Nat) : Prop :=
  nw_B kd xi yi nu L V C ∧ ∀ L' V' C', nw_B kd xi yi nu L' V' C' → nw_S kd xi yi L' V' C' → (∀ q, q < 8 → C q ≤ C' q) ∧ nw_Le L V L' V'
section
variable {kd xi yi : Nat → Nat} {nu : Nat → Int32} {L : Nat → Nat} {V : Nat → Nat → Int32} {C : Nat → Nat}
theorem nw_loc (N : nw_N kd xi yi) {L' : Nat → Nat} {V' : Nat → Nat → Int32} (le : nw_Le L V L' V') {q c : Nat} (hq : q < 8) (hg : ∀ c', c' < c → nw_g kd xi yi L V q c') :
    nw_pos kd xi V q c = nw_pos kd xi V' q c ∧ (kd q = 6 → nw_mi xi yi V q c = nw_mi xi yi V' q c) ∧ (nw_g kd xi yi L V q c → nw_g kd xi yi L' V' q c ∧ nw_val kd xi yi nu V q c = nw_val kd xi yi nu V' q c ∧ (nw_em kd xi V q c ↔ nw_em kd xi V' q c)) :=
  pn_loc (nu q) (le _ (N q hq).2.1).2 (le _ (N q hq).2.2).2 (le _ (N q hq).2.1).1 (le _ (N q hq).2.2).1 c hg
theorem nw_c40 (B : nw_B kd xi yi nu L V C) {q : Nat} (hq : q < 8) : C q ≤ 40 := by
  apply Nat.le_of_not_lt
  intro h
  exact absurd ((B q hq).2 40 h).1.1 (by decide)
theorem nw_l40 (B : nw_B kd xi yi nu L V C) {q : Nat} (hq : q < 8) : L q ≤ 40 := by
  rw [(B q hq).1]
  exact Nat.le_trans (pn_pos_le _ _ _) (nw_c40 B hq)
theorem nw_0 : nw_I kd xi yi nu (fun _ => 0) V (fun _ => 0) := by
  refine ⟨fun q _ => ⟨(pn_pos_0 _ _).symm, fun c h => absurd h (Nat.not_lt_zero _)⟩, fun L' V' C' _ _ => ⟨fun q _ => Nat.zero_le _, fun q _ => ⟨Nat.zero_le _, fun i h => absurd h (Nat.not_lt_zero _)⟩⟩⟩
/-- the one step: process p goes on to c steps, its array slice holding what these steps give -/
theorem nw_adv (N : nw_N kd xi yi) (I : nw_I kd xi yi nu L V C) {p c : Nat} (hp : p < 8) (hc : C p ≤ c) (hg : ∀ d, d < c → nw_g kd xi yi L V p d) {V' : Nat → Nat → Int32}
    (hf : ∀ q, q < 8 → q ≠ p → ∀ i, i < L q → V' q i = V q i) (hw : ∀ d, d < c → nw_em kd xi V p d → V' p (nw_pos kd xi V p d) = nw_val kd xi yi nu V p d) :
    nw_Le L V (nw_u L p (nw_pos kd xi V p c)) V' ∧ nw_I kd xi yi nu (nw_u L p (nw_pos kd xi V p c)) V' (nw_u C p c) := by
  obtain ⟨B, F⟩ := I
  have le : nw_Le L V (nw_u L p (nw_pos kd xi V p c)) V' := by
    intro q hq
    by_cases e : q = p
    · subst e
      rw [nw_us, (B q hq).1]
      refine ⟨pn_pos_mono _ _ hc, fun i hi => ?_⟩
      obtain ⟨d, h1, h2, h3⟩ := pn_pos_ex hi
      have e1 := ((B q hq).2 d h1).2 h3
      have e2 := hw d (by omega) h3
      have h2' : nw_pos kd xi V q d = i := h2
      rw [h2'] at e1 e2
      rw [e1, e2]
    · rw [nw_un e]
      exact ⟨Nat.le_refl _, fun i hi => (hf q hq e i hi).symm⟩
  refine ⟨le, ?_, ?_⟩
  · intro q hq
    by_cases e : q = p
    · subst e
      rw [nw_us, nw_us]
      have l0 := nw_loc (nu := nu) N le hq hg
      refine ⟨l0.1, fun d hd => ?_⟩
      have l1 := nw_loc (nu := nu) (c := d) N le hq (fun c' h => hg c' (by omega))
      obtain ⟨g', v', m'⟩ := l1.2.2 (hg d hd)
      refine ⟨g', fun hm => ?_⟩
      rw [← l1.1, ← v']
      exact hw d hd (m'.mpr hm)
    · rw [nw_un e, nw_un e]
      have gq : ∀ d, d < C q → nw_g kd xi yi L V q d := fun d hd => ((B q hq).2 d hd).1
      have l0 := nw_loc (nu := nu) N le hq gq
      refine ⟨(B q hq).1.trans l0.1, fun d hd => ?_⟩
      have l1 := nw_loc (nu := nu) (c := d) N le hq (fun c' h => gq c' (by omega))
      obtain ⟨g', v', m'⟩ := l1.2.2 (gq d hd)
      refine ⟨g', fun hm => ?_⟩
      have hm0 := m'.mpr hm
      rw [← l1.1, ← v', ← ((B q hq).2 d hd).2 hm0]
      refine hf q hq e _ ?_
      rw [(B q hq).1]
      exact pn_pos_lt hm0 hd
  · intro L' V'' C' B' S'
    obtain ⟨fc, fl⟩ := F L' V'' C' B' S'
    have lp := fun d (h : d ≤ c) => nw_loc (nu := nu) (c := d) N fl hp (fun c' h' => hg c' (by omega))
    have hcp : c ≤ C' p := by
      apply Nat.le_of_not_lt
      intro h
      exact S' p hp ((lp (C' p) (by omega)).2.2 (hg _ h)).1
    refine ⟨fun q hq => ?_, fun q hq => ?_⟩
    · by_cases e : q = p
      · subst e; rw [nw_us]; exact hcp
      · rw [nw_un e]; exact fc q hq
    · by_cases e : q = p
      · subst e
        rw [nw_us]
        refine ⟨?_, fun i hi => ?_⟩
        · rw [(lp c (Nat.le_refl _)).1, (B' q hq).1]
          exact pn_pos_mono _ _ hcp
        · obtain ⟨d, h1, h2, h3⟩ := pn_pos_ex hi
          have h2' : nw_pos kd xi V q d = i := h2
          obtain ⟨g', v', m'⟩ := (lp d (by omega)).2.2 (hg d h1)
          have e1 := ((B' q hq).2 d (by omega)).2 (m'.mp h3)
          have e2 := hw d h1 h3
          rw [← (lp d (by omega)).1, ← v', h2'] at e1
          rw [h2'] at e2
          rw [e1, e2]
      · rw [nw_un e]
        exact ⟨(fl q hq).1, fun i hi => (hf q hq e i hi).trans ((fl q hq).2 i hi)⟩
theorem nw_uni (I : nw_I kd xi yi nu L V C) (S : nw_S kd xi yi L V C) {L' : Nat → Nat} {V' : Nat → Nat → Int32} {C' : Nat → Nat} (I' : nw_I kd xi yi nu L' V' C') (S' : nw_S kd xi yi L' V' C') {q : Nat} (hq : q < 8) :
    L q = L' q ∧ ∀ i, i < L q → V q i = V' q i := by
  have a := (I.2 L' V' C' I'.1 S').2 q hq
  have b := (I'.2 L V C I.1 S).2 q hq
  exact ⟨Nat.le_antisymm a.1 b.1, a.2⟩
end
def nw_s8 (f : Nat → Nat) : Nat := f 0 + f 1 + f 2 + f 3 + f 4 + f 5 + f 6 + f 7
theorem nw_8 {p : Nat} (h : p < 8) : p = 0 ∨ p = 1 ∨ p = 2 ∨ p = 3 ∨ p = 4 ∨ p = 5 ∨ p = 6 ∨ p = 7 := by omega
theorem nw_s8u (f : Nat → Nat) {p : Nat} (v : Nat) (h : p < 8) : nw_s8 (nw_u f p v) + f p = nw_s8 f + v := by
  rcases nw_8 h with e | e | e | e | e | e | e | e <;> subst e <;> simp only [nw_s8, nw_u] <;> simp <;> omega
theorem nw_s8_le {f : Nat → Nat} (h : ∀ q, q < 8 → f q ≤ 40) : nw_s8 f ≤ 320 := by
  have h0 := h 0 (by decide); have h1 := h 1 (by decide); have h2 := h 2 (by decide); have h3 := h 3 (by decide)
  have h4 := h 4 (by decide); have h5 := h 5 (by decide); have h6 := h 6 (by decide); have h7 := h 7 (by decide)
  unfold nw_s8
  omega
theorem nw_s8_ge {f : Nat → Nat} (h : ∀ q, q < 8 → f q ≤ 40) (hs : 320 ≤ nw_s8 f) {q : Nat} (hq : q < 8) : 40 ≤ f q := by
  have h0 := h 0 (by decide); have h1 := h 1 (by decide); have h2 := h 2 (by decide); have h3 := h 3 (by decide)
  have h4 := h 4 (by decide); have h5 := h 5 (by decide); have h6 := h 6 (by decide); have h7 := h 7 (by decide)
  unfold nw_s8 at hs
  rcases nw_8 hq with e | e | e | e | e | e | e | e <;> subst e <;> omega
end
section
/-! the component's step of one process -/
theorem pn_g0 {k : Nat} {x y : Nat → Int32} {lx ly c : Nat} (h : k = 0) : pn_g k x y lx ly c ↔ c < 40 := by subst h; simp [pn_g]
theorem pn_g1 {k : Nat} {x y : Nat → Int32} {lx ly c : Nat} (h : k = 1) : pn_g k x y lx ly c ↔ c < 40 ∧ c < 5 := by subst h; simp [pn_g]
theorem pn_g2 {k : Nat} {x y : Nat → Int32} {lx ly c : Nat} (h : k = 2) : pn_g k x y lx ly c ↔ c < 40 ∧ c < lx ∧ c < ly := by subst h; simp [pn_g]
theorem pn_g3 {k : Nat} {x y : Nat → Int32} {lx ly c : Nat} (h : k = 3) : pn_g k x y lx ly c ↔ c < 40 ∧ c / 2 < if c % 2 = 0 then lx else ly := by subst h; simp [pn_g]
theorem pn_g4 {k : Nat} {x y : Nat → Int32} {lx ly c : Nat} (h : k = 4) : pn_g k x y lx ly c ↔ c < 40 ∧ c < lx := by subst h; simp [pn_g]
theorem pn_g5 {k : Nat} {x y : Nat → Int32} {lx ly c : Nat} (h : k = 5) : pn_g k x y lx ly c ↔ c < 40 ∧ c ≤ lx := by subst h; simp [pn_g]
theorem pn_g6 {k : Nat} {x y : Nat → Int32} {lx ly c : Nat} (h : k = 6) : pn_g k x y lx ly c ↔ c < 40 ∧ pn_mi x y c < lx ∧ c - pn_mi x y c < ly := by subst h; simp [pn_g]
theorem pn_g7 {k : Nat} {x y : Nat → Int32} {lx ly c : Nat} (h : k = 7) : pn_g k x y lx ly c ↔ c < 40 ∧ c < lx := by subst h; simp [pn_g]
theorem pn_v0 {k : Nat} {a : Int32} {x y : Nat → Int32} {c : Nat} (h : k = 0) : pn_val k a x y c = a + nI c := by subst h; rfl
theorem pn_v1 {k : Nat} {a : Int32} {x y : Nat → Int32} {c : Nat} (h : k = 1) : pn_val k a x y c = a * (2 * nI c + 1) := by subst h; rfl
theorem pn_v2 {k : Nat} {a : Int32} {x y : Nat → Int32} {c : Nat} (h : k = 2) : pn_val k a x y c = x c + y c := by subst h; rfl
theorem pn_v3 {k : Nat} {a : Int32} {x y : Nat → Int32} {c : Nat} (h : k = 3) : pn_val k a x y c = if c % 2 = 0 then x (c / 2) else y (c / 2) := by subst h; rfl
theorem pn_v4 {k : Nat} {a : Int32} {x y : Nat → Int32} {c : Nat} (h : k = 4) : pn_val k a x y c = x c := by subst h; rfl
theorem pn_v5 {k : Nat} {a : Int32} {x y : Nat → Int32} {c : Nat} (h : k = 5) : pn_val k a x y c = if c = 0 then a else x (c - 1) := by subst h; rfl
theorem pn_v6 {k : Nat} {a : Int32} {x y : Nat → Int32} {c : Nat} (h : k = 6) : pn_val k a x y c = if x (pn_mi x y c) ≤ y (c - pn_mi x y c) then x (pn_mi x y c) else y (c - pn_mi x y c) := by subst h; rfl
theorem pn_v7 {k : Nat} {a : Int32} {x y : Nat → Int32} {c : Nat} (h : k = 7) : pn_val k a x y c = pn_sm x (c + 1) := by subst h; rfl
def nw_V (it : Nat → Int32) : Nat → Nat → Int32 := fun q i => it (q * 40 + i)
def nw_A (kd xi yi : Nat → Nat) (ak ax ay : Nat → Int32) : Prop := ∀ q, q < 8 → (kd q < 8 ∧ xi q < 8 ∧ yi q < 8) ∧ ak q = nI (kd q) ∧ ax q = nI (xi q) ∧ ay q = nI (yi q)
theorem nw_AN {kd xi yi : Nat → Nat} {ak ax ay : Nat → Int32} (A : nw_A kd xi yi ak ax ay) : nw_N kd xi yi := fun q h => (A q h).1
def nx_I (kd xi yi : Nat → Nat) (nu it ma ux uy : Nat → Int32) (L C : Nat → Nat) : Prop :=
  nw_I kd xi yi nu L (nw_V it) C ∧ (∀ q, q < 8 → ma q = nI (L q)) ∧ (∀ q, q < 8 → kd q = 4 → ux q = nI (C q)) ∧ (∀ q, q < 8 → kd q = 6 → ux q = nI (nw_mi xi yi (nw_V it) q (C q)) ∧ uy q = nI (C q - nw_mi xi yi (nw_V it) q (C q)))
section
variable {ak ax ay an it ma ux uy : Nat → Int32} {kd xi yi L C : Nat → Nat} {p : Nat}
theorem nx_gen (N : nw_N kd xi yi) (I : nx_I kd xi yi an it ma ux uy L C) (hp : p < 8) (g : nw_g kd xi yi L (nw_V it) p (C p)) {it' ma' ux' uy' : Nat → Int32}
    (hf : ∀ q, q < 8 → q ≠ p → ∀ i, i < L q → it' (q * 40 + i) = it (q * 40 + i))
    (hw : ∀ d, d < C p + 1 → nw_em kd xi (nw_V it) p d → it' (p * 40 + nw_pos kd xi (nw_V it) p d) = nw_val kd xi yi an (nw_V it) p d)
    (hm : ma' p = nI (nw_pos kd xi (nw_V it) p (C p + 1))) (hm' : ∀ q, q < 8 → q ≠ p → ma' q = ma q)
    (hx' : ∀ q, q < 8 → q ≠ p → ux' q = ux q) (hy' : ∀ q, q < 8 → q ≠ p → uy' q = uy q)
    (h4 : kd p = 4 → ux' p = nI (C p + 1))
    (h6 : kd p = 6 → ux' p = nI (nw_mi xi yi (nw_V it) p (C p + 1)) ∧ uy' p = nI (C p + 1 - nw_mi xi yi (nw_V it) p (C p + 1))) :
    nx_I kd xi yi an it' ma' ux' uy' (nw_u L p (nw_pos kd xi (nw_V it) p (C p + 1))) (nw_u C p (C p + 1)) := by
  have B := I.1.1
  have hg : ∀ d, d < C p + 1 → nw_g kd xi yi L (nw_V it) p d := by
    intro d hd
    by_cases e : d = C p
    · subst e; exact g
    · exact ((B p hp).2 d (by omega)).1
  obtain ⟨le, I'⟩ := nw_adv (V' := nw_V it') N I.1 hp (Nat.le_succ _) hg hf hw
  refine ⟨I', fun q hq => ?_, fun q hq hk => ?_, fun q hq hk => ?_⟩
  · by_cases e : q = p
    · subst e; rw [nw_us]; exact hm
    · rw [nw_un e, hm' q hq e]; exact I.2.1 q hq
  · by_cases e : q = p
    · subst e; rw [nw_us]; exact h4 hk
    · rw [nw_un e, hx' q hq e]; exact I.2.2.1 q hq hk
  · by_cases e : q = p
    · subst e
      rw [nw_us, ← (nw_loc (nu := an) N le hq hg).2.1 hk]
      exact h6 hk
    · rw [nw_un e, hx' q hq e, hy' q hq e, ← (nw_loc (nu := an) N le hq (fun d hd => ((B q hq).2 d hd).1)).2.1 hk]
      exact I.2.2.2 q hq hk
theorem nx_lt (I : nx_I kd xi yi an it ma ux uy L C) (hp : p < 8) : L p ≤ C p := by
  rw [(I.1.1 p hp).1]; exact pn_pos_le _ _ _
theorem nx_eq (I : nx_I kd xi yi an it ma ux uy L C) (hp : p < 8) (h : kd p ≠ 4) : L p = C p := by
  rw [(I.1.1 p hp).1]; exact pn_pos_n h _ _
theorem nx_40 (I : nx_I kd xi yi an it ma ux uy L C) (hp : p < 8) : L p ≤ 40 := nw_l40 I.1.1 hp
theorem nx_em (N : nw_N kd xi yi) (I : nx_I kd xi yi an it ma ux uy L C) (hp : p < 8) (g : nw_g kd xi yi L (nw_V it) p (C p)) (em : nw_em kd xi (nw_V it) p (C p)) {ux' uy' : Nat → Int32}
    (hx' : ∀ q, q < 8 → q ≠ p → ux' q = ux q) (hy' : ∀ q, q < 8 → q ≠ p → uy' q = uy q)
    (h4 : kd p = 4 → ux' p = nI (C p + 1))
    (h6 : kd p = 6 → ux' p = nI (nw_mi xi yi (nw_V it) p (C p + 1)) ∧ uy' p = nI (C p + 1 - nw_mi xi yi (nw_V it) p (C p + 1))) :
    nx_I kd xi yi an (upd it (p * 40 + L p) (nw_val kd xi yi an (nw_V it) p (C p))) (upd ma p (nI (L p + 1))) ux' uy' (nw_u L p (nw_pos kd xi (nw_V it) p (C p + 1))) (nw_u C p (C p + 1)) := by
  have B := I.1.1
  have h40 : L p < 40 := Nat.lt_of_le_of_lt (nx_lt I hp) g.1
  have hs : nw_pos kd xi (nw_V it) p (C p + 1) = L p + 1 := by
    rw [(B p hp).1]; exact pn_pos_s em
  refine nx_gen N I hp g ?_ ?_ ?_ ?_ hx' hy' h4 h6
  · intro q hq e i hi
    have := nx_40 I hq
    exact pk_un (by omega)
  · intro d hd hm
    by_cases e : d = C p
    · subst e
      rw [← (B p hp).1, pk_us]
    · have hd' : d < C p := by omega
      have lt : nw_pos kd xi (nw_V it) p d < L p := by rw [(B p hp).1]; exact pn_pos_lt hm hd'
      rw [pk_un (by omega)]
      exact ((B p hp).2 d hd').2 hm
  · rw [hs, pk_us]
  · intro q hq e
    exact pk_un e
theorem xm_make {post : SX → Prop} {n : Nat} {v : Int32} (hp : p < 8) (hn : n < 40) (hm : ma p = nI n) (H : post (ak, ax, ay, an, upd it (p * 40 + n) v, upd ma p (nI (n + 1)), ux, uy)) : wpX_make post (ak, ax, ay, an, it, ma, ux, uy) (nI p) v := by
  unfold wpX_make
  dsimp only
  rw [xa_c8 hp, hm, xa_ix, xa_c (show p * 40 + n < 320 by omega), nI_1]
  exact ⟨xa_i8 hp, xa_i320 (by omega), nm_e ⟨xa_i8 hp, xa_i8 hp, nm_e H⟩⟩
theorem xm_has {post : Int32 → Prop} {q i l : Nat} (hq : q < 8) (hm : ma q = nI l) (hl : l ≤ 40) (hi : i ≤ 40) (h1 : i < l → post 1) (h0 : l ≤ i → post 0) : wpX_hasItem post (ak, ax, ay, an, it, ma, ux, uy) (nI q) (nI i) := by
  unfold wpX_hasItem
  dsimp only
  rw [xa_c8 hq, hm]
  exact br_f (nI_pos (by omega)) ⟨xa_i8 hq, pk_le l i h0 h1⟩
theorem xm_at {post : Int32 → Prop} {q i : Nat} (hq : q < 8) (hi : i < 40) (H : post (it (q * 40 + i))) : wpX_itemAt post (ak, ax, ay, an, it, ma, ux, uy) (nI q) (nI i) := by
  unfold wpX_itemAt
  dsimp only
  rw [xa_ix, xa_c (show q * 40 + i < 320 by omega)]
  exact ⟨xa_i320 (by omega), H⟩
theorem xa_10 : ¬ (1 : Int32) = 0 := by decide
/-- what is asked of a step: without a step the state as it is, with one the next state -/
def xs_H (kd xi yi : Nat → Nat) (ak ax ay an it ma ux uy : Nat → Int32) (L C : Nat → Nat) (p : Nat) (post : SX → Prop) : Prop :=
  (¬ nw_g kd xi yi L (nw_V it) p (C p) → post (ak, ax, ay, an, it, ma, ux, uy)) ∧
  (nw_g kd xi yi L (nw_V it) p (C p) → ∀ it' ma' ux' uy', nx_I kd xi yi an it' ma' ux' uy' (nw_u L p (nw_pos kd xi (nw_V it) p (C p + 1))) (nw_u C p (C p + 1)) → post (ak, ax, ay, an, it', ma', ux', uy'))
theorem xs_mk {post : SX → Prop} {v : Int32} {ux' uy' : Nat → Int32} (A : nw_A kd xi yi ak ax ay) (I : nx_I kd xi yi an it ma ux uy L C) (hp : p < 8) (g : nw_g kd xi yi L (nw_V it) p (C p)) (em : nw_em kd xi (nw_V it) p (C p)) (hv : nw_val kd xi yi an (nw_V it) p (C p) = v)
    (hx' : ∀ q, q < 8 → q ≠ p → ux' q = ux q) (hy' : ∀ q, q < 8 → q ≠ p → uy' q = uy q)
    (h4 : kd p = 4 → ux' p = nI (C p + 1))
    (h6 : kd p = 6 → ux' p = nI (nw_mi xi yi (nw_V it) p (C p + 1)) ∧ uy' p = nI (C p + 1 - nw_mi xi yi (nw_V it) p (C p + 1)))
    (H : xs_H kd xi yi ak ax ay an it ma ux uy L C p post) : wpX_make post (ak, ax, ay, an, it, ma, ux', uy') (nI p) v := by
  refine xm_make hp (Nat.lt_of_le_of_lt (nx_lt I hp) g.1) (I.2.1 p hp) ?_
  rw [← hv]
  exact H.2 g _ _ _ _ (nx_em (nw_AN A) I hp g em hx' hy' h4 h6)
theorem xs_mk0 {post : SX → Prop} {v : Int32} (A : nw_A kd xi yi ak ax ay) (I : nx_I kd xi yi an it ma ux uy L C) (hp : p < 8) (hk4 : kd p ≠ 4) (hk6 : kd p ≠ 6) (g : nw_g kd xi yi L (nw_V it) p (C p)) (hv : nw_val kd xi yi an (nw_V it) p (C p) = v)
    (H : xs_H kd xi yi ak ax ay an it ma ux uy L C p post) : wpX_make post (ak, ax, ay, an, it, ma, ux, uy) (nI p) v :=
  xs_mk A I hp g (fun z => absurd z hk4) hv (fun _ _ _ => rfl) (fun _ _ _ => rfl) (fun z => absurd z hk4) (fun z => absurd z hk6) H
theorem xs_list {post : SX → Prop} (A : nw_A kd xi yi ak ax ay) (I : nx_I kd xi yi an it ma ux uy L C) (hp : p < 8) (hk : kd p = 1) (h40 : L p < 40) (H : xs_H kd xi yi ak ax ay an it ma ux uy L C p post) : wpX_stepList post (ak, ax, ay, an, it, ma, ux, uy) (nI p) := by
  have hL := nx_eq I hp (by omega)
  unfold wpX_stepList
  dsimp only
  rw [xa_c8 hp, I.2.1 p hp]
  refine ⟨xa_i8 hp, nm_e (pk_le 5 (L p) (fun h => H.1 (fun g => ?_)) (fun h => ⟨xa_i8 hp, xs_mk0 A I hp (by omega) (by omega) ((pn_g1 hk).mpr ⟨by omega, by omega⟩) ((pn_v1 hk).trans ?_) H⟩))⟩
  · have := (pn_g1 hk).mp g
    omega
  · rw [hL]
theorem xs_add {post : SX → Prop} (A : nw_A kd xi yi ak ax ay) (I : nx_I kd xi yi an it ma ux uy L C) (hp : p < 8) (hk : kd p = 2) (h40 : L p < 40) (H : xs_H kd xi yi ak ax ay an it ma ux uy L C p post) : wpX_stepAdd post (ak, ax, ay, an, it, ma, ux, uy) (nI p) := by
  have hL := nx_eq I hp (by omega)
  obtain ⟨⟨_, hx, hy⟩, _, ex, ey⟩ := A p hp
  unfold wpX_stepAdd
  dsimp only
  rw [xa_c8 hp, I.2.1 p hp, ex, ey, hL]
  have lx := nx_40 I hx
  have ly := nx_40 I hy
  refine ⟨xa_i8 hp, nm_e ⟨xa_i8 hp, nm_e ⟨xa_i8 hp, nm_e ?_⟩⟩⟩
  refine xm_has hx (I.2.1 _ hx) lx (by omega) (fun h1 => br_f xa_10 ?_) (fun h1 => br_t rfl (H.1 (fun g => ?_)))
  · refine xm_has hy (I.2.1 _ hy) ly (by omega) (fun h2 => br_f xa_10 ?_) (fun h2 => br_t rfl (H.1 (fun g => ?_)))
    · refine xm_at hx (by omega) (xm_at hy (by omega) ?_)
      exact xs_mk0 A I hp (by omega) (by omega) ((pn_g2 hk).mpr ⟨by omega, h1, h2⟩) (pn_v2 hk) H
    · have := (pn_g2 hk).mp g
      omega
  · have := (pn_g2 hk).mp g
    omega
theorem xs_turn1 {post : SX → Prop} (A : nw_A kd xi yi ak ax ay) (I : nx_I kd xi yi an it ma ux uy L C) (hp : p < 8) (hk : kd p = 3) (h40 : L p < 40) (H : xs_H kd xi yi ak ax ay an it ma ux uy L C p post) {z : Nat} (hz : z < 8) (e1 : (if C p % 2 = 0 then L (xi p) else L (yi p)) = L z) (e2 : nw_val kd xi yi an (nw_V it) p (C p) = it (z * 40 + C p / 2)) : wX_stepTurn_35 post (nI p) (nI (C p / 2)) (nI z) ak ax ay an it ma ux uy := by
  have hL := nx_eq I hp (by omega)
  have lz := nx_40 I hz
  unfold wX_stepTurn_35
  refine xm_has hz (I.2.1 _ hz) lz (by omega) (fun h1 => br_f xa_10 ?_) (fun h1 => br_t rfl (H.1 (fun g => ?_)))
  · refine xm_at hz (by omega) ?_
    exact xs_mk0 A I hp (by omega) (by omega) ((pn_g3 hk).mpr ⟨by omega, by rw [e1]; exact h1⟩) e2 H
  · have := (pn_g3 hk).mp g
    rw [e1] at this
    omega
theorem xs_turn {post : SX → Prop} (A : nw_A kd xi yi ak ax ay) (I : nx_I kd xi yi an it ma ux uy L C) (hp : p < 8) (hk : kd p = 3) (h40 : L p < 40) (H : xs_H kd xi yi ak ax ay an it ma ux uy L C p post) : wpX_stepTurn post (ak, ax, ay, an, it, ma, ux, uy) (nI p) := by
  have hL := nx_eq I hp (by omega)
  obtain ⟨⟨_, hx, hy⟩, _, ex, ey⟩ := A p hp
  unfold wpX_stepTurn
  dsimp only
  rw [xa_c8 hp, I.2.1 p hp, ex, ey, hL, xa_par (by omega), xa_half (by omega)]
  refine ⟨xa_i8 hp, xa_2, nm_e ⟨xa_i8 hp, xa_2, pk_eq (C p % 2) 0 (fun h => ⟨xa_i8 hp, xs_turn1 A I hp hk h40 H hx (if_pos h) ((pn_v3 hk).trans (if_pos h))⟩) (fun h => ⟨xa_i8 hp, xs_turn1 A I hp hk h40 H hy (if_neg h) ((pn_v3 hk).trans (if_neg h))⟩)⟩⟩
theorem xs_odd {post : SX → Prop} (A : nw_A kd xi yi ak ax ay) (I : nx_I kd xi yi an it ma ux uy L C) (hp : p < 8) (hk : kd p = 4) (H : xs_H kd xi yi ak ax ay an it ma ux uy L C p post) : wpX_stepOdd post (ak, ax, ay, an, it, ma, ux, uy) (nI p) := by
  obtain ⟨⟨_, hx, hy⟩, _, ex, ey⟩ := A p hp
  have c40 := nw_c40 I.1.1 hp
  have lx := nx_40 I hx
  unfold wpX_stepOdd
  dsimp only
  rw [xa_c8 hp, ex, I.2.2.1 p hp hk, nI_1]
  refine ⟨xa_i8 hp, nm_e ⟨xa_i8 hp, nm_e ?_⟩⟩
  refine xm_has hx (I.2.1 _ hx) lx (by omega) (fun h1 => br_f xa_10 ?_) (fun h1 => br_t rfl (H.1 (fun g => ?_)))
  · have g : nw_g kd xi yi L (nw_V it) p (C p) := (pn_g4 hk).mpr ⟨by omega, h1⟩
    refine xm_at hx (by omega) ⟨xa_i8 hp, xa_i8 hp, nm_e (br_c (fun ho => ?_) (fun ho => ?_))⟩
    · exact xs_mk A I hp g (fun _ => ho) (pn_v4 hk) (fun q _ e => pk_un e) (fun _ _ _ => rfl) (fun _ => pk_us) (fun z => by omega) H
    · have nm : ¬ nw_em kd xi (nw_V it) p (C p) := fun z => ho (z hk)
      have hs : nw_pos kd xi (nw_V it) p (C p + 1) = L p := by
        rw [(I.1.1 p hp).1]; exact pn_pos_ns nm
      refine H.2 g _ _ _ _ (nx_gen (nw_AN A) I hp g (fun _ _ _ _ _ => rfl) ?_ ?_ (fun _ _ _ => rfl) (fun q _ e => pk_un e) (fun _ _ _ => rfl) (fun _ => pk_us) (fun z => by omega))
      · intro d hd hm
        by_cases e : d = C p
        · subst e; exact absurd hm nm
        · exact ((I.1.1 p hp).2 d (by omega)).2 hm
      · rw [hs]; exact I.2.1 p hp
  · have := (pn_g4 hk).mp g
    omega
theorem xs_delay {post : SX → Prop} (A : nw_A kd xi yi ak ax ay) (I : nx_I kd xi yi an it ma ux uy L C) (hp : p < 8) (hk : kd p = 5) (h40 : L p < 40) (H : xs_H kd xi yi ak ax ay an it ma ux uy L C p post) : wpX_stepDelay post (ak, ax, ay, an, it, ma, ux, uy) (nI p) := by
  have hL := nx_eq I hp (by omega)
  obtain ⟨⟨_, hx, hy⟩, _, ex, ey⟩ := A p hp
  have lx := nx_40 I hx
  unfold wpX_stepDelay
  dsimp only
  rw [xa_c8 hp, I.2.1 p hp, ex, hL]
  refine ⟨xa_i8 hp, nm_e ⟨xa_i8 hp, ?_⟩⟩
  by_cases h0 : C p = 0
  · refine nm_r (e' := -1) (by rw [h0]; decide +kernel) (br_f (by decide) ⟨xa_i8 hp, ?_⟩)
    exact xs_mk0 A I hp (by omega) (by omega) ((pn_g5 hk).mpr ⟨by omega, by omega⟩) ((pn_v5 hk).trans (if_pos h0)) H
  · have e1 : nI (C p) - 1 = nI (C p - 1) := pk_sub (a := C p) (b := 1) (by omega)
    refine nm_r e1 (br_t (nI_pos' (by omega)) ?_)
    refine xm_has hx (I.2.1 _ hx) lx (by omega) (fun h1 => br_f xa_10 ?_) (fun h1 => br_t rfl (H.1 (fun g => ?_)))
    · refine xm_at hx (by omega) ?_
      exact xs_mk0 A I hp (by omega) (by omega) ((pn_g5 hk).mpr ⟨by omega, by omega⟩) ((pn_v5 hk).trans (if_neg h0)) H
    · have := (pn_g5 hk).mp g
      omega
end
end
section
/-! MERGE, SUM, the step itself, and the component's working out -/
section
variable {ak ax ay an it ma ux uy : Nat → Int32} {kd xi yi L C : Nat → Nat} {p : Nat}
theorem xs_merge {post : SX → Prop} (A : nw_A kd xi yi ak ax ay) (I : nx_I kd xi yi an it ma ux uy L C) (hp : p < 8) (hk : kd p = 6) (h40 : L p < 40) (H : xs_H kd xi yi ak ax ay an it ma ux uy L C p post) : wpX_stepMerge post (ak, ax, ay, an, it, ma, ux, uy) (nI p) := by
  have hL := nx_eq I hp (by omega)
  obtain ⟨⟨_, hx, hy⟩, _, ex, ey⟩ := A p hp
  have lx := nx_40 I hx
  have ly := nx_40 I hy
  have e6 := I.2.2.2 p hp hk
  have hv : nw_val kd xi yi an (nw_V it) p (C p) = _ := pn_v6 hk
  have hs : nw_mi xi yi (nw_V it) p (C p + 1) = if nw_V it (xi p) (nw_mi xi yi (nw_V it) p (C p)) ≤ nw_V it (yi p) (C p - nw_mi xi yi (nw_V it) p (C p)) then nw_mi xi yi (nw_V it) p (C p) + 1 else nw_mi xi yi (nw_V it) p (C p) := rfl
  have hle : nw_mi xi yi (nw_V it) p (C p) ≤ C p := pn_mi_le _ _ _
  have gi : nw_g kd xi yi L (nw_V it) p (C p) ↔ C p < 40 ∧ nw_mi xi yi (nw_V it) p (C p) < L (xi p) ∧ C p - nw_mi xi yi (nw_V it) p (C p) < L (yi p) := pn_g6 hk
  change nw_val kd xi yi an (nw_V it) p (C p) = if nw_V it (xi p) (nw_mi xi yi (nw_V it) p (C p)) ≤ nw_V it (yi p) (C p - nw_mi xi yi (nw_V it) p (C p)) then nw_V it (xi p) (nw_mi xi yi (nw_V it) p (C p)) else nw_V it (yi p) (C p - nw_mi xi yi (nw_V it) p (C p)) at hv
  unfold wpX_stepMerge
  dsimp only
  rw [xa_c8 hp, ex, ey, e6.1, e6.2]
  generalize hi : nw_mi xi yi (nw_V it) p (C p) = i at *
  rw [nI_1, nI_1]
  refine ⟨xa_i8 hp, nm_e ⟨xa_i8 hp, nm_e ⟨xa_i8 hp, nm_e ⟨xa_i8 hp, nm_e ?_⟩⟩⟩⟩
  refine xm_has hx (I.2.1 _ hx) lx (by omega) (fun h1 => br_f xa_10 ?_) (fun h1 => br_t rfl (H.1 (fun g => ?_)))
  · refine xm_has hy (I.2.1 _ hy) ly (by omega) (fun h2 => br_f xa_10 ?_) (fun h2 => br_t rfl (H.1 (fun g => ?_)))
    · refine xm_at hx (by omega) (xm_at hy (by omega) ?_)
      have g := gi.mpr ⟨by omega, h1, h2⟩
      refine br_c (fun hlt => ⟨xa_i8 hp, xa_i8 hp, nm_e ?_⟩) (fun hlt => ⟨xa_i8 hp, xa_i8 hp, nm_e ?_⟩)
      · have hn : ¬ nw_V it (xi p) i ≤ nw_V it (yi p) (C p - i) := Int32.not_le.mpr hlt
        rw [if_neg hn] at hv hs
        refine xs_mk A I hp g (fun z => by omega) hv (fun _ _ _ => rfl) (fun q _ e => pk_un e) (fun z => by omega) (fun _ => ?_) H
        rw [hs, pk_us]
        exact ⟨e6.1, congrArg nI (by omega)⟩
      · have hn : nw_V it (xi p) i ≤ nw_V it (yi p) (C p - i) := Int32.not_lt.mp hlt
        rw [if_pos hn] at hv hs
        refine xs_mk A I hp g (fun z => by omega) hv (fun q _ e => pk_un e) (fun _ _ _ => rfl) (fun z => by omega) (fun _ => ?_) H
        rw [hs, pk_us]
        exact ⟨rfl, e6.2.trans (congrArg nI (by omega))⟩
    · have := gi.mp g
      omega
  · have := gi.mp g
    omega
theorem xs_sum1 {post : SX → Prop} (A : nw_A kd xi yi ak ax ay) (I : nx_I kd xi yi an it ma ux uy L C) (hp : p < 8) (hk : kd p = 7) (h1 : C p < L (xi p)) (H : xs_H kd xi yi ak ax ay an it ma ux uy L C p post) {b : Int32} (hb : b = pn_sm (nw_V it (xi p)) (C p)) : wX_stepSum_39 post (nI p) (nI (xi p)) (nI (C p)) b ak ax ay an it ma ux uy := by
  obtain ⟨⟨_, hx, hy⟩, _, ex, ey⟩ := A p hp
  have lx := nx_40 I hx
  unfold wX_stepSum_39
  refine xm_at hx (by omega) ?_
  refine xs_mk0 A I hp (by omega) (by omega) ((pn_g7 hk).mpr ⟨by omega, h1⟩) ((pn_v7 hk).trans ?_) H
  rw [hb]
  rfl
theorem xs_sum {post : SX → Prop} (A : nw_A kd xi yi ak ax ay) (I : nx_I kd xi yi an it ma ux uy L C) (hp : p < 8) (hk : kd p = 7) (h40 : L p < 40) (H : xs_H kd xi yi ak ax ay an it ma ux uy L C p post) : wpX_stepSum post (ak, ax, ay, an, it, ma, ux, uy) (nI p) := by
  have hL := nx_eq I hp (by omega)
  obtain ⟨⟨_, hx, hy⟩, _, ex, ey⟩ := A p hp
  have lx := nx_40 I hx
  unfold wpX_stepSum
  dsimp only
  rw [xa_c8 hp, I.2.1 p hp, ex, hL]
  refine ⟨xa_i8 hp, nm_e ⟨xa_i8 hp, nm_e ?_⟩⟩
  refine xm_has hx (I.2.1 _ hx) lx (by omega) (fun h1 => br_f xa_10 ?_) (fun h1 => br_t rfl (H.1 (fun g => ?_)))
  · refine pk_eq (C p) 0 (fun h => xs_sum1 A I hp hk h1 H (by rw [h]; rfl)) (fun h => ?_)
    have e1 : nI (C p) - 1 = nI (C p - 1) := pk_sub (a := C p) (b := 1) (by omega)
    rw [e1]
    refine xm_at hp (by omega) (xs_sum1 A I hp hk h1 H ?_)
    have := ((I.1.1 p hp).2 (C p - 1) (by omega)).2 (fun z => by omega)
    have e2 : nw_pos kd xi (nw_V it) p (C p - 1) = C p - 1 := pn_pos_n (by omega) _ _
    have e3 : nw_val kd xi yi an (nw_V it) p (C p - 1) = pn_sm (nw_V it (xi p)) (C p - 1 + 1) := pn_v7 hk
    rw [e2, e3, show C p - 1 + 1 = C p by omega] at this
    exact this
  · have := (pn_g7 hk).mp g
    omega
theorem xs_step {post : SX → Prop} (A : nw_A kd xi yi ak ax ay) (I : nx_I kd xi yi an it ma ux uy L C) (hp : p < 8) (H : xs_H kd xi yi ak ax ay an it ma ux uy L C p post) : wpX_step post (ak, ax, ay, an, it, ma, ux, uy) (nI p) := by
  unfold wpX_step
  dsimp only
  rw [xa_c8 hp, I.2.1 p hp, (A p hp).2.1]
  refine ⟨xa_i8 hp, pk_lt (L p) 40 (fun h40 => ⟨xa_i8 hp, nm_e ?_⟩) (fun h => H.1 (fun g => ?_)) rfl rfl (by have := nx_40 I hp; omega)⟩
  · rcases nw_8 (A p hp).1.1 with hk | hk | hk | hk | hk | hk | hk | hk
    · rw [hk]
      refine br_f (by decide) (br_f (by decide) (br_t (by decide) ⟨xa_i8 hp, xa_i8 hp, ?_⟩))
      have hL := nx_eq I hp (by omega)
      exact xs_mk0 A I hp (by omega) (by omega) ((pn_g0 hk).mpr (by omega)) ((pn_v0 hk).trans (by rw [hL])) H
    · rw [hk]
      exact br_f (by decide) (br_f (by decide) (br_f (by decide) (br_t (by decide) (xs_list A I hp hk h40 H))))
    · rw [hk]
      exact br_f (by decide) (br_f (by decide) (br_f (by decide) (br_f (by decide) (br_t (by decide) (xs_add A I hp hk h40 H)))))
    · rw [hk]
      exact br_f (by decide) (br_f (by decide) (br_f (by decide) (br_f (by decide) (br_f (by decide) (br_t (by decide) (xs_turn A I hp hk h40 H))))))
    · rw [hk]
      exact br_f (by decide) (br_f (by decide) (br_f (by decide) (br_f (by decide) (br_f (by decide) (br_f (by decide) (br_t (by decide) (xs_odd A I hp hk H)))))))
    · rw [hk]
      exact br_f (by decide) (br_f (by decide) (br_f (by decide) (br_f (by decide) (br_f (by decide) (br_f (by decide) (br_f (by decide) (br_t (by decide) (xs_delay A I hp hk h40 H))))))))
    · rw [hk]
      exact br_f (by decide) (br_f (by decide) (br_f (by decide) (br_f (by decide) (br_f (by decide) (br_f (by decide) (br_f (by decide) (br_f (by decide) (br_t (by decide) (xs_merge A I hp hk h40 H)))))))))
    · rw [hk]
      exact br_f (by decide) (br_f (by decide) (br_f (by decide) (br_f (by decide) (br_f (by decide) (br_f (by decide) (br_f (by decide) (br_f (by decide) (br_f (by decide) (br_t (by decide) (xs_sum A I hp hk h40 H))))))))))
  · have := g.1
    have := nx_lt I hp
    omega
end
def xl_Q (kd xi yi : Nat → Nat) (it : Nat → Int32) (L C : Nat → Nat) (r p : Nat) : Prop :=
  nw_S kd xi yi L (nw_V it) C ∨ ((∀ q, q < p → ¬ nw_g kd xi yi L (nw_V it) q (C q)) ∧ r ≤ nw_s8 C) ∨ r + 1 ≤ nw_s8 C
section
variable {ak ax ay an : Nat → Int32} {kd xi yi : Nat → Nat}
theorem xl_46 {post : SX → Prop} {J : Int32 → (Nat → Int32) → (Nat → Int32) → (Nat → Int32) → (Nat → Int32) → (Nat → Int32) → (Nat → Int32) → (Nat → Int32) → (Nat → Int32) → Prop} {r : Nat} (A : nw_A kd xi yi ak ax ay)
    (HJ : ∀ it ma ux uy L C, nx_I kd xi yi an it ma ux uy L C → (nw_S kd xi yi L (nw_V it) C ∨ r + 1 ≤ nw_s8 C) → J (nI (r + 1)) ak ax ay an it ma ux uy) :
    ∀ d p n, p + d = 8 → d < n → ∀ it ma ux uy L C, nx_I kd xi yi an it ma ux uy L C → xl_Q kd xi yi it L C r p → wX_workOutStreams_46 post J (nI r) n (nI p) ak ax ay an it ma ux uy := by
  intro d
  induction d with
  | zero =>
    intro p n hp hn it ma ux uy L C I Q
    obtain ⟨n, rfl⟩ : ∃ m, n = m + 1 := ⟨n - 1, by omega⟩
    have hp8 : p = 8 := by omega
    subst hp8
    rw [wX_workOutStreams_46]
    refine br_t (by decide) (nm_r (nI_1 r) (HJ _ _ _ _ _ _ I ?_))
    rcases Q with h | h | h
    · exact Or.inl h
    · exact Or.inl h.1
    · exact Or.inr h
  | succ d ih =>
    intro p n hp hn it ma ux uy L C I Q
    obtain ⟨n, rfl⟩ : ∃ m, n = m + 1 := ⟨n - 1, by omega⟩
    rw [wX_workOutStreams_46]
    refine pk_le 8 p (fun h => by omega) (fun h => ?_)
    refine xs_step A I h ⟨fun ng => ?_, fun g it' ma' ux' uy' I' => ?_⟩
    · refine nm_r (nI_1 p) (ih (p + 1) n (by omega) (by omega) _ _ _ _ _ _ I ?_)
      rcases Q with h1 | h1 | h1
      · exact Or.inl h1
      · refine Or.inr (Or.inl ⟨fun q hq => ?_, h1.2⟩)
        by_cases e : q = p
        · subst e; exact ng
        · exact h1.1 q (by omega)
      · exact Or.inr (Or.inr h1)
    · refine nm_r (nI_1 p) (ih (p + 1) n (by omega) (by omega) _ _ _ _ _ _ I' ?_)
      have e := nw_s8u C (C p + 1) h
      rcases Q with h1 | h1 | h1
      · exact absurd g (h1 p h)
      · have := h1.2
        exact Or.inr (Or.inr (by omega))
      · exact Or.inr (Or.inr (by omega))
theorem xl_37 {post : SX → Prop} (A : nw_A kd xi yi ak ax ay)
    (HP : ∀ it ma ux uy L C, nx_I kd xi yi an it ma ux uy L C → nw_S kd xi yi L (nw_V it) C → post (ak, ax, ay, an, it, ma, ux, uy)) :
    ∀ d r n, r + d = 320 → d < n → ∀ it ma ux uy L C, nx_I kd xi yi an it ma ux uy L C → (nw_S kd xi yi L (nw_V it) C ∨ r ≤ nw_s8 C) → wX_workOutStreams_37 post n (nI r) ak ax ay an it ma ux uy := by
  intro d
  induction d with
  | zero =>
    intro r n hr hn it ma ux uy L C I Q
    obtain ⟨n, rfl⟩ : ∃ m, n = m + 1 := ⟨n - 1, by omega⟩
    have hr8 : r = 320 := by omega
    subst hr8
    rw [wX_workOutStreams_37]
    refine br_t (by decide) (HP _ _ _ _ _ _ I ?_)
    rcases Q with h | h
    · exact h
    · intro q hq g
      have := nw_s8_ge (fun q hq => nw_c40 I.1.1 hq) h hq
      have := g.1
      omega
  | succ d ih =>
    intro r n hr hn it ma ux uy L C I Q
    obtain ⟨n, rfl⟩ : ∃ m, n = m + 1 := ⟨n - 1, by omega⟩
    rw [wX_workOutStreams_37]
    refine pk_le 320 r (fun h => by omega) (fun h => ⟨9, ?_⟩)
    refine xl_46 A (fun it' ma' ux' uy' L' C' I' Q' => ih (r + 1) n (by omega) (by omega) _ _ _ _ _ _ I' Q') 8 0 9 rfl (by decide) _ _ _ _ _ _ I ?_
    rcases Q with h1 | h1
    · exact Or.inl h1
    · exact Or.inr (Or.inl ⟨fun q hq => absurd hq (Nat.not_lt_zero _), h1⟩)
theorem xl_2 {post : SX → Prop} (A : nw_A kd xi yi ak ax ay) {it : Nat → Int32}
    (HP : ∀ it ma ux uy L C, nx_I kd xi yi an it ma ux uy L C → nw_S kd xi yi L (nw_V it) C → post (ak, ax, ay, an, it, ma, ux, uy)) :
    ∀ d p n, p + d = 8 → d < n → ∀ ma ux uy : Nat → Int32, (∀ q, q < p → ma q = 0 ∧ ux q = 0 ∧ uy q = 0) → wX_workOutStreams_2 post n (nI p) ak ax ay an it ma ux uy := by
  intro d
  induction d with
  | zero =>
    intro p n hp hn ma ux uy Z
    obtain ⟨n, rfl⟩ : ∃ m, n = m + 1 := ⟨n - 1, by omega⟩
    have hp8 : p = 8 := by omega
    subst hp8
    rw [wX_workOutStreams_2]
    refine br_t (by decide) ⟨321, ?_⟩
    refine xl_37 A HP 320 0 321 rfl (by decide) it ma ux uy (fun _ => 0) (fun _ => 0) ⟨nw_0, fun q hq => ?_, fun q hq _ => ?_, fun q hq _ => ⟨?_, ?_⟩⟩ (Or.inr (Nat.zero_le _))
    · rw [(Z q hq).1]; rfl
    · rw [(Z q hq).2.1]; rfl
    · rw [(Z q hq).2.1]; rfl
    · rw [(Z q hq).2.2]; rfl
  | succ d ih =>
    intro p n hp hn ma ux uy Z
    obtain ⟨n, rfl⟩ : ∃ m, n = m + 1 := ⟨n - 1, by omega⟩
    rw [wX_workOutStreams_2]
    refine pk_le 8 p (fun h => by omega) (fun h => ?_)
    rw [xa_c8 h]
    refine ⟨xa_i8 h, nm_e ⟨xa_i8 h, nm_e ⟨xa_i8 h, nm_e (nm_r (nI_1 p) (ih (p + 1) n (by omega) (by omega) _ _ _ (fun q hq => ?_)))⟩⟩⟩
    by_cases e : q = p
    · subst e; exact ⟨pk_us, pk_us, pk_us⟩
    · rw [pk_un e, pk_un e, pk_un e]; exact Z q (by omega)
end
/-- the streams are worked out -/
def nd_D (kd xi yi : Nat → Nat) (nu it ln : Nat → Int32) : Prop := ∃ L C, nw_I kd xi yi nu L (nw_V it) C ∧ nw_S kd xi yi L (nw_V it) C ∧ ∀ q, q < 8 → ln q = nI (L q)
theorem xm_work {post : SX → Prop} {kd xi yi : Nat → Nat} {ak ax ay an it ma ux uy : Nat → Int32} (A : nw_A kd xi yi ak ax ay)
    (HP : ∀ it ma ux uy, nd_D kd xi yi an it ma → post (ak, ax, ay, an, it, ma, ux, uy)) : wpX_workOutStreams post (ak, ax, ay, an, it, ma, ux, uy) := by
  unfold wpX_workOutStreams
  exact ⟨9, xl_2 A (fun it ma ux uy L C I S => HP it ma ux uy ⟨L, C, I.1, S, I.2.1⟩) 8 0 9 rfl (by decide) ma ux uy (fun q hq => absurd hq (Nat.not_lt_zero _))⟩
end
section
/-! the reference's stream of one process: it writes what the steps of p give, from the first one on -/
def ny_W (kd xi yi : Nat → Nat) (nu : Nat → Int32) (L : Nat → Nat) (it0 : Nat → Int32) (p c : Nat) (it : Nat → Int32) : Prop :=
  (∀ d, d < c → nw_g kd xi yi L (nw_V it0) p d) ∧ (∀ d, d < c → nw_em kd xi (nw_V it0) p d → it (p * 40 + nw_pos kd xi (nw_V it0) p d) = nw_val kd xi yi nu (nw_V it0) p d) ∧
  (∀ q, q < 8 → ∀ i, i < 40 → (q ≠ p ∨ nw_pos kd xi (nw_V it0) p c ≤ i) → it (q * 40 + i) = it0 (q * 40 + i))
section
variable {ak ax ay an it it0 ln : Nat → Int32} {kd xi yi L C : Nat → Nat} {p c : Nat} {f : Int32}
theorem ny_0 : ny_W kd xi yi an L it0 p 0 it0 := ⟨fun d h => absurd h (Nat.not_lt_zero _), fun d h => absurd h (Nat.not_lt_zero _), fun _ _ _ _ _ => rfl⟩
theorem ny_ag (B : nw_B kd xi yi an L (nw_V it0) C) (hp : p < 8) (W : ny_W kd xi yi an L it0 p c it) {q i : Nat} (hq : q < 8) (hi : i < L q) : it (q * 40 + i) = it0 (q * 40 + i) := by
  have l40 := nw_l40 B hq
  by_cases e : q = p
  · subst e
    rw [(B q hq).1] at hi
    obtain ⟨d, h1, h2, h3⟩ := pn_pos_ex hi
    have h2' : nw_pos kd xi (nw_V it0) q d = i := h2
    by_cases hd : d < c
    · have e1 := W.2.1 d hd h3
      have e2 := ((B q hq).2 d h1).2 h3
      rw [h2'] at e1 e2
      exact e1.trans e2.symm
    · have m : nw_pos kd xi (nw_V it0) q c ≤ nw_pos kd xi (nw_V it0) q d := pn_pos_mono _ _ (by omega)
      refine W.2.2 q hq i ?_ (Or.inr (by omega))
      have := (B q hq).1
      have := l40
      have : i < nw_pos kd xi (nw_V it0) q (C q) := hi
      omega
  · exact W.2.2 q hq i (by omega) (Or.inl e)
theorem ny_put (hp : p < 8) (W : ny_W kd xi yi an L it0 p c it) (g : nw_g kd xi yi L (nw_V it0) p c) (em : nw_em kd xi (nw_V it0) p c) : ny_W kd xi yi an L it0 p (c + 1) (upd it (p * 40 + nw_pos kd xi (nw_V it0) p c) (nw_val kd xi yi an (nw_V it0) p c)) := by
  have hc : nw_pos kd xi (nw_V it0) p c < 40 := Nat.lt_of_le_of_lt (pn_pos_le _ _ _) g.1
  have hs : nw_pos kd xi (nw_V it0) p (c + 1) = nw_pos kd xi (nw_V it0) p c + 1 := pn_pos_s em
  refine ⟨fun d hd => ?_, fun d hd hm => ?_, fun q hq i hi h => ?_⟩
  · by_cases e : d = c
    · subst e; exact g
    · exact W.1 d (by omega)
  · by_cases e : d = c
    · subst e; exact pk_us
    · have : nw_pos kd xi (nw_V it0) p d < nw_pos kd xi (nw_V it0) p c := pn_pos_lt hm (by omega)
      rw [pk_un (by omega)]
      exact W.2.1 d (by omega) hm
  · rw [hs] at h
    rw [pk_un (by omega)]
    exact W.2.2 q hq i hi (by omega)
theorem ny_skip (W : ny_W kd xi yi an L it0 p c it) (g : nw_g kd xi yi L (nw_V it0) p c) (em : ¬ nw_em kd xi (nw_V it0) p c) : ny_W kd xi yi an L it0 p (c + 1) it := by
  have hs : nw_pos kd xi (nw_V it0) p (c + 1) = nw_pos kd xi (nw_V it0) p c := pn_pos_ns em
  refine ⟨fun d hd => ?_, fun d hd hm => ?_, fun q hq i hi h => ?_⟩
  · by_cases e : d = c
    · subst e; exact g
    · exact W.1 d (by omega)
  · by_cases e : d = c
    · subst e; exact absurd hm em
    · exact W.2.1 d (by omega) hm
  · rw [hs] at h
    exact W.2.2 q hq i hi h
theorem ym_put {post : Int32 → SY → Prop} {n : Nat} {v : Int32} (hp : p < 8) (hn : n < 40) (H : post (nI (n + 1)) (f, ak, ax, ay, an, upd it (p * 40 + n) v, ln)) : wpY_put post (f, ak, ax, ay, an, it, ln) (nI p) (nI n) v := by
  unfold wpY_put
  dsimp only
  rw [xa_ix, xa_c (show p * 40 + n < 320 by omega), nI_1]
  exact pk_eq n 40 (fun h => by omega) (fun h => ⟨xa_i320 (by omega), nm_e H⟩)
theorem ys_put {post : Int32 → SY → Prop} {n : Nat} {v : Int32} (hp : p < 8) (W : ny_W kd xi yi an L it0 p c it) (g : nw_g kd xi yi L (nw_V it0) p c) (em : nw_em kd xi (nw_V it0) p c) (hn : n = nw_pos kd xi (nw_V it0) p c) (hv : nw_val kd xi yi an (nw_V it0) p c = v)
    (H : ∀ it', ny_W kd xi yi an L it0 p (c + 1) it' → post (nI (n + 1)) (f, ak, ax, ay, an, it', ln)) : wpY_put post (f, ak, ax, ay, an, it, ln) (nI p) (nI n) v := by
  have hc : nw_pos kd xi (nw_V it0) p c < 40 := Nat.lt_of_le_of_lt (pn_pos_le _ _ _) g.1
  refine ym_put hp (by omega) (H _ ?_)
  rw [← hv, hn]
  exact ny_put hp W g em
/-- what is asked after a stream -/
def ys_H (kd xi yi : Nat → Nat) (f : Int32) (ak ax ay an it0 ln : Nat → Int32) (L : Nat → Nat) (p : Nat) (post : Int32 → SY → Prop) : Prop :=
  ∀ it c, ny_W kd xi yi an L it0 p c it → ¬ nw_g kd xi yi L (nw_V it0) p c → post (nI (nw_pos kd xi (nw_V it0) p c)) (f, ak, ax, ay, an, it, ln)
theorem ys_e {post : Int32 → SY → Prop} (H : ys_H kd xi yi f ak ax ay an it0 ln L p post) (hk : kd p ≠ 4) (W : ny_W kd xi yi an L it0 p c it) (ng : ¬ nw_g kd xi yi L (nw_V it0) p c) : post (nI c) (f, ak, ax, ay, an, it, ln) := by
  have := H it c W ng
  rwa [show nw_pos kd xi (nw_V it0) p c = c from pn_pos_n hk _ _] at this
theorem yl_start0 {post : Int32 → SY → Prop} (A : nw_A kd xi yi ak ax ay) (hp : p < 8) (hk : kd p = 0) (H : ys_H kd xi yi f ak ax ay an it0 ln L p post) :
    ∀ d c n, c + d = 40 → d < n → ∀ it, ny_W kd xi yi an L it0 p c it → wY_start_4 post (nI p) n (nI c) (nI c) f ak ax ay an it ln := by
  have ek : ak p = 0 := by rw [(A p hp).2.1, hk]; rfl
  intro d
  induction d with
  | zero =>
    intro c n hc hn it W
    obtain ⟨n, rfl⟩ : ∃ m, n = m + 1 := ⟨n - 1, by omega⟩
    rw [wY_start_4, xa_c8 hp]
    refine ⟨xa_i8 hp, br_t ek ?_⟩
    unfold wY_start_20
    refine pk_le 40 c (fun h => ys_e H (by omega) W (fun g => ?_)) (fun h => by omega)
    have := g.1
    omega
  | succ d ih =>
    intro c n hc hn it W
    obtain ⟨n, rfl⟩ : ∃ m, n = m + 1 := ⟨n - 1, by omega⟩
    rw [wY_start_4, xa_c8 hp]
    refine ⟨xa_i8 hp, br_t ek ?_⟩
    unfold wY_start_20
    refine pk_le 40 c (fun h => by omega) (fun h => ?_)
    rw [xa_c8 hp]
    refine ⟨xa_i8 hp, br_t ek ⟨xa_i8 hp, ?_⟩⟩
    unfold wY_start_58
    refine ys_put hp W ((pn_g0 hk).mpr h) (fun z => by omega) (pn_pos_n (by omega) _ _).symm (pn_v0 hk) (fun it' W' => nm_r (nI_1 c) (ih (c + 1) n (by omega) (by omega) it' W'))
theorem yl_start1 {post : Int32 → SY → Prop} (A : nw_A kd xi yi ak ax ay) (hp : p < 8) (hk : kd p = 1) (H : ys_H kd xi yi f ak ax ay an it0 ln L p post) :
    ∀ d c n, c + d = 5 → d < n → ∀ it, ny_W kd xi yi an L it0 p c it → wY_start_4 post (nI p) n (nI c) (nI c) f ak ax ay an it ln := by
  have ek : ¬ ak p = 0 := by rw [(A p hp).2.1, hk]; decide
  intro d
  induction d with
  | zero =>
    intro c n hc hn it W
    obtain ⟨n, rfl⟩ : ∃ m, n = m + 1 := ⟨n - 1, by omega⟩
    rw [wY_start_4, xa_c8 hp]
    refine ⟨xa_i8 hp, br_f ek ?_⟩
    unfold wY_start_20
    refine pk_le 5 c (fun h => ys_e H (by omega) W (fun g => ?_)) (fun h => by omega)
    have := (pn_g1 hk).mp g
    omega
  | succ d ih =>
    intro c n hc hn it W
    obtain ⟨n, rfl⟩ : ∃ m, n = m + 1 := ⟨n - 1, by omega⟩
    rw [wY_start_4, xa_c8 hp]
    refine ⟨xa_i8 hp, br_f ek ?_⟩
    unfold wY_start_20
    refine pk_le 5 c (fun h => by omega) (fun h => ?_)
    rw [xa_c8 hp]
    refine ⟨xa_i8 hp, br_f ek ⟨xa_i8 hp, ?_⟩⟩
    unfold wY_start_58
    refine ys_put hp W ((pn_g1 hk).mpr ⟨by omega, h⟩) (fun z => by omega) (pn_pos_n (by omega) _ _).symm (pn_v1 hk) (fun it' W' => nm_r (nI_1 c) (ih (c + 1) n (by omega) (by omega) it' W'))
theorem yl_add {post : Int32 → SY → Prop} (A : nw_A kd xi yi ak ax ay) (B : nw_B kd xi yi an L (nw_V it0) C) (hl : ∀ q, q < 8 → ln q = nI (L q)) (hp : p < 8) (hk : kd p = 2) (H : ys_H kd xi yi f ak ax ay an it0 ln L p post) :
    ∀ d i n, i + d = 40 → d < n → ∀ c it, c ≤ i → (c = i ∨ ¬ nw_g kd xi yi L (nw_V it0) p c) → ny_W kd xi yi an L it0 p c it → wY_add_4 post (nI p) n (nI c) (nI i) f ak ax ay an it ln := by
  obtain ⟨⟨_, hx, hy⟩, _, ex, ey⟩ := A p hp
  have lx := nw_l40 B hx
  have ly := nw_l40 B hy
  intro d
  induction d with
  | zero =>
    intro i n hc hn c it hci hQ W
    obtain ⟨n, rfl⟩ : ∃ m, n = m + 1 := ⟨n - 1, by omega⟩
    rw [wY_add_4]
    refine pk_le 40 i (fun h => ys_e H (by omega) W (fun g => ?_)) (fun h => by omega)
    rcases hQ with e | e
    · have := g.1
      omega
    · exact e g
  | succ d ih =>
    intro i n hc hn c it hci hQ W
    obtain ⟨n, rfl⟩ : ∃ m, n = m + 1 := ⟨n - 1, by omega⟩
    rw [wY_add_4]
    refine pk_le 40 i (fun h => by omega) (fun h => ?_)
    rw [xa_c8 hp, ex, ey, xa_c8 hx, xa_c8 hy, hl _ hx, hl _ hy]
    refine ⟨xa_i8 hp, xa_i8 hx, pk_le (L (xi p)) i (fun h1 => ?_) (fun h1 => ⟨xa_i8 hp, xa_i8 hy, pk_le (L (yi p)) i (fun h2 => ?_) (fun h2 => ?_)⟩)⟩
    · refine nm_r (nI_1 i) (ih (i + 1) n (by omega) (by omega) c it (by omega) (Or.inr (fun g => ?_)) W)
      rcases hQ with e | e
      · have := (pn_g2 hk).mp g
        omega
      · exact e g
    · refine nm_r (nI_1 i) (ih (i + 1) n (by omega) (by omega) c it (by omega) (Or.inr (fun g => ?_)) W)
      rcases hQ with e | e
      · have := (pn_g2 hk).mp g
        omega
      · exact e g
    · have g : nw_g kd xi yi L (nw_V it0) p c := (pn_g2 hk).mpr ⟨by omega, by omega, by omega⟩
      have e : c = i := by
        rcases hQ with e | e
        · exact e
        · exact absurd g e
      subst e
      rw [xa_ix, xa_ix, xa_c (show xi p * 40 + c < 320 by omega), xa_c (show yi p * 40 + c < 320 by omega), ny_ag B hp W hx h1, ny_ag B hp W hy h2]
      refine ⟨xa_i8 hp, xa_i320 (by omega), xa_i8 hp, xa_i320 (by omega), ?_⟩
      exact ys_put hp W g (fun z => by omega) (pn_pos_n (by omega) _ _).symm (pn_v2 hk) (fun it' W' => nm_r (nI_1 c) (ih (c + 1) n (by omega) (by omega) (c + 1) it' (Nat.le_refl _) (Or.inl rfl) W'))
theorem yl_turn1 {post : Int32 → SY → Prop} {J : Int32 → Int32 → Int32 → (Nat → Int32) → (Nat → Int32) → (Nat → Int32) → (Nat → Int32) → (Nat → Int32) → (Nat → Int32) → Prop} (B : nw_B kd xi yi an L (nw_V it0) C) (hl : ∀ q, q < 8 → ln q = nI (L q)) (hp : p < 8) (hk : kd p = 3) {i z : Nat} (hi : i < 40) (hci : c ≤ i) (hz : z < 8)
    (e1 : (if i % 2 = 0 then L (xi p) else L (yi p)) = L z) (e2 : nw_val kd xi yi an (nw_V it0) p i = it0 (z * 40 + i / 2)) (hQ : c = i ∨ ¬ nw_g kd xi yi L (nw_V it0) p c) (W : ny_W kd xi yi an L it0 p c it)
    (HJ : ∀ c' it', c' ≤ i + 1 → (c' = i + 1 ∨ ¬ nw_g kd xi yi L (nw_V it0) p c') → ny_W kd xi yi an L it0 p c' it' → J (nI c') (nI (i + 1)) f ak ax ay an it' ln) : wY_turn_31 post J (nI p) (nI c) (nI i) (nI z) f ak ax ay an it ln := by
  have lz := nw_l40 B hz
  unfold wY_turn_31
  rw [xa_c8 hz, hl _ hz, xa_half (by omega), xa_ix, xa_c (show z * 40 + i / 2 < 320 by omega)]
  refine pk_eq c i (fun e => ⟨xa_2, xa_i8 hz, pk_le (L z) (i / 2) (fun h1 => ?_) (fun h1 => ⟨xa_2, xa_i320 (by omega), ?_⟩)⟩) (fun e => ?_)
  · refine nm_r (nI_1 i) (HJ c it (by omega) (Or.inr (fun g => ?_)) W)
    have := (pn_g3 hk).mp g
    rw [e, e1] at this
    omega
  · subst e
    rw [ny_ag B hp W hz h1]
    exact ys_put hp W ((pn_g3 hk).mpr ⟨hi, by rw [e1]; exact h1⟩) (fun z => by omega) (pn_pos_n (by omega) _ _).symm e2 (fun it' W' => nm_r (nI_1 c) (HJ (c + 1) it' (Nat.le_refl _) (Or.inl rfl) W'))
  · refine nm_r (nI_1 i) (HJ c it (by omega) (Or.inr ?_) W)
    rcases hQ with e' | e'
    · exact absurd e' e
    · exact e'
theorem yl_turn {post : Int32 → SY → Prop} (A : nw_A kd xi yi ak ax ay) (B : nw_B kd xi yi an L (nw_V it0) C) (hl : ∀ q, q < 8 → ln q = nI (L q)) (hp : p < 8) (hk : kd p = 3) (H : ys_H kd xi yi f ak ax ay an it0 ln L p post) :
    ∀ d i n, i + d = 40 → d < n → ∀ c it, c ≤ i → (c = i ∨ ¬ nw_g kd xi yi L (nw_V it0) p c) → ny_W kd xi yi an L it0 p c it → wY_turn_4 post (nI p) n (nI c) (nI i) f ak ax ay an it ln := by
  obtain ⟨⟨_, hx, hy⟩, _, ex, ey⟩ := A p hp
  intro d
  induction d with
  | zero =>
    intro i n hc hn c it hci hQ W
    obtain ⟨n, rfl⟩ : ∃ m, n = m + 1 := ⟨n - 1, by omega⟩
    rw [wY_turn_4]
    refine pk_le 40 i (fun h => ys_e H (by omega) W (fun g => ?_)) (fun h => by omega)
    rcases hQ with e | e
    · have := g.1
      omega
    · exact e g
  | succ d ih =>
    intro i n hc hn c it hci hQ W
    obtain ⟨n, rfl⟩ : ∃ m, n = m + 1 := ⟨n - 1, by omega⟩
    rw [wY_turn_4]
    refine pk_le 40 i (fun h => by omega) (fun h => ?_)
    rw [xa_par (by omega), xa_c8 hp, ex, ey]
    refine ⟨xa_2, pk_eq (i % 2) 0 (fun h2 => ⟨xa_i8 hp, ?_⟩) (fun h2 => ⟨xa_i8 hp, ?_⟩)⟩
    · exact yl_turn1 B hl hp hk h hci hx (if_pos h2) ((pn_v3 hk).trans (if_pos h2)) hQ W (fun c' it' h1 h2 h3 => ih (i + 1) n (by omega) (by omega) c' it' h1 h2 h3)
    · exact yl_turn1 B hl hp hk h hci hy (if_neg h2) ((pn_v3 hk).trans (if_neg h2)) hQ W (fun c' it' h1 h2 h3 => ih (i + 1) n (by omega) (by omega) c' it' h1 h2 h3)
end
end
section
/-! the reference's one (ODD, SUM, DELAY), merge, and stream -/
section
variable {ak ax ay an it it0 ln : Nat → Int32} {kd xi yi L C : Nat → Nat} {p c : Nat} {f : Int32}
theorem yl_one {post : Int32 → SY → Prop} (A : nw_A kd xi yi ak ax ay) (B : nw_B kd xi yi an L (nw_V it0) C) (hp : p < 8) (hk : kd p = 4 ∨ kd p = 7) (H : ys_H kd xi yi f ak ax ay an it0 ln L p post) :
    ∀ d c n, c + d = L (xi p) → d < n → ∀ it, ny_W kd xi yi an L it0 p c it → wY_one_114 post (nI p) (nI (xi p)) (nI (L (xi p))) n (nI (nw_pos kd xi (nw_V it0) p c)) (pn_sm (nw_V it0 (xi p)) c) (nI c) f ak ax ay an it ln := by
  obtain ⟨⟨_, hx, hy⟩, ek, ex, ey⟩ := A p hp
  have lx := nw_l40 B hx
  intro d
  induction d with
  | zero =>
    intro c n hc hn it W
    obtain ⟨n, rfl⟩ : ∃ m, n = m + 1 := ⟨n - 1, by omega⟩
    rw [wY_one_114]
    refine pk_le (L (xi p)) c (fun h => H it c W (fun g => ?_)) (fun h => by omega)
    rcases hk with hk | hk
    · have := (pn_g4 hk).mp g
      omega
    · have := (pn_g7 hk).mp g
      omega
  | succ d ih =>
    intro c n hc hn it W
    obtain ⟨n, rfl⟩ : ∃ m, n = m + 1 := ⟨n - 1, by omega⟩
    rw [wY_one_114]
    refine pk_le (L (xi p)) c (fun h => by omega) (fun h => ?_)
    rw [xa_ix, xa_c (show xi p * 40 + c < 320 by omega), ny_ag B hp W hx h, xa_c8 hp, ek]
    refine ⟨xa_i320 (by omega), nm_e (nm_e ⟨xa_i8 hp, ?_⟩)⟩
    rcases hk with hk | hk
    · have g : nw_g kd xi yi L (nw_V it0) p c := (pn_g4 hk).mpr ⟨by omega, h⟩
      refine br_f (by rw [hk]; decide) (br_c (fun ho => ?_) (fun ho => ?_))
      · have em : nw_em kd xi (nw_V it0) p c := fun _ => ho
        refine ys_put hp W g em rfl (pn_v4 hk) (fun it' W' => nm_r (nI_1 c) ?_)
        have := ih (c + 1) n (by omega) (by omega) it' W'
        rwa [show nw_pos kd xi (nw_V it0) p (c + 1) = nw_pos kd xi (nw_V it0) p c + 1 from pn_pos_s em] at this
      · have em : ¬ nw_em kd xi (nw_V it0) p c := fun z => ho (z hk)
        refine nm_r (nI_1 c) ?_
        have := ih (c + 1) n (by omega) (by omega) it (ny_skip W g em)
        rwa [show nw_pos kd xi (nw_V it0) p (c + 1) = nw_pos kd xi (nw_V it0) p c from pn_pos_ns em] at this
    · have g : nw_g kd xi yi L (nw_V it0) p c := (pn_g7 hk).mpr ⟨by omega, h⟩
      have em : nw_em kd xi (nw_V it0) p c := fun z => by omega
      refine br_t (by rw [hk]; rfl) ?_
      refine ys_put hp W g em rfl (pn_v7 hk) (fun it' W' => nm_r (nI_1 c) ?_)
      have := ih (c + 1) n (by omega) (by omega) it' W'
      rwa [show nw_pos kd xi (nw_V it0) p (c + 1) = nw_pos kd xi (nw_V it0) p c + 1 from pn_pos_s em] at this
/-- DELAY writes from its end down -/
def yl_D (it0 : Nat → Int32) (x p m i : Nat) (it : Nat → Int32) : Prop := ∀ q, q < 8 → ∀ j, j < 40 → it (q * 40 + j) = if q = p ∧ i < j ∧ j ≤ m then it0 (x * 40 + (j - 1)) else it0 (q * 40 + j)
theorem yl_delay {post : Int32 → SY → Prop} (A : nw_A kd xi yi ak ax ay) (B : nw_B kd xi yi an L (nw_V it0) C) (hp : p < 8) (hk : kd p = 5) (H : ys_H kd xi yi f ak ax ay an it0 ln L p post) {m : Nat} (hm : m ≤ 39) (hm1 : m ≤ L (xi p)) (hm2 : L (xi p) ≤ 39 → m = L (xi p)) (hm3 : 39 ≤ L (xi p) → m = 39) :
    ∀ i n, i ≤ m → i < n → ∀ it, yl_D it0 (xi p) p m i it → wY_one_44 post (nI p) (nI (xi p)) (nI (L (xi p))) f n (nI i) ak ax ay an it ln := by
  obtain ⟨⟨_, hx, hy⟩, ek, ex, ey⟩ := A p hp
  have lx := nw_l40 B hx
  intro i
  induction i with
  | zero =>
    intro n him hn it D
    obtain ⟨n, rfl⟩ : ∃ m, n = m + 1 := ⟨n - 1, by omega⟩
    have W : ny_W kd xi yi an L it0 p (m + 1) (upd it (p * 40) (an p)) := by
      refine ⟨fun d hd => (pn_g5 hk).mpr ⟨by omega, by omega⟩, fun d hd _ => ?_, fun q hq j hj h => ?_⟩
      · rw [show nw_pos kd xi (nw_V it0) p d = d from pn_pos_n (by omega) _ _, show nw_val kd xi yi an (nw_V it0) p d = _ from pn_v5 hk]
        by_cases e : d = 0
        · rw [if_pos e, e]; exact pk_us
        · rw [if_neg e, pk_un (by omega), D p hp d (by omega), if_pos ⟨rfl, by omega, by omega⟩]
          rfl
      · rw [show nw_pos kd xi (nw_V it0) p (m + 1) = m + 1 from pn_pos_n (by omega) _ _] at h
        rw [pk_un (by omega), D q hq j hj, if_neg (by omega)]
    have ng : ¬ nw_g kd xi yi L (nw_V it0) p (m + 1) := by
      intro g
      have := (pn_g5 hk).mp g
      omega
    have P := ys_e H (by omega) W ng
    rw [wY_one_44]
    refine br_t (by decide) ?_
    rw [xa_ix0, xa_c8 hp, xa_c (show p * 40 < 320 by omega)]
    refine ⟨xa_i8 hp, xa_i320 (by omega), nm_e (pk_le 39 (L (xi p)) (fun h => ?_) (fun h => ?_))⟩
    · rw [hm3 h] at P
      exact P
    · rw [hm2 (by omega)] at P
      rw [nI_1]
      exact P
  | succ i ih =>
    intro n him hn it D
    obtain ⟨n, rfl⟩ : ∃ m, n = m + 1 := ⟨n - 1, by omega⟩
    rw [wY_one_44]
    refine br_f (nI_nle (by omega) (by omega)) ?_
    rw [xa_ix, xa_ix, show nI (xi p * 40 + (i + 1)) - 1 = nI (xi p * 40 + i) from nI_pred _, xa_c (show xi p * 40 + i < 320 by omega), xa_c (show p * 40 + (i + 1) < 320 by omega)]
    refine ⟨xa_i320 (by omega), xa_i320 (by omega), nm_e (nm_r (pk_m1 i) (ih n (by omega) (by omega) _ ?_))⟩
    intro q hq j hj
    have e0 := D (xi p) hx i (by omega)
    rw [if_neg (by omega)] at e0
    by_cases e : q = p ∧ j = i + 1
    · obtain ⟨e1, e2⟩ := e
      subst e1 e2
      rw [pk_us, if_pos ⟨rfl, by omega, by omega⟩, e0]
      rfl
    · rw [pk_un (by omega), D q hq j hj]
      by_cases h : q = p ∧ i + 1 < j ∧ j ≤ m
      · rw [if_pos h, if_pos ⟨h.1, by omega, h.2.2⟩]
      · rw [if_neg h, if_neg (by omega)]
theorem ys_one {post : Int32 → SY → Prop} (A : nw_A kd xi yi ak ax ay) (B : nw_B kd xi yi an L (nw_V it0) C) (hl : ∀ q, q < 8 → ln q = nI (L q)) (hp : p < 8) (hk : kd p = 4 ∨ kd p = 5 ∨ kd p = 7) (H : ys_H kd xi yi f ak ax ay an it0 ln L p post) : wpY_one post (f, ak, ax, ay, an, it0, ln) (nI p) := by
  obtain ⟨⟨_, hx, hy⟩, ek, ex, ey⟩ := A p hp
  have lx := nw_l40 B hx
  unfold wpY_one
  dsimp only
  rw [xa_c8 hp, ex, ek]
  refine ⟨xa_i8 hp, nm_e ⟨xa_i8 hx, ?_⟩⟩
  rw [xa_c8 hx, hl _ hx]
  refine nm_e ⟨xa_i8 hp, ?_⟩
  have D0 : ∀ m, yl_D it0 (xi p) p m m it0 := fun m q _ j _ => (if_neg (by omega)).symm
  have h1 : kd p ≠ 5 → ∃ n114 : Nat, wY_one_114 post (nI p) (nI (xi p)) (nI (L (xi p))) n114 0 0 0 f ak ax ay an it0 ln := by
    intro h5
    refine ⟨L (xi p) + 1, ?_⟩
    have := yl_one A B hp (by omega) H (L (xi p)) 0 (L (xi p) + 1) (by omega) (by omega) it0 ny_0
    rw [show nw_pos kd xi (nw_V it0) p 0 = 0 from pn_pos_0 _ _] at this
    exact this
  refine pk_eq (kd p) 5 (fun h5 => pk_le 39 (L (xi p)) (fun h => ⟨40, ?_⟩) (fun h => ⟨L (xi p) + 1, ?_⟩)) h1
  · exact yl_delay A B hp h5 H (m := 39) (by omega) h (fun z => by omega) (fun _ => rfl) 39 40 (by omega) (by omega) it0 (D0 39)
  · exact yl_delay A B hp h5 H (m := L (xi p)) (by omega) (by omega) (fun _ => rfl) (fun z => by omega) (L (xi p)) (L (xi p) + 1) (by omega) (by omega) it0 (D0 _)
theorem yl_merge {post : Int32 → SY → Prop} (A : nw_A kd xi yi ak ax ay) (B : nw_B kd xi yi an L (nw_V it0) C) (hl : ∀ q, q < 8 → ln q = nI (L q)) (hp : p < 8) (hk : kd p = 6) (H : ys_H kd xi yi f ak ax ay an it0 ln L p post) :
    ∀ d i n, i + d = 40 → d < n → ∀ c a b it, c ≤ i → a = nw_mi xi yi (nw_V it0) p c → b = c - a → (c = i ∨ ¬ nw_g kd xi yi L (nw_V it0) p c) → ny_W kd xi yi an L it0 p c it → wY_merge_10 post (nI p) n (nI c) (nI a) (nI b) (nI i) f ak ax ay an it ln := by
  obtain ⟨⟨_, hx, hy⟩, _, ex, ey⟩ := A p hp
  have lx := nw_l40 B hx
  have ly := nw_l40 B hy
  intro d
  induction d with
  | zero =>
    intro i n hc hn c a b it hci ha hb hQ W
    obtain ⟨n, rfl⟩ : ∃ m, n = m + 1 := ⟨n - 1, by omega⟩
    rw [wY_merge_10]
    refine pk_le 40 i (fun h => ys_e H (by omega) W (fun g => ?_)) (fun h => by omega)
    rcases hQ with e | e
    · have := g.1
      omega
    · exact e g
  | succ d ih =>
    intro i n hc hn c a b it hci ha hb hQ W
    obtain ⟨n, rfl⟩ : ∃ m, n = m + 1 := ⟨n - 1, by omega⟩
    have hle : nw_mi xi yi (nw_V it0) p c ≤ c := pn_mi_le _ _ _
    have hv : nw_val kd xi yi an (nw_V it0) p c = if nw_V it0 (xi p) (nw_mi xi yi (nw_V it0) p c) ≤ nw_V it0 (yi p) (c - nw_mi xi yi (nw_V it0) p c) then nw_V it0 (xi p) (nw_mi xi yi (nw_V it0) p c) else nw_V it0 (yi p) (c - nw_mi xi yi (nw_V it0) p c) := pn_v6 hk
    have hs : nw_mi xi yi (nw_V it0) p (c + 1) = if nw_V it0 (xi p) (nw_mi xi yi (nw_V it0) p c) ≤ nw_V it0 (yi p) (c - nw_mi xi yi (nw_V it0) p c) then nw_mi xi yi (nw_V it0) p c + 1 else nw_mi xi yi (nw_V it0) p c := rfl
    have gi : nw_g kd xi yi L (nw_V it0) p c ↔ c < 40 ∧ nw_mi xi yi (nw_V it0) p c < L (xi p) ∧ c - nw_mi xi yi (nw_V it0) p c < L (yi p) := pn_g6 hk
    rw [← ha] at hv hs gi hle
    rw [← hb] at hv hs gi
    rw [wY_merge_10]
    refine pk_le 40 i (fun h => by omega) (fun h => ?_)
    rw [xa_c8 hp, ex, ey, xa_c8 hx, xa_c8 hy, hl _ hx, hl _ hy]
    refine ⟨xa_i8 hp, xa_i8 hx, pk_le (L (xi p)) a (fun h1 => ?_) (fun h1 => ⟨xa_i8 hp, xa_i8 hy, pk_le (L (yi p)) b (fun h2 => ?_) (fun h2 => ?_)⟩)⟩
    · refine nm_r (nI_1 i) (ih (i + 1) n (by omega) (by omega) c a b it (by omega) ha hb (Or.inr (fun g => ?_)) W)
      have := gi.mp g
      omega
    · refine nm_r (nI_1 i) (ih (i + 1) n (by omega) (by omega) c a b it (by omega) ha hb (Or.inr (fun g => ?_)) W)
      have := gi.mp g
      omega
    · have g : nw_g kd xi yi L (nw_V it0) p c := gi.mpr ⟨by omega, h1, h2⟩
      have e : c = i := by
        rcases hQ with e | e
        · exact e
        · exact absurd g e
      subst e
      rw [xa_ix, xa_ix, xa_c (show xi p * 40 + a < 320 by omega), xa_c (show yi p * 40 + b < 320 by omega), ny_ag B hp W hx h1, ny_ag B hp W hy h2]
      refine ⟨xa_i8 hp, xa_i320 (by omega), nm_e ⟨xa_i8 hp, xa_i320 (by omega), nm_e (br_c (fun hc => ?_) (fun hc => ?_))⟩⟩
      · have hc' : nw_V it0 (xi p) a ≤ nw_V it0 (yi p) b := hc
        rw [if_pos hc'] at hv hs
        exact ys_put hp W g (fun z => by omega) (pn_pos_n (by omega) _ _).symm hv (fun it' W' => nm_r (nI_1 a) (nm_r (nI_1 c) (ih (c + 1) n (by omega) (by omega) (c + 1) (a + 1) b it' (Nat.le_refl _) hs.symm (by omega) (Or.inl rfl) W')))
      · have hc' : ¬ nw_V it0 (xi p) a ≤ nw_V it0 (yi p) b := hc
        rw [if_neg hc'] at hv hs
        exact ys_put hp W g (fun z => by omega) (pn_pos_n (by omega) _ _).symm hv (fun it' W' => nm_r (nI_1 b) (nm_r (nI_1 c) (ih (c + 1) n (by omega) (by omega) (c + 1) a (b + 1) it' (Nat.le_refl _) hs.symm (by omega) (Or.inl rfl) W')))
theorem ys_stream {post : Int32 → SY → Prop} (A : nw_A kd xi yi ak ax ay) (B : nw_B kd xi yi an L (nw_V it0) C) (hl : ∀ q, q < 8 → ln q = nI (L q)) (hp : p < 8) (H : ys_H kd xi yi f ak ax ay an it0 ln L p post) : wpY_stream post (f, ak, ax, ay, an, it0, ln) (nI p) := by
  obtain ⟨⟨hk8, hx, hy⟩, ek, ex, ey⟩ := A p hp
  unfold wpY_stream
  dsimp only
  rw [xa_c8 hp, ek]
  refine ⟨xa_i8 hp, pk_le 2 (kd p) (fun h => ⟨xa_i8 hp, pk_eq (kd p) 2 (fun h2 => ?_) (fun h2 => ⟨xa_i8 hp, pk_eq (kd p) 3 (fun h3 => ?_) (fun h3 => ⟨xa_i8 hp, pk_eq (kd p) 6 (fun h6 => ?_) (fun h6 => ?_)⟩)⟩)⟩) (fun h => ?_)⟩
  · unfold wpY_add
    exact ⟨41, yl_add A B hl hp h2 H 40 0 41 rfl (by decide) 0 it0 (Nat.le_refl _) (Or.inl rfl) ny_0⟩
  · unfold wpY_turn
    exact ⟨41, yl_turn A B hl hp h3 H 40 0 41 rfl (by decide) 0 it0 (Nat.le_refl _) (Or.inl rfl) ny_0⟩
  · unfold wpY_merge
    exact ⟨41, yl_merge A B hl hp h6 H 40 0 41 rfl (by decide) 0 0 0 it0 (Nat.le_refl _) rfl rfl (Or.inl rfl) ny_0⟩
  · exact ys_one A B hl hp (by omega) H
  · unfold wpY_start
    by_cases h0 : kd p = 0
    · exact ⟨41, yl_start0 A hp h0 H 40 0 41 rfl (by decide) it0 ny_0⟩
    · exact ⟨41, yl_start1 A hp (by omega) H 5 0 41 rfl (by decide) it0 ny_0⟩
end
end
section
/-! the reference's working out -/
def yw_Q (kd xi yi : Nat → Nat) (it : Nat → Int32) (L C : Nat → Nat) (x : Int32) (r p : Nat) : Prop :=
  (x = 0 ∧ r ≤ nw_s8 L ∧ ∀ q, q < p → ¬ nw_g kd xi yi L (nw_V it) q (C q)) ∨ (x = 1 ∧ r + 1 ≤ nw_s8 L)
theorem nw_ueq (L : Nat → Nat) (p : Nat) : nw_u L p (L p) = L := by
  funext q
  by_cases e : q = p
  · subst e; exact nw_us
  · exact nw_un e
section
variable {ak ax ay an : Nat → Int32} {kd xi yi : Nat → Nat} {f : Int32}
theorem yw_one (N : nw_N kd xi yi) {it ln it' : Nat → Int32} {L C : Nat → Nat} {p c : Nat} (hp : p < 8) (I : nw_I kd xi yi an L (nw_V it) C) (W : ny_W kd xi yi an L it p c it') (ng : ¬ nw_g kd xi yi L (nw_V it) p c) :
    nw_Le L (nw_V it) (nw_u L p (nw_pos kd xi (nw_V it) p c)) (nw_V it') ∧ nw_I kd xi yi an (nw_u L p (nw_pos kd xi (nw_V it) p c)) (nw_V it') (nw_u C p c) := by
  refine nw_adv N I hp ?_ W.1 (fun q hq e i hi => W.2.2 q hq i (Nat.lt_of_lt_of_le hi (nw_l40 I.1 hq)) (Or.inl e)) W.2.1
  apply Nat.le_of_not_lt
  intro h
  exact ng ((I.1 p hp).2 c h).1
theorem yl_53 {post : SY → Prop} {J : Int32 → Int32 → Int32 → (Nat → Int32) → (Nat → Int32) → (Nat → Int32) → (Nat → Int32) → (Nat → Int32) → (Nat → Int32) → Prop} {r : Nat} (A : nw_A kd xi yi ak ax ay)
    (HJ : ∀ x it ln L C, nw_I kd xi yi an L (nw_V it) C → (∀ q, q < 8 → ln q = nI (L q)) → ((x = 0 ∧ nw_S kd xi yi L (nw_V it) C) ∨ (x = 1 ∧ r + 1 ≤ nw_s8 L)) → J x (nI (r + 1)) f ak ax ay an it ln) :
    ∀ d p n, p + d = 8 → d < n → ∀ x it ln L C, nw_I kd xi yi an L (nw_V it) C → (∀ q, q < 8 → ln q = nI (L q)) → yw_Q kd xi yi it L C x r p → wY_workOut_53 post J (nI r) n x (nI p) f ak ax ay an it ln := by
  intro d
  induction d with
  | zero =>
    intro p n hp hn x it ln L C I hl Q
    obtain ⟨n, rfl⟩ : ∃ m, n = m + 1 := ⟨n - 1, by omega⟩
    have hp8 : p = 8 := by omega
    subst hp8
    rw [wY_workOut_53]
    refine br_t (by decide) (nm_r (nI_1 r) (HJ _ _ _ _ _ I hl ?_))
    rcases Q with h | h
    · exact Or.inl ⟨h.1, h.2.2⟩
    · exact Or.inr h
  | succ d ih =>
    intro p n hp hn x it ln L C I hl Q
    obtain ⟨n, rfl⟩ : ∃ m, n = m + 1 := ⟨n - 1, by omega⟩
    rw [wY_workOut_53]
    refine pk_le 8 p (fun h => by omega) (fun h => ?_)
    refine ys_stream A I.1 hl h (fun it' c W ng => ?_)
    have N := nw_AN A
    obtain ⟨le, I'⟩ := yw_one (ln := ln) N h I W ng
    have l40 := nw_l40 I'.1 h
    have ll := (le p h).1
    have l0 := nw_l40 I.1 h
    rw [nw_us] at l40 ll
    dsimp only
    rw [xa_c8 h, hl p h]
    refine ⟨xa_i8 h, pk_eq (nw_pos kd xi (nw_V it) p c) (L p) (fun e => ?_) (fun e => ⟨xa_i8 h, ?_⟩)⟩
    · rw [e, nw_ueq] at le I'
      refine nm_r (nI_1 p) (ih (p + 1) n (by omega) (by omega) x it' ln L (nw_u C p c) I' hl ?_)
      rcases Q with ⟨h1, h2, h3⟩ | h1
      · refine Or.inl ⟨h1, h2, fun q hq g => ?_⟩
        have hq8 : q < 8 := by omega
        have le' : nw_Le L (nw_V it') L (nw_V it) := fun q hq => ⟨Nat.le_refl _, fun i hi => ((le q hq).2 i hi).symm⟩
        have l1 := ((nw_loc (nu := an) N le' hq8 (fun c' h' => ((I'.1 q hq8).2 c' h').1)).2.2 g).1
        by_cases e1 : q = p
        · subst e1
          rw [nw_us] at l1
          exact ng l1
        · rw [nw_un e1] at l1
          exact h3 q (by omega) l1
      · exact Or.inr h1
    · refine nm_e (nm_r (nI_1 p) (ih (p + 1) n (by omega) (by omega) 1 it' _ _ _ I' (fun q hq => ?_) ?_))
      · by_cases e1 : q = p
        · subst e1; rw [pk_us, nw_us]
        · rw [pk_un e1, nw_un e1]; exact hl q hq
      · have e2 := nw_s8u L (nw_pos kd xi (nw_V it) p c) h
        refine Or.inr ⟨rfl, ?_⟩
        rcases Q with ⟨h1, h2, h3⟩ | ⟨h1, h2⟩ <;> omega
theorem yl_38 {post : SY → Prop} (A : nw_A kd xi yi ak ax ay) (HP : ∀ it ln, nd_D kd xi yi an it ln → post (f, ak, ax, ay, an, it, ln)) :
    ∀ d r n, r + d = 321 → d < n → ∀ x it ln L C, nw_I kd xi yi an L (nw_V it) C → (∀ q, q < 8 → ln q = nI (L q)) → ((x = 0 ∧ nw_S kd xi yi L (nw_V it) C) ∨ (x = 1 ∧ r ≤ nw_s8 L)) → wY_workOut_38 post n x (nI r) f ak ax ay an it ln := by
  intro d
  induction d with
  | zero =>
    intro r n hr hn x it ln L C I hl Q
    obtain ⟨n, rfl⟩ : ∃ m, n = m + 1 := ⟨n - 1, by omega⟩
    rw [wY_workOut_38]
    rcases Q with h | h
    · exact pk_le 321 r (fun _ => HP _ _ ⟨L, C, I, h.2, hl⟩) (fun _ => br_t h.1 (HP _ _ ⟨L, C, I, h.2, hl⟩))
    · have := nw_s8_le (fun q hq => nw_l40 I.1 (q := q) hq)
      have := h.2
      exact absurd this (by omega)
  | succ d ih =>
    intro r n hr hn x it ln L C I hl Q
    obtain ⟨n, rfl⟩ : ∃ m, n = m + 1 := ⟨n - 1, by omega⟩
    rw [wY_workOut_38]
    refine pk_le 321 r (fun h => by omega) (fun h => ?_)
    rcases Q with h1 | h1
    · exact br_t h1.1 (HP _ _ ⟨L, C, I, h1.2, hl⟩)
    · refine br_f (by rw [h1.1]; decide) ⟨9, ?_⟩
      refine yl_53 A (fun x' it' ln' L' C' I' hl' Q' => ih (r + 1) n (by omega) (by omega) x' it' ln' L' C' I' hl' Q') 8 0 9 rfl (by decide) 0 it ln L C I hl (Or.inl ⟨rfl, h1.2, fun q hq => absurd hq (Nat.not_lt_zero _)⟩)
theorem yl_15 {post : SY → Prop} (A : nw_A kd xi yi ak ax ay) (HP : ∀ it ln, nd_D kd xi yi an it ln → post (f, ak, ax, ay, an, it, ln)) {it : Nat → Int32} :
    ∀ d p n, p + d = 8 → d < n → ∀ ln : Nat → Int32, (∀ q, q < p → ln q = 0) → wY_workOut_15 post f n (nI p) ak ax ay an it ln := by
  intro d
  induction d with
  | zero =>
    intro p n hp hn ln Z
    obtain ⟨n, rfl⟩ : ∃ m, n = m + 1 := ⟨n - 1, by omega⟩
    have hp8 : p = 8 := by omega
    subst hp8
    rw [wY_workOut_15]
    refine br_t (by decide) ⟨322, ?_⟩
    exact yl_38 A HP 321 0 322 rfl (by decide) 1 it ln (fun _ => 0) (fun _ => 0) nw_0 (fun q hq => by rw [Z q hq]; rfl) (Or.inr ⟨rfl, Nat.zero_le _⟩)
  | succ d ih =>
    intro p n hp hn ln Z
    obtain ⟨n, rfl⟩ : ∃ m, n = m + 1 := ⟨n - 1, by omega⟩
    rw [wY_workOut_15]
    refine pk_le 8 p (fun h => by omega) (fun h => ?_)
    rw [xa_c8 h]
    refine ⟨xa_i8 h, nm_e (nm_r (nI_1 p) (ih (p + 1) n (by omega) (by omega) _ (fun q hq => ?_)))⟩
    by_cases e : q = p
    · subst e; exact pk_us
    · rw [pk_un e]; exact Z q (by omega)
theorem ym_work {post : SY → Prop} {it ln : Nat → Int32} (A : nw_A kd xi yi ak ax ay) (hf : f ≠ 0 → nd_D kd xi yi an it ln)
    (HP : ∀ f' it' ln', f' ≠ 0 → nd_D kd xi yi an it' ln' → post (f', ak, ax, ay, an, it', ln')) : wpY_workOut post (f, ak, ax, ay, an, it, ln) := by
  unfold wpY_workOut
  refine br_c (fun _ => ⟨9, ?_⟩) (fun h => HP f it ln h (hf h))
  exact yl_15 A (fun it' ln' D => HP 1 it' ln' (by decide) D) 8 0 9 rfl (by decide) ln (fun q hq => absurd hq (Nat.not_lt_zero _))
end
theorem nd_eq {kd xi yi : Nat → Nat} {an it ma it' ln : Nat → Int32} (D : nd_D kd xi yi an it ma) (D' : nd_D kd xi yi an it' ln) {q : Nat} (hq : q < 8) :
    ∃ l, l ≤ 40 ∧ ma q = nI l ∧ ln q = nI l ∧ ∀ i, i < l → it (q * 40 + i) = it' (q * 40 + i) := by
  obtain ⟨L, C, I, S, hl⟩ := D
  obtain ⟨L', C', I', S', hl'⟩ := D'
  have u := nw_uni I S I' S' hq
  exact ⟨L q, nw_l40 I.1 hq, hl q hq, by rw [u.1]; exact hl' q hq, u.2⟩
end
section
/-! the asking loops in lockstep; process tests; swaps -/
theorem xm_no {post : Int32 → Prop} {v : Int32} (h : v < 0 ∨ nI 8 ≤ v) (H : post 0) : wpX_isProcess post v := by
  unfold wpX_isProcess
  exact br_c (fun _ => H) (fun h0 => br_t (by rcases h with h | h; exact absurd h h0; exact h) H)
theorem xm_yes {post : Int32 → Prop} {p : Nat} (h : p < 8) (H : post 1) : wpX_isProcess post (nI p) := by
  unfold wpX_isProcess
  exact br_f (nI_pos (by omega)) (pk_le 8 p (fun z => by omega) (fun _ => H))
theorem ya_7 {v : Int32} (h : nI 8 ≤ v) : ¬ v ≤ 7 := fun z => absurd (Int32.le_trans h z) (by decide)
theorem ya_8 {v : Int32} (h : nI 8 ≤ v) : ¬ v < 8 := Int32.not_lt.mpr h
theorem ym_no {post : Int32 → Prop} {u : SY} {v : Int32} (h : v < 0 ∨ nI 8 ≤ v) (H : post 1) : wpY_bad post u v := by
  obtain ⟨f, ak, ax, ay, an, it, ln⟩ := u
  unfold wpY_bad
  exact br_c (fun _ => H) (fun h0 => br_f (by rcases h with h | h; exact absurd h h0; exact ya_7 h) H)
theorem ym_yes {post : Int32 → Prop} {u : SY} {p : Nat} (h : p < 8) (H : post 0) : wpY_bad post u (nI p) := by
  obtain ⟨f, ak, ax, ay, an, it, ln⟩ := u
  unfold wpY_bad
  exact br_f (nI_pos (by omega)) (pk_le p 7 (fun _ => H) (fun z => by omega))
theorem pr_ix (v : Int32) : (v < 0 ∨ nI 8 ≤ v) ∨ ∃ p, p < 8 ∧ v = nI p := by
  rcases pk_ix v (n := 8) (by decide) with h | h | h
  · exact Or.inl (Or.inl h)
  · exact Or.inl (Or.inr h)
  · exact Or.inr h
section
variable {ak ax ay an it ma ux uy : Nat → Int32} {p q l : Nat}
theorem as_sum (hp : p < 8) (hl : l ≤ 40) (e1 : ma p = nI l) :
    ∀ d i s, i + d = l → ∃ r : Int32, (∀ post : Int32 → Prop, post r → wX_sum_13 post (nI p) ak ax ay an it ma ux uy (d + 1) s (nI i)) ∧ (∀ (f : Int32) (it' ln : Nat → Int32), ln p = nI l → (∀ i, i < l → it (p * 40 + i) = it' (p * 40 + i)) → ∀ post : Int32 → SY → Prop, post r (f, ak, ax, ay, an, it', ln) → wY_sum_18 post (nI p) f ak ax ay an it' ln (d + 1) s (nI i)) := by
  intro d
  induction d with
  | zero =>
    intro i s hi
    refine ⟨s, fun post hP => ?_, fun f it' ln e2 e post hP => ?_⟩
    · rw [wX_sum_13]; dsimp only; rw [xa_c8 hp, e1]
      exact ⟨xa_i8 hp, pk_le l i (fun _ => hP) (fun h => by omega)⟩
    · rw [wY_sum_18]; dsimp only; rw [xa_c8 hp, e2]
      exact ⟨xa_i8 hp, pk_le l i (fun _ => hP) (fun h => by omega)⟩
  | succ d ih =>
    intro i s hi
    obtain ⟨r, hX, hY⟩ := ih (i + 1) (s + it (p * 40 + i)) (by omega)
    refine ⟨r, fun post hP => ?_, fun f it' ln e2 e post hP => ?_⟩
    · rw [wX_sum_13]; dsimp only; rw [xa_c8 hp, e1]
      exact ⟨xa_i8 hp, pk_le l i (fun h => by omega) (fun h => xm_at hp (by omega) (nm_e (nm_r (nI_1 i) (hX post hP))))⟩
    · rw [wY_sum_18]; dsimp only; rw [xa_c8 hp, e2, xa_ix, xa_c (show p * 40 + i < 320 by omega), ← e i (by omega)]
      exact ⟨xa_i8 hp, pk_le l i (fun h => by omega) (fun h => ⟨xa_i320 (by omega), nm_e (nm_r (nI_1 i) (hY f it' ln e2 e post hP))⟩)⟩
theorem as_find {v : Int32} (hp : p < 8) (hl : l ≤ 40) (e1 : ma p = nI l) :
    ∀ d i, i + d = l → ∃ r : Int32, (∀ post : Int32 → Prop, post r → wX_find_11 post (nI p) v ak ax ay an it ma ux uy (d + 1) (nI i)) ∧ (∀ (f : Int32) (it' ln : Nat → Int32), ln p = nI l → (∀ i, i < l → it (p * 40 + i) = it' (p * 40 + i)) → ∀ post : Int32 → SY → Prop, post r (f, ak, ax, ay, an, it', ln) → wY_find_16 post (nI p) v f ak ax ay an it' ln (d + 1) (nI i)) := by
  intro d
  induction d with
  | zero =>
    intro i hi
    refine ⟨-3, fun post hP => ?_, fun f it' ln e2 e post hP => ?_⟩
    · rw [wX_find_11]; dsimp only; rw [xa_c8 hp, e1]
      exact ⟨xa_i8 hp, pk_le l i (fun _ => hP) (fun h => by omega)⟩
    · rw [wY_find_16]; dsimp only; rw [xa_c8 hp, e2]
      exact ⟨xa_i8 hp, pk_le l i (fun _ => hP) (fun h => by omega)⟩
  | succ d ih =>
    intro i hi
    by_cases hv : it (p * 40 + i) = v
    · refine ⟨nI i, fun post hP => ?_, fun f it' ln e2 e post hP => ?_⟩
      · rw [wX_find_11]; dsimp only; rw [xa_c8 hp, e1]
        exact ⟨xa_i8 hp, pk_le l i (fun h => by omega) (fun h => xm_at hp (by omega) (br_t hv hP))⟩
      · rw [wY_find_16]; dsimp only; rw [xa_c8 hp, e2, xa_ix, xa_c (show p * 40 + i < 320 by omega), ← e i (by omega)]
        exact ⟨xa_i8 hp, pk_le l i (fun h => by omega) (fun h => ⟨xa_i320 (by omega), br_t hv hP⟩)⟩
    · obtain ⟨r, hX, hY⟩ := ih (i + 1) (by omega)
      refine ⟨r, fun post hP => ?_, fun f it' ln e2 e post hP => ?_⟩
      · rw [wX_find_11]; dsimp only; rw [xa_c8 hp, e1]
        exact ⟨xa_i8 hp, pk_le l i (fun h => by omega) (fun h => xm_at hp (by omega) (br_f hv (nm_r (nI_1 i) (hX post hP))))⟩
      · rw [wY_find_16]; dsimp only; rw [xa_c8 hp, e2, xa_ix, xa_c (show p * 40 + i < 320 by omega), ← e i (by omega)]
        exact ⟨xa_i8 hp, pk_le l i (fun h => by omega) (fun h => ⟨xa_i320 (by omega), br_f hv (nm_r (nI_1 i) (hY f it' ln e2 e post hP))⟩)⟩
theorem as_same (hp : p < 8) (hq : q < 8) (hl : l ≤ 40) (e1 : ma p = nI l) :
    ∀ d i, i + d = l → ∃ r : Int32, (∀ post : Int32 → Prop, post r → wX_same_35 post (nI p) (nI q) ak ax ay an it ma ux uy (d + 1) (nI i)) ∧ (∀ (f : Int32) (it' ln : Nat → Int32), ln p = nI l → (∀ i, i < l → it (p * 40 + i) = it' (p * 40 + i)) → (∀ i, i < l → it (q * 40 + i) = it' (q * 40 + i)) → ∀ post : Int32 → SY → Prop, post r (f, ak, ax, ay, an, it', ln) → wY_same_41 post (nI p) (nI q) f ak ax ay an it' ln (d + 1) (nI i)) := by
  intro d
  induction d with
  | zero =>
    intro i hi
    refine ⟨1, fun post hP => ?_, fun f it' ln e2 e e' post hP => ?_⟩
    · rw [wX_same_35]; dsimp only; rw [xa_c8 hp, e1]
      exact ⟨xa_i8 hp, pk_le l i (fun _ => hP) (fun h => by omega)⟩
    · rw [wY_same_41]; dsimp only; rw [xa_c8 hp, e2]
      exact ⟨xa_i8 hp, pk_le l i (fun _ => hP) (fun h => by omega)⟩
  | succ d ih =>
    intro i hi
    by_cases hv : it (p * 40 + i) = it (q * 40 + i)
    · obtain ⟨r, hX, hY⟩ := ih (i + 1) (by omega)
      refine ⟨r, fun post hP => ?_, fun f it' ln e2 e e' post hP => ?_⟩
      · rw [wX_same_35]; dsimp only; rw [xa_c8 hp, e1]
        exact ⟨xa_i8 hp, pk_le l i (fun h => by omega) (fun h => xm_at hp (by omega) (xm_at hq (by omega) (br_t hv (nm_r (nI_1 i) (hX post hP)))))⟩
      · rw [wY_same_41]; dsimp only; rw [xa_c8 hp, e2, xa_ix, xa_ix, xa_c (show p * 40 + i < 320 by omega), xa_c (show q * 40 + i < 320 by omega), ← e i (by omega), ← e' i (by omega)]
        exact ⟨xa_i8 hp, pk_le l i (fun h => by omega) (fun h => ⟨xa_i320 (by omega), xa_i320 (by omega), br_t hv (nm_r (nI_1 i) (hY f it' ln e2 e e' post hP))⟩)⟩
    · refine ⟨0, fun post hP => ?_, fun f it' ln e2 e e' post hP => ?_⟩
      · rw [wX_same_35]; dsimp only; rw [xa_c8 hp, e1]
        exact ⟨xa_i8 hp, pk_le l i (fun h => by omega) (fun h => xm_at hp (by omega) (xm_at hq (by omega) (br_f hv hP)))⟩
      · rw [wY_same_41]; dsimp only; rw [xa_c8 hp, e2, xa_ix, xa_ix, xa_c (show p * 40 + i < 320 by omega), xa_c (show q * 40 + i < 320 by omega), ← e i (by omega), ← e' i (by omega)]
        exact ⟨xa_i8 hp, pk_le l i (fun h => by omega) (fun h => ⟨xa_i320 (by omega), xa_i320 (by omega), br_f hv hP⟩)⟩
theorem as_full :
    ∀ d i s, i + d = 8 → ∃ r : Int32, (∀ post : Int32 → Prop, post r → wX_full_4 post ak ax ay an it ma ux uy (d + 1) s (nI i)) ∧ (∀ (f : Int32) (it' ln : Nat → Int32), (∀ q, q < 8 → ma q = ln q) → ∀ post : Int32 → SY → Prop, post r (f, ak, ax, ay, an, it', ln) → wY_full_8 post f ak ax ay an it' ln (d + 1) s (nI i)) := by
  intro d
  induction d with
  | zero =>
    intro i s hi
    refine ⟨s, fun post hP => ?_, fun f it' ln e post hP => ?_⟩
    · rw [wX_full_4]
      exact pk_le 8 i (fun _ => hP) (fun h => by omega)
    · rw [wY_full_8]
      exact pk_le 8 i (fun _ => hP) (fun h => by omega)
  | succ d ih =>
    intro i s hi
    by_cases hv : ma i = 40
    · obtain ⟨r, hX, hY⟩ := ih (i + 1) (s + 1) (by omega)
      refine ⟨r, fun post hP => ?_, fun f it' ln e post hP => ?_⟩
      · rw [wX_full_4]; dsimp only; rw [xa_c8 (show i < 8 by omega)]
        exact pk_le 8 i (fun h => by omega) (fun h => ⟨xa_i8 h, br_t hv (nm_e (nm_r (nI_1 i) (hX post hP)))⟩)
      · rw [wY_full_8]; dsimp only; rw [xa_c8 (show i < 8 by omega), ← e i (by omega)]
        exact pk_le 8 i (fun h => by omega) (fun h => ⟨xa_i8 h, br_t hv (nm_e (nm_r (nI_1 i) (hY f it' ln e post hP)))⟩)
    · obtain ⟨r, hX, hY⟩ := ih (i + 1) s (by omega)
      refine ⟨r, fun post hP => ?_, fun f it' ln e post hP => ?_⟩
      · rw [wX_full_4]; dsimp only; rw [xa_c8 (show i < 8 by omega)]
        exact pk_le 8 i (fun h => by omega) (fun h => ⟨xa_i8 h, br_f hv (nm_r (nI_1 i) (hX post hP))⟩)
      · rw [wY_full_8]; dsimp only; rw [xa_c8 (show i < 8 by omega), ← e i (by omega)]
        exact pk_le 8 i (fun h => by omega) (fun h => ⟨xa_i8 h, br_f hv (nm_r (nI_1 i) (hY f it' ln e post hP))⟩)
def sw_a (a : Nat → Int32) (p q : Nat) : Nat → Int32 := upd (upd a p (a q)) q (a p)
theorem sw_k {post : SX → Prop} (hp : p < 8) (hq : q < 8) (H : post (sw_a ak p q, ax, ay, an, it, ma, ux, uy)) : wpX_swap__kinds post (ak, ax, ay, an, it, ma, ux, uy) (nI p) (nI q) := by
  unfold wpX_swap__kinds
  dsimp only
  rw [xa_c8 hp, xa_c8 hq]
  exact ⟨xa_i8 hp, nm_e ⟨xa_i8 hq, xa_i8 hp, nm_e ⟨xa_i8 hq, nm_e H⟩⟩⟩
theorem sw_x {post : SX → Prop} (hp : p < 8) (hq : q < 8) (H : post (ak, sw_a ax p q, ay, an, it, ma, ux, uy)) : wpX_swap__xs post (ak, ax, ay, an, it, ma, ux, uy) (nI p) (nI q) := by
  unfold wpX_swap__xs
  dsimp only
  rw [xa_c8 hp, xa_c8 hq]
  exact ⟨xa_i8 hp, nm_e ⟨xa_i8 hq, xa_i8 hp, nm_e ⟨xa_i8 hq, nm_e H⟩⟩⟩
theorem sw_y {post : SX → Prop} (hp : p < 8) (hq : q < 8) (H : post (ak, ax, sw_a ay p q, an, it, ma, ux, uy)) : wpX_swap__ys post (ak, ax, ay, an, it, ma, ux, uy) (nI p) (nI q) := by
  unfold wpX_swap__ys
  dsimp only
  rw [xa_c8 hp, xa_c8 hq]
  exact ⟨xa_i8 hp, nm_e ⟨xa_i8 hq, xa_i8 hp, nm_e ⟨xa_i8 hq, nm_e H⟩⟩⟩
theorem sw_n {post : SX → Prop} (hp : p < 8) (hq : q < 8) (H : post (ak, ax, ay, sw_a an p q, it, ma, ux, uy)) : wpX_swap__numbers post (ak, ax, ay, an, it, ma, ux, uy) (nI p) (nI q) := by
  unfold wpX_swap__numbers
  dsimp only
  rw [xa_c8 hp, xa_c8 hq]
  exact ⟨xa_i8 hp, nm_e ⟨xa_i8 hq, xa_i8 hp, nm_e ⟨xa_i8 hq, nm_e H⟩⟩⟩
def sw_f (a : Nat → Nat) (p q : Nat) : Nat → Nat := nw_u (nw_u a p (a q)) q (a p)
theorem sw_e {a : Nat → Int32} {g : Nat → Nat} (hp : p < 8) (hq : q < 8) (h : ∀ r, r < 8 → a r = nI (g r)) : ∀ r, r < 8 → sw_a a p q r = nI (sw_f g p q r) := by
  intro r hr
  unfold sw_a sw_f
  by_cases e : r = q
  · subst e; rw [pk_us, nw_us]; exact h p hp
  · rw [pk_un e, nw_un e]
    by_cases e' : r = p
    · subst e'; rw [pk_us, nw_us]; exact h q hq
    · rw [pk_un e', nw_un e']; exact h r hr
theorem sw_lt {g : Nat → Nat} (hp : p < 8) (hq : q < 8) (h : ∀ r, r < 8 → g r < 8) : ∀ r, r < 8 → sw_f g p q r < 8 := by
  intro r hr
  unfold sw_f
  by_cases e : r = q
  · subst e; rw [nw_us]; exact h p hp
  · rw [nw_un e]
    by_cases e' : r = p
    · subst e'; rw [nw_us]; exact h q hq
    · rw [nw_un e']; exact h r hr
theorem sw_A {kd xi yi : Nat → Nat} (hp : p < 8) (hq : q < 8) (A : nw_A kd xi yi ak ax ay) : nw_A (sw_f kd p q) (sw_f xi p q) (sw_f yi p q) (sw_a ak p q) (sw_a ax p q) (sw_a ay p q) := fun r hr =>
  ⟨⟨sw_lt hp hq (fun r h => (A r h).1.1) r hr, sw_lt hp hq (fun r h => (A r h).1.2.1) r hr, sw_lt hp hq (fun r h => (A r h).1.2.2) r hr⟩, sw_e hp hq (fun r h => (A r h).2.1) r hr, sw_e hp hq (fun r h => (A r h).2.2.1) r hr, sw_e hp hq (fun r h => (A r h).2.2.2) r hr⟩
theorem st_A {kd xi yi : Nat → Nat} {k x y : Nat} (hp : p < 8) (hk : k < 8) (hx : x < 8) (hy : y < 8) (A : nw_A kd xi yi ak ax ay) : nw_A (nw_u kd p k) (nw_u xi p x) (nw_u yi p y) (upd ak p (nI k)) (upd ax p (nI x)) (upd ay p (nI y)) := by
  intro r hr
  by_cases e : r = p
  · subst e
    rw [nw_us, nw_us, nw_us, pk_us, pk_us, pk_us]
    exact ⟨⟨hk, hx, hy⟩, rfl, rfl, rfl⟩
  · rw [nw_un e, nw_un e, nw_un e, pk_un e, pk_un e, pk_un e]
    exact A r hr
end
end
section
/-! the relation and what is owed -/
/-- one network on both sides; the component's streams worked out; the reference's too where it says that it knows them -/
def i_Rel (_ : Nat) (u : SX) (v : SY) : Prop := ∃ (kd xi yi : Nat → Nat) (ak ax ay an it ma ux uy : Nat → Int32) (f : Int32) (it' ln : Nat → Int32), u = (ak, ax, ay, an, it, ma, ux, uy) ∧ v = (f, ak, ax, ay, an, it', ln) ∧ nw_A kd xi yi ak ax ay ∧ nd_D kd xi yi an it ma ∧ (f ≠ 0 → nd_D kd xi yi an it' ln)
theorem re_mk {k : Nat} {kd xi yi : Nat → Nat} {ak ax ay an it ma ux uy : Nat → Int32} {f : Int32} {it' ln : Nat → Int32} (A : nw_A kd xi yi ak ax ay) (D : nd_D kd xi yi an it ma) (F : f ≠ 0 → nd_D kd xi yi an it' ln) : i_Rel k (ak, ax, ay, an, it, ma, ux, uy) (f, ak, ax, ay, an, it', ln) :=
  ⟨kd, xi, yi, ak, ax, ay, an, it, ma, ux, uy, f, it', ln, rfl, rfl, A, D, F⟩
theorem i_up {k : Nat} {u : SX} {v : SY} (h : i_Rel k u v) : i_Rel (k + 5) u v := h
def in_k : Nat → Nat → Int32
  | 0 => fun _ => 0
  | p + 1 => upd (in_k p) p 1
theorem in_k1 : ∀ p q, q < p → in_k p q = 1
  | 0, q, h => absurd h (Nat.not_lt_zero _)
  | p + 1, q, h => by
    rw [in_k]
    by_cases e : q = p
    · subst e; exact pk_us
    · rw [pk_un e]; exact in_k1 p q (by omega)
theorem in_X {post : SX → Prop} {ax ay an it ma ux uy : Nat → Int32} (H : wpX_workOutStreams post (in_k 8, ax, ay, an, it, ma, ux, uy)) : ∀ d p n, p + d = 8 → d < n → wX_init_71 post n (nI p) (in_k p) ax ay an it ma ux uy := by
  intro d
  induction d with
  | zero =>
    intro p n hp hn
    obtain ⟨n, rfl⟩ : ∃ m, n = m + 1 := ⟨n - 1, by omega⟩
    have hp8 : p = 8 := by omega
    subst hp8
    rw [wX_init_71]
    exact br_t (by decide) H
  | succ d ih =>
    intro p n hp hn
    obtain ⟨n, rfl⟩ : ∃ m, n = m + 1 := ⟨n - 1, by omega⟩
    rw [wX_init_71]
    refine pk_le 8 p (fun h => by omega) (fun h => ?_)
    rw [xa_c8 h]
    exact ⟨xa_i8 h, nm_e (nm_r (nI_1 p) (ih (p + 1) n (by omega) (by omega)))⟩
theorem in_Y {post : SY → Prop} {f : Int32} {ax ay an it ln : Nat → Int32} (H : post (f, in_k 8, ax, ay, an, it, ln)) : ∀ d p n, p + d = 8 → d < n → wY_init_55 post f n (nI p) (in_k p) ax ay an it ln := by
  intro d
  induction d with
  | zero =>
    intro p n hp hn
    obtain ⟨n, rfl⟩ : ∃ m, n = m + 1 := ⟨n - 1, by omega⟩
    have hp8 : p = 8 := by omega
    subst hp8
    rw [wY_init_55]
    exact br_t (by decide) H
  | succ d ih =>
    intro p n hp hn
    obtain ⟨n, rfl⟩ : ∃ m, n = m + 1 := ⟨n - 1, by omega⟩
    rw [wY_init_55]
    refine pk_le 8 p (fun h => by omega) (fun h => ?_)
    rw [xa_c8 h]
    exact ⟨xa_i8 h, nm_e (nm_r (nI_1 p) (ih (p + 1) n (by omega) (by omega)))⟩
theorem in_A : nw_A (fun _ => 1) (fun _ => 0) (fun _ => 0) (in_k 8) (fun _ => 0) (fun _ => 0) := fun q hq => ⟨⟨show 1 < 8 by decide, show 0 < 8 by decide, show 0 < 8 by decide⟩, in_k1 8 q hq, rfl, rfl⟩
theorem i_vc0 : wpX_init (fun u => wpY_init (fun v => i_Rel 0 u v)) := by
  unfold wpX_init
  refine ⟨9, in_X (xm_work in_A (fun it ma ux uy D => ?_)) 8 0 9 rfl (by decide)⟩
  unfold wpY_init
  exact ⟨9, in_Y (re_mk in_A D (fun z => absurd rfl z)) 8 0 9 rfl (by decide)⟩
theorem i_vc_set {k : Nat} {u : SX} {v : SY} (I : i_Rel k u v) (hk : k + 5 ≤ 2560) (v1 : Int32) (v2 : Int32) (v3 : Int32) (v4 : Int32) : wpX_set (fun r u' => wpY_set (fun r' v' => r' = r ∧ i_Rel (k + 5) u' v') v v1 v2 v3 v4) u v1 v2 v3 v4 := by
  obtain ⟨kd, xi, yi, ak, ax, ay, an, it, ma, ux, uy, f, it', ln, rfl, rfl, A, D, F⟩ := I
  unfold wpX_set
  dsimp only
  rcases pr_ix v1 with h | ⟨p, hp, rfl⟩
  · refine xm_no h (br_t rfl ?_)
    unfold wpY_set
    dsimp only
    exact ym_no h (br_f xa_10 ⟨rfl, re_mk A D F⟩)
  · refine xm_yes hp (br_f xa_10 ?_)
    rcases pr_ix v2 with h | ⟨j, hj, rfl⟩
    · have Y : ∀ z : Int32, z = -2 → wpY_set (fun r' v' => r' = z ∧ i_Rel (k + 5) (ak, ax, ay, an, it, ma, ux, uy) v') (f, ak, ax, ay, an, it', ln) (nI p) v2 v3 v4 := by
        intro z ez
        unfold wpY_set
        dsimp only
        refine ym_yes hp (br_t rfl (br_c (fun _ => ⟨ez.symm, re_mk A D F⟩) (fun h0 => br_f ?_ ⟨ez.symm, re_mk A D F⟩)))
        rcases h with h | h
        · exact absurd h h0
        · exact ya_7 h
      refine br_c (fun _ => Y _ rfl) (fun h0 => br_f ?_ (Y _ rfl))
      rcases h with h | h
      · exact absurd h h0
      · exact ya_8 h
    · obtain ⟨x, hx, ex⟩ := pk_andE v3 (m := 7) 3 (by decide)
      obtain ⟨y, hy, ey⟩ := pk_andE (v3 >>> ((3 : Int32) &&& 31)) (m := 7) 3 (by decide)
      have A' := st_A hp hj (show x < 8 from hx) (show y < 8 from hy) A
      rw [xa_c8 hp, ex, ey]
      refine br_f (nI_pos (by omega)) (pk_lt j 8 (fun _ => ⟨xa_i8 hp, nm_e ⟨xa_i8 hp, nm_e ⟨xa_i8 hp, nm_e ⟨xa_i8 hp, nm_e (xm_work A' (fun it2 ma2 ux2 uy2 D2 => ?_))⟩⟩⟩⟩) (fun z => by omega))
      unfold wpY_set
      dsimp only
      rw [xa_c8 hp, ex, ey]
      exact ym_yes hp (br_t rfl (br_f (nI_pos (by omega)) (pk_le j 7 (fun _ => ⟨xa_i8 hp, nm_e ⟨xa_i8 hp, nm_e ⟨xa_i8 hp, nm_e ⟨xa_i8 hp, nm_e ⟨rfl, re_mk A' D2 (fun z => absurd rfl z)⟩⟩⟩⟩⟩) (fun z => by omega))))
theorem i_vc_fire {k : Nat} {u : SX} {v : SY} (I : i_Rel k u v) (hk : k + 5 ≤ 2560) (v1 : Int32) (v2 : Int32) : wpX_fire (fun r => wpY_fire (fun r' => r' = r ∧ i_Rel (k + 5) u v) v v1 v2) u v1 v2 := by
  have I' := i_up I
  obtain ⟨kd, xi, yi, ak, ax, ay, an, it, ma, ux, uy, f, it', ln, rfl, rfl, A, D, F⟩ := I
  unfold wpX_fire
  dsimp only
  rcases pr_ix v1 with h | ⟨p, hp, rfl⟩
  · refine xm_no h (br_t rfl ?_)
    unfold wpY_fire
    dsimp only
    exact ym_no h (br_f xa_10 ⟨rfl, I'⟩)
  · refine xm_yes hp (br_f xa_10 ?_)
    unfold wpY_fire
    dsimp only
    exact ym_yes hp (br_t rfl ⟨rfl, I'⟩)
theorem i_vc_exchange {k : Nat} {u : SX} {v : SY} (I : i_Rel k u v) (hk : k + 5 ≤ 2560) (v1 : Int32) (v2 : Int32) : wpX_exchange (fun r u' => wpY_exchange (fun r' v' => r' = r ∧ i_Rel (k + 5) u' v') v v1 v2) u v1 v2 := by
  obtain ⟨kd, xi, yi, ak, ax, ay, an, it, ma, ux, uy, f, it', ln, rfl, rfl, A, D, F⟩ := I
  unfold wpX_exchange
  dsimp only
  rcases pr_ix v1 with h | ⟨p, hp, rfl⟩
  · refine xm_no h (br_t rfl ?_)
    unfold wpY_exchange
    dsimp only
    exact ym_no h (br_f xa_10 ⟨rfl, re_mk A D F⟩)
  · refine xm_yes hp (br_f xa_10 ?_)
    rcases pr_ix v2 with h | ⟨q, hq, rfl⟩
    · refine xm_no h (br_t rfl ?_)
      unfold wpY_exchange
      dsimp only
      exact ym_yes hp (br_t rfl (ym_no h (br_f xa_10 ⟨rfl, re_mk A D F⟩)))
    · refine xm_yes hq (br_f xa_10 (sw_k hp hq (sw_x hp hq (sw_y hp hq (sw_n hp hq (xm_work (sw_A hp hq A) (fun it2 ma2 ux2 uy2 D2 => ?_)))))))
      unfold wpY_exchange
      dsimp only
      rw [xa_c8 hp, xa_c8 hq]
      refine ym_yes hp (br_t rfl (ym_yes hq (br_t rfl ⟨xa_i8 hp, nm_e ⟨xa_i8 hp, nm_e ⟨xa_i8 hp, nm_e ⟨xa_i8 hp, nm_e ⟨xa_i8 hq, xa_i8 hp, nm_e ⟨xa_i8 hq, xa_i8 hp, nm_e ⟨xa_i8 hq, xa_i8 hp, nm_e ⟨xa_i8 hq, xa_i8 hp, nm_e ⟨xa_i8 hq, nm_e ⟨xa_i8 hq, nm_e ⟨xa_i8 hq, nm_e ⟨xa_i8 hq, nm_e ⟨rfl, ?_⟩⟩⟩⟩⟩⟩⟩⟩⟩⟩⟩⟩⟩)))
      exact re_mk (sw_A hp hq A) D2 (fun z => absurd rfl z)
theorem i_vc_length {k : Nat} {u : SX} {v : SY} (I : i_Rel k u v) (hk : k + 5 ≤ 2560) (v1 : Int32) : wpX_length (fun r => wpY_length (fun r' v' => r' = r ∧ i_Rel (k + 5) u v') v v1) u v1 := by
  obtain ⟨kd, xi, yi, ak, ax, ay, an, it, ma, ux, uy, f, it', ln, rfl, rfl, A, D, F⟩ := I
  unfold wpX_length
  dsimp only
  rcases pr_ix v1 with h | ⟨p, hp, rfl⟩
  · refine xm_no h (br_t rfl ?_)
    unfold wpY_length
    dsimp only
    exact ym_no h (br_f xa_10 ⟨rfl, re_mk A D F⟩)
  · rw [xa_c8 hp]
    refine xm_yes hp (br_f xa_10 ⟨xa_i8 hp, ?_⟩)
    unfold wpY_length
    dsimp only
    refine ym_yes hp (br_t rfl (ym_work A F (fun f2 it2 ln2 hf D2 => ?_)))
    obtain ⟨l, hl, e1, e2, e⟩ := nd_eq D D2 hp
    dsimp only
    rw [xa_c8 hp]
    exact ⟨xa_i8 hp, e2.trans e1.symm, re_mk A D (fun _ => D2)⟩
theorem i_vc_item {k : Nat} {u : SX} {v : SY} (I : i_Rel k u v) (hk : k + 5 ≤ 2560) (v1 : Int32) (v2 : Int32) : wpX_item (fun r => wpY_item (fun r' v' => r' = r ∧ i_Rel (k + 5) u v') v v1 v2) u v1 v2 := by
  obtain ⟨kd, xi, yi, ak, ax, ay, an, it, ma, ux, uy, f, it', ln, rfl, rfl, A, D, F⟩ := I
  unfold wpX_item
  dsimp only
  rcases pr_ix v1 with h | ⟨p, hp, rfl⟩
  · refine xm_no h (br_t rfl ?_)
    unfold wpY_item
    dsimp only
    exact ym_no h (br_f xa_10 ⟨rfl, re_mk A D F⟩)
  · refine xm_yes hp (br_f xa_10 ?_)
    have Y : ∀ r : Int32, (∀ it2 ln2, nd_D kd xi yi an it2 ln2 → (v2 < 0 ∧ r = -3) ∨ (¬ v2 < 0 ∧ ¬ v2 < ln2 p ∧ r = -3) ∨ (∃ j, j < 40 ∧ v2 = nI j ∧ v2 < ln2 p ∧ r = it2 (p * 40 + j))) → wpY_item (fun r' v' => r' = r ∧ i_Rel (k + 5) (ak, ax, ay, an, it, ma, ux, uy) v') (f, ak, ax, ay, an, it', ln) (nI p) v2 := by
      intro r H
      unfold wpY_item
      dsimp only
      refine ym_yes hp (br_t rfl (ym_work A F (fun f2 it2 ln2 hf D2 => ?_)))
      have R := re_mk (k := k + 5) (ux := ux) (uy := uy) (f := f2) A D (fun _ => D2)
      dsimp only
      rw [xa_c8 hp]
      rcases H it2 ln2 D2 with ⟨h, e⟩ | ⟨h, h1, e⟩ | ⟨j, hj, ej, h1, e⟩
      · exact br_t h ⟨e.symm, R⟩
      · exact br_f h ⟨xa_i8 hp, br_f h1 ⟨e.symm, R⟩⟩
      · subst ej
        rw [xa_ix, xa_c (show p * 40 + j < 320 by omega)]
        exact br_f (nI_pos (by omega)) ⟨xa_i8 hp, br_t h1 ⟨xa_i320 (by omega), e.symm, R⟩⟩
    obtain ⟨l, hl, e1, _⟩ := nd_eq D D hp
    have E : ∀ it2 ln2, nd_D kd xi yi an it2 ln2 → ln2 p = nI l ∧ ∀ i, i < l → it (p * 40 + i) = it2 (p * 40 + i) := by
      intro it2 ln2 D2
      obtain ⟨l', hl', e1', e2', e'⟩ := nd_eq D D2 hp
      have : l = l' := (nI_eq (by omega) (by omega)).mp (e1.symm.trans e1')
      subst this
      exact ⟨e2', e'⟩
    rcases pk_ix v2 (n := l) (by omega) with h | h | ⟨j, hj, rfl⟩
    · unfold wpX_hasItem
      dsimp only
      exact br_t h (br_t rfl (Y _ (fun it2 ln2 D2 => Or.inl ⟨h, rfl⟩)))
    · have h0 : ¬ v2 < 0 := Int32.not_lt.mpr (Int32.le_trans (nI_pos' (by omega)) h)
      unfold wpX_hasItem
      dsimp only
      rw [xa_c8 hp, e1]
      refine br_f h0 ⟨xa_i8 hp, br_t h (br_t rfl (Y _ (fun it2 ln2 D2 => Or.inr (Or.inl ⟨h0, ?_, rfl⟩))))⟩
      rw [(E it2 ln2 D2).1]
      exact Int32.not_lt.mpr h
    · refine xm_has hp e1 hl (by omega) (fun h1 => br_f xa_10 (xm_at hp (by omega) (Y _ (fun it2 ln2 D2 => Or.inr (Or.inr ⟨j, by omega, rfl, ?_, (E it2 ln2 D2).2 j hj⟩))))) (fun h1 => by omega)
      rw [(E it2 ln2 D2).1]
      exact nI_lt hj (by omega)
theorem re_l {kd xi yi : Nat → Nat} {an it ma : Nat → Int32} (D : nd_D kd xi yi an it ma) {p : Nat} (hp : p < 8) : ∃ l, l ≤ 40 ∧ ma p = nI l ∧ ∀ it2 ln2, nd_D kd xi yi an it2 ln2 → ln2 p = nI l ∧ ∀ i, i < l → it (p * 40 + i) = it2 (p * 40 + i) := by
  obtain ⟨l, hl, e1, _⟩ := nd_eq D D hp
  refine ⟨l, hl, e1, fun it2 ln2 D2 => ?_⟩
  obtain ⟨l', hl', e1', e2', e'⟩ := nd_eq D D2 hp
  have : l = l' := (nI_eq (by omega) (by omega)).mp (e1.symm.trans e1')
  subst this
  exact ⟨e2', e'⟩
theorem i_vc_sum {k : Nat} {u : SX} {v : SY} (I : i_Rel k u v) (hk : k + 5 ≤ 2560) (v1 : Int32) : wpX_sum (fun r => wpY_sum (fun r' v' => r' = r ∧ i_Rel (k + 5) u v') v v1) u v1 := by
  obtain ⟨kd, xi, yi, ak, ax, ay, an, it, ma, ux, uy, f, it', ln, rfl, rfl, A, D, F⟩ := I
  unfold wpX_sum
  dsimp only
  rcases pr_ix v1 with h | ⟨p, hp, rfl⟩
  · refine xm_no h (br_t rfl ?_)
    unfold wpY_sum
    dsimp only
    exact ym_no h (br_f xa_10 ⟨rfl, re_mk A D F⟩)
  · obtain ⟨l, hl, e1, E⟩ := re_l D hp
    obtain ⟨r, hX, hY⟩ := as_sum (ak := ak) (ax := ax) (ay := ay) (an := an) (it := it) (ma := ma) (ux := ux) (uy := uy) hp hl e1 l 0 0 (by omega)
    refine xm_yes hp (br_f xa_10 ⟨l + 1, hX _ ?_⟩)
    unfold wpY_sum
    dsimp only
    refine ym_yes hp (br_t rfl (ym_work A F (fun f2 it2 ln2 hf D2 => ?_)))
    exact ⟨l + 1, hY f2 it2 ln2 (E _ _ D2).1 (E _ _ D2).2 _ ⟨rfl, re_mk A D (fun _ => D2)⟩⟩
theorem i_vc_find {k : Nat} {u : SX} {v : SY} (I : i_Rel k u v) (hk : k + 5 ≤ 2560) (v1 : Int32) (v2 : Int32) : wpX_find (fun r => wpY_find (fun r' v' => r' = r ∧ i_Rel (k + 5) u v') v v1 v2) u v1 v2 := by
  obtain ⟨kd, xi, yi, ak, ax, ay, an, it, ma, ux, uy, f, it', ln, rfl, rfl, A, D, F⟩ := I
  unfold wpX_find
  dsimp only
  rcases pr_ix v1 with h | ⟨p, hp, rfl⟩
  · refine xm_no h (br_t rfl ?_)
    unfold wpY_find
    dsimp only
    exact ym_no h (br_f xa_10 ⟨rfl, re_mk A D F⟩)
  · obtain ⟨l, hl, e1, E⟩ := re_l D hp
    obtain ⟨r, hX, hY⟩ := as_find (ak := ak) (ax := ax) (ay := ay) (an := an) (it := it) (ma := ma) (ux := ux) (uy := uy) (v := v2) hp hl e1 l 0 (by omega)
    refine xm_yes hp (br_f xa_10 ⟨l + 1, hX _ ?_⟩)
    unfold wpY_find
    dsimp only
    refine ym_yes hp (br_t rfl (ym_work A F (fun f2 it2 ln2 hf D2 => ?_)))
    exact ⟨l + 1, hY f2 it2 ln2 (E _ _ D2).1 (E _ _ D2).2 _ ⟨rfl, re_mk A D (fun _ => D2)⟩⟩
theorem i_vc_same {k : Nat} {u : SX} {v : SY} (I : i_Rel k u v) (hk : k + 5 ≤ 2560) (v1 : Int32) (v2 : Int32) : wpX_same (fun r => wpY_same (fun r' v' => r' = r ∧ i_Rel (k + 5) u v') v v1 v2) u v1 v2 := by
  obtain ⟨kd, xi, yi, ak, ax, ay, an, it, ma, ux, uy, f, it', ln, rfl, rfl, A, D, F⟩ := I
  unfold wpX_same
  dsimp only
  rcases pr_ix v1 with h | ⟨p, hp, rfl⟩
  · refine xm_no h (br_t rfl ?_)
    unfold wpY_same
    dsimp only
    exact ym_no h (br_f xa_10 ⟨rfl, re_mk A D F⟩)
  · refine xm_yes hp (br_f xa_10 ?_)
    rcases pr_ix v2 with h | ⟨q, hq, rfl⟩
    · refine xm_no h (br_t rfl ?_)
      unfold wpY_same
      dsimp only
      exact ym_yes hp (br_t rfl (ym_no h (br_f xa_10 ⟨rfl, re_mk A D F⟩)))
    · obtain ⟨l, hl, e1, E⟩ := re_l D hp
      obtain ⟨m, hm, e1q, Eq⟩ := re_l D hq
      rw [xa_c8 hp, xa_c8 hq, e1, e1q]
      refine xm_yes hq (br_f xa_10 ⟨xa_i8 hp, xa_i8 hq, pk_eq l m (fun e => ?_) (fun e => ?_)⟩)
      · subst e
        obtain ⟨r, hX, hY⟩ := as_same (ak := ak) (ax := ax) (ay := ay) (an := an) (it := it) (ma := ma) (ux := ux) (uy := uy) hp hq hl e1 l 0 (by omega)
        refine ⟨l + 1, hX _ ?_⟩
        unfold wpY_same
        dsimp only
        refine ym_yes hp (br_t rfl (ym_yes hq (br_t rfl (ym_work A F (fun f2 it2 ln2 hf D2 => ?_)))))
        dsimp only
        rw [xa_c8 hp, xa_c8 hq, (E _ _ D2).1, (Eq _ _ D2).1]
        exact ⟨xa_i8 hp, xa_i8 hq, br_t rfl ⟨l + 1, hY f2 it2 ln2 (E _ _ D2).1 (E _ _ D2).2 (Eq _ _ D2).2 _ ⟨rfl, re_mk A D (fun _ => D2)⟩⟩⟩
      · unfold wpY_same
        dsimp only
        refine ym_yes hp (br_t rfl (ym_yes hq (br_t rfl (ym_work A F (fun f2 it2 ln2 hf D2 => ?_)))))
        dsimp only
        rw [xa_c8 hp, xa_c8 hq, (E _ _ D2).1, (Eq _ _ D2).1]
        exact ⟨xa_i8 hp, xa_i8 hq, pk_eq l m (fun z => absurd z e) (fun _ => ⟨rfl, re_mk A D (fun _ => D2)⟩)⟩
theorem i_vc_full {k : Nat} {u : SX} {v : SY} (I : i_Rel k u v) (hk : k + 5 ≤ 2560) : wpX_full (fun r => wpY_full (fun r' v' => r' = r ∧ i_Rel (k + 5) u v') v) u := by
  obtain ⟨kd, xi, yi, ak, ax, ay, an, it, ma, ux, uy, f, it', ln, rfl, rfl, A, D, F⟩ := I
  obtain ⟨r, hX, hY⟩ := as_full (ak := ak) (ax := ax) (ay := ay) (an := an) (it := it) (ma := ma) (ux := ux) (uy := uy) 8 0 0 rfl
  unfold wpX_full
  dsimp only
  refine ⟨9, hX _ ?_⟩
  unfold wpY_full
  dsimp only
  refine ym_work A F (fun f2 it2 ln2 hf D2 => ?_)
  refine ⟨9, hY f2 it2 ln2 (fun q hq => ?_) _ ⟨rfl, re_mk A D (fun _ => D2)⟩⟩
  obtain ⟨l, hl, e1, e2, e⟩ := nd_eq D D2 hq
  exact e1.trans e2.symm
end
