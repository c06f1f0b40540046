/-! the component's step of one process -/
theorem pn_g0 {k : Nat} {x y : Nat → Int32} {lx ly c : Nat} (h : k = 0) : pn_g k x y lx ly c ↔ c < 40 := by subst h; simp [pn_g]
theorem pn_g1 {k : Nat} {x y : Nat → Int32} {lx ly c : Nat} (h : k = 1) : pn_g k x y lx ly c ↔ c < 40 ∧ c < 5 := by subst h; simp [pn_g]
theorem pn_g2 {k : Nat} {x y : Nat → Int32} {lx ly c : Nat} (h : k = 2) : pn_g k x y lx ly c ↔ c < 40 ∧ c < lx ∧ c < ly := by subst h; simp [pn_g]
theorem pn_g3 {k : Nat} {x y : Nat → Int32} {lx ly c : Nat} (h : k = 3) : pn_g k x y lx ly c ↔ c < 40 ∧ c / 2 < if c % 2 = 0 then lx else ly := by subst h; simp [pn_g]
theorem pn_g4 {k : Nat} {x y : Nat → Int32} {lx ly c : Nat} (h : k = 4) : pn_g k x y lx ly c ↔ c < 40 ∧ c < lx := by subst h; simp [pn_g]
theorem pn_g5 {k : Nat} {x y : Nat → Int32} {lx ly c : Nat} (h : k = 5) : pn_g k x y lx ly c ↔ c < 40 ∧ c ≤ lx := by subst h; simp [pn_g]
theorem pn_g6 {k : Nat} {x y : Nat → Int32} {lx ly c : Nat} (h : k = 6) : pn_g k x y lx ly c ↔ c < 40 ∧ pn_mi x y c < lx ∧ c - pn_mi x y c < ly := by subst h; simp [pn_g]
theorem pn_g7 {k : Nat} {x y : Nat → Int32} {lx ly c : Nat} (h : k = 7) : pn_g k x y lx ly c ↔ c < 40 ∧ c < lx := by subst h; simp [pn_g]
theorem pn_v0 {k : Nat} {a : Int32} {x y : Nat → Int32} {c : Nat} (h : k = 0) : pn_val k a x y c = a + nI c := by subst h; rfl
theorem pn_v1 {k : Nat} {a : Int32} {x y : Nat → Int32} {c : Nat} (h : k = 1) : pn_val k a x y c = a * (2 * nI c + 1) := by subst h; rfl
theorem pn_v2 {k : Nat} {a : Int32} {x y : Nat → Int32} {c : Nat} (h : k = 2) : pn_val k a x y c = x c + y c := by subst h; rfl
theorem pn_v3 {k : Nat} {a : Int32} {x y : Nat → Int32} {c : Nat} (h : k = 3) : pn_val k a x y c = if c % 2 = 0 then x (c / 2) else y (c / 2) := by subst h; rfl
theorem pn_v4 {k : Nat} {a : Int32} {x y : Nat → Int32} {c : Nat} (h : k = 4) : pn_val k a x y c = x c := by subst h; rfl
theorem pn_v5 {k : Nat} {a : Int32} {x y : Nat → Int32} {c : Nat} (h : k = 5) : pn_val k a x y c = if c = 0 then a else x (c - 1) := by subst h; rfl
theorem pn_v6 {k : Nat} {a : Int32} {x y : Nat → Int32} {c : Nat} (h : k = 6) : pn_val k a x y c = if x (pn_mi x y c) ≤ y (c - pn_mi x y c) then x (pn_mi x y c) else y (c - pn_mi x y c) := by subst h; rfl
theorem pn_v7 {k : Nat} {a : Int32} {x y : Nat → Int32} {c : Nat} (h : k = 7) : pn_val k a x y c = pn_sm x (c + 1) := by subst h; rfl
def nw_V (it : Nat → Int32) : Nat → Nat → Int32 := fun q i => it (q * 40 + i)
def nw_A (kd xi yi : Nat → Nat) (ak ax ay : Nat → Int32) : Prop := ∀ q, q < 8 → (kd q < 8 ∧ xi q < 8 ∧ yi q < 8) ∧ ak q = nI (kd q) ∧ ax q = nI (xi q) ∧ ay q = nI (yi q)
theorem nw_AN {kd xi yi : Nat → Nat} {ak ax ay : Nat → Int32} (A : nw_A kd xi yi ak ax ay) : nw_N kd xi yi := fun q h => (A q h).1
def nx_I (kd xi yi : Nat → Nat) (nu it ma ux uy : Nat → Int32) (L C : Nat → Nat) : Prop :=
  nw_I kd xi yi nu L (nw_V it) C ∧ (∀ q, q < 8 → ma q = nI (L q)) ∧ (∀ q, q < 8 → kd q = 4 → ux q = nI (C q)) ∧ (∀ q, q < 8 → kd q = 6 → ux q = nI (nw_mi xi yi (nw_V it) q (C q)) ∧ uy q = nI (C q - nw_mi xi yi (nw_V it) q (C q)))
section
variable {ak ax ay an it ma ux uy : Nat → Int32} {kd xi yi L C : Nat → Nat} {p : Nat}
theorem nx_gen (N : nw_N kd xi yi) (I : nx_I kd xi yi an it ma ux uy L C) (hp : p < 8) (g : nw_g kd xi yi L (nw_V it) p (C p)) {it' ma' ux' uy' : Nat → Int32}
    (hf : ∀ q, q < 8 → q ≠ p → ∀ i, i < L q → it' (q * 40 + i) = it (q * 40 + i))
    (hw : ∀ d, d < C p + 1 → nw_em kd xi (nw_V it) p d → it' (p * 40 + nw_pos kd xi (nw_V it) p d) = nw_val kd xi yi an (nw_V it) p d)
    (hm : ma' p = nI (nw_pos kd xi (nw_V it) p (C p + 1))) (hm' : ∀ q, q < 8 → q ≠ p → ma' q = ma q)
    (hx' : ∀ q, q < 8 → q ≠ p → ux' q = ux q) (hy' : ∀ q, q < 8 → q ≠ p → uy' q = uy q)
    (h4 : kd p = 4 → ux' p = nI (C p + 1))
    (h6 : kd p = 6 → ux' p = nI (nw_mi xi yi (nw_V it) p (C p + 1)) ∧ uy' p = nI (C p + 1 - nw_mi xi yi (nw_V it) p (C p + 1))) :
    nx_I kd xi yi an it' ma' ux' uy' (nw_u L p (nw_pos kd xi (nw_V it) p (C p + 1))) (nw_u C p (C p + 1)) := by
  have B := I.1.1
  have hg : ∀ d, d < C p + 1 → nw_g kd xi yi L (nw_V it) p d := by
    intro d hd
    by_cases e : d = C p
    · subst e; exact g
    · exact ((B p hp).2 d (by omega)).1
  obtain ⟨le, I'⟩ := nw_adv (V' := nw_V it') N I.1 hp (Nat.le_succ _) hg hf hw
  refine ⟨I', fun q hq => ?_, fun q hq hk => ?_, fun q hq hk => ?_⟩
  · by_cases e : q = p
    · subst e; rw [nw_us]; exact hm
    · rw [nw_un e, hm' q hq e]; exact I.2.1 q hq
  · by_cases e : q = p
    · subst e; rw [nw_us]; exact h4 hk
    · rw [nw_un e, hx' q hq e]; exact I.2.2.1 q hq hk
  · by_cases e : q = p
    · subst e
      rw [nw_us, ← (nw_loc (nu := an) N le hq hg).2.1 hk]
      exact h6 hk
    · rw [nw_un e, hx' q hq e, hy' q hq e, ← (nw_loc (nu := an) N le hq (fun d hd => ((B q hq).2 d hd).1)).2.1 hk]
      exact I.2.2.2 q hq hk
theorem nx_lt (I : nx_I kd xi yi an it ma ux uy L C) (hp : p < 8) : L p ≤ C p := by
  rw [(I.1.1 p hp).1]; exact pn_pos_le _ _ _
theorem nx_eq (I : nx_I kd xi yi an it ma ux uy L C) (hp : p < 8) (h : kd p ≠ 4) : L p = C p := by
  rw [(I.1.1 p hp).1]; exact pn_pos_n h _ _
theorem nx_40 (I : nx_I kd xi yi an it ma ux uy L C) (hp : p < 8) : L p ≤ 40 := nw_l40 I.1.1 hp
theorem nx_em (N : nw_N kd xi yi) (I : nx_I kd xi yi an it ma ux uy L C) (hp : p < 8) (g : nw_g kd xi yi L (nw_V it) p (C p)) (em : nw_em kd xi (nw_V it) p (C p)) {ux' uy' : Nat → Int32}
    (hx' : ∀ q, q < 8 → q ≠ p → ux' q = ux q) (hy' : ∀ q, q < 8 → q ≠ p → uy' q = uy q)
    (h4 : kd p = 4 → ux' p = nI (C p + 1))
    (h6 : kd p = 6 → ux' p = nI (nw_mi xi yi (nw_V it) p (C p + 1)) ∧ uy' p = nI (C p + 1 - nw_mi xi yi (nw_V it) p (C p + 1))) :
    nx_I kd xi yi an (upd it (p * 40 + L p) (nw_val kd xi yi an (nw_V it) p (C p))) (upd ma p (nI (L p + 1))) ux' uy' (nw_u L p (nw_pos kd xi (nw_V it) p (C p + 1))) (nw_u C p (C p + 1)) := by
  have B := I.1.1
  have h40 : L p < 40 := Nat.lt_of_le_of_lt (nx_lt I hp) g.1
  have hs : nw_pos kd xi (nw_V it) p (C p + 1) = L p + 1 := by
    rw [(B p hp).1]; exact pn_pos_s em
  refine nx_gen N I hp g ?_ ?_ ?_ ?_ hx' hy' h4 h6
  · intro q hq e i hi
    have := nx_40 I hq
    exact pk_un (by omega)
  · intro d hd hm
    by_cases e : d = C p
    · subst e
      rw [← (B p hp).1, pk_us]
    · have hd' : d < C p := by omega
      have lt : nw_pos kd xi (nw_V it) p d < L p := by rw [(B p hp).1]; exact pn_pos_lt hm hd'
      rw [pk_un (by omega)]
      exact ((B p hp).2 d hd').2 hm
  · rw [hs, pk_us]
  · intro q hq e
    exact pk_un e
theorem xm_make {post : SX → Prop} {n : Nat} {v : Int32} (hp : p < 8) (hn : n < 40) (hm : ma p = nI n) (H : post (ak, ax, ay, an, upd it (p * 40 + n) v, upd ma p (nI (n + 1)), ux, uy)) : wpX_make post (ak, ax, ay, an, it, ma, ux, uy) (nI p) v := by
  unfold wpX_make
  dsimp only
  rw [xa_c8 hp, hm, xa_ix, xa_c (show p * 40 + n < 320 by omega), nI_1]
  exact ⟨xa_i8 hp, xa_i320 (by omega), nm_e ⟨xa_i8 hp, xa_i8 hp, nm_e H⟩⟩
theorem xm_has {post : Int32 → Prop} {q i l : Nat} (hq : q < 8) (hm : ma q = nI l) (hl : l ≤ 40) (hi : i ≤ 40) (h1 : i < l → post 1) (h0 : l ≤ i → post 0) : wpX_hasItem post (ak, ax, ay, an, it, ma, ux, uy) (nI q) (nI i) := by
  unfold wpX_hasItem
  dsimp only
  rw [xa_c8 hq, hm]
  exact br_f (nI_pos (by omega)) ⟨xa_i8 hq, pk_le l i h0 h1⟩
theorem xm_at {post : Int32 → Prop} {q i : Nat} (hq : q < 8) (hi : i < 40) (H : post (it (q * 40 + i))) : wpX_itemAt post (ak, ax, ay, an, it, ma, ux, uy) (nI q) (nI i) := by
  unfold wpX_itemAt
  dsimp only
  rw [xa_ix, xa_c (show q * 40 + i < 320 by omega)]
  exact ⟨xa_i320 (by omega), H⟩
theorem xa_10 : ¬ (1 : Int32) = 0 := by decide
/-- what is asked of a step: without a step the state as it is, with one the next state -/
def xs_H (kd xi yi : Nat → Nat) (ak ax ay an it ma ux uy : Nat → Int32) (L C : Nat → Nat) (p : Nat) (post : SX → Prop) : Prop :=
  (¬ nw_g kd xi yi L (nw_V it) p (C p) → post (ak, ax, ay, an, it, ma, ux, uy)) ∧
  (nw_g kd xi yi L (nw_V it) p (C p) → ∀ it' ma' ux' uy', nx_I kd xi yi an it' ma' ux' uy' (nw_u L p (nw_pos kd xi (nw_V it) p (C p + 1))) (nw_u C p (C p + 1)) → post (ak, ax, ay, an, it', ma', ux', uy'))
theorem xs_mk {post : SX → Prop} {v : Int32} {ux' uy' : Nat → Int32} (A : nw_A kd xi yi ak ax ay) (I : nx_I kd xi yi an it ma ux uy L C) (hp : p < 8) (g : nw_g kd xi yi L (nw_V it) p (C p)) (em : nw_em kd xi (nw_V it) p (C p)) (hv : nw_val kd xi yi an (nw_V it) p (C p) = v)
    (hx' : ∀ q, q < 8 → q ≠ p → ux' q = ux q) (hy' : ∀ q, q < 8 → q ≠ p → uy' q = uy q)
    (h4 : kd p = 4 → ux' p = nI (C p + 1))
    (h6 : kd p = 6 → ux' p = nI (nw_mi xi yi (nw_V it) p (C p + 1)) ∧ uy' p = nI (C p + 1 - nw_mi xi yi (nw_V it) p (C p + 1)))
    (H : xs_H kd xi yi ak ax ay an it ma ux uy L C p post) : wpX_make post (ak, ax, ay, an, it, ma, ux', uy') (nI p) v := by
  refine xm_make hp (Nat.lt_of_le_of_lt (nx_lt I hp) g.1) (I.2.1 p hp) ?_
  rw [← hv]
  exact H.2 g _ _ _ _ (nx_em (nw_AN A) I hp g em hx' hy' h4 h6)
theorem xs_mk0 {post : SX → Prop} {v : Int32} (A : nw_A kd xi yi ak ax ay) (I : nx_I kd xi yi an it ma ux uy L C) (hp : p < 8) (hk4 : kd p ≠ 4) (hk6 : kd p ≠ 6) (g : nw_g kd xi yi L (nw_V it) p (C p)) (hv : nw_val kd xi yi an (nw_V it) p (C p) = v)
    (H : xs_H kd xi yi ak ax ay an it ma ux uy L C p post) : wpX_make post (ak, ax, ay, an, it, ma, ux, uy) (nI p) v :=
  xs_mk A I hp g (fun z => absurd z hk4) hv (fun _ _ _ => rfl) (fun _ _ _ => rfl) (fun z => absurd z hk4) (fun z => absurd z hk6) H
theorem xs_list {post : SX → Prop} (A : nw_A kd xi yi ak ax ay) (I : nx_I kd xi yi an it ma ux uy L C) (hp : p < 8) (hk : kd p = 1) (h40 : L p < 40) (H : xs_H kd xi yi ak ax ay an it ma ux uy L C p post) : wpX_stepList post (ak, ax, ay, an, it, ma, ux, uy) (nI p) := by
  have hL := nx_eq I hp (by omega)
  unfold wpX_stepList
  dsimp only
  rw [xa_c8 hp, I.2.1 p hp]
  refine ⟨xa_i8 hp, nm_e (pk_le 5 (L p) (fun h => H.1 (fun g => ?_)) (fun h => ⟨xa_i8 hp, xs_mk0 A I hp (by omega) (by omega) ((pn_g1 hk).mpr ⟨by omega, by omega⟩) ((pn_v1 hk).trans ?_) H⟩))⟩
  · have := (pn_g1 hk).mp g
    omega
  · rw [hL]
theorem xs_add {post : SX → Prop} (A : nw_A kd xi yi ak ax ay) (I : nx_I kd xi yi an it ma ux uy L C) (hp : p < 8) (hk : kd p = 2) (h40 : L p < 40) (H : xs_H kd xi yi ak ax ay an it ma ux uy L C p post) : wpX_stepAdd post (ak, ax, ay, an, it, ma, ux, uy) (nI p) := by
  have hL := nx_eq I hp (by omega)
  obtain ⟨⟨_, hx, hy⟩, _, ex, ey⟩ := A p hp
  unfold wpX_stepAdd
  dsimp only
  rw [xa_c8 hp, I.2.1 p hp, ex, ey, hL]
  have lx := nx_40 I hx
  have ly := nx_40 I hy
  refine ⟨xa_i8 hp, nm_e ⟨xa_i8 hp, nm_e ⟨xa_i8 hp, nm_e ?_⟩⟩⟩
  refine xm_has hx (I.2.1 _ hx) lx (by omega) (fun h1 => br_f xa_10 ?_) (fun h1 => br_t rfl (H.1 (fun g => ?_)))
  · refine xm_has hy (I.2.1 _ hy) ly (by omega) (fun h2 => br_f xa_10 ?_) (fun h2 => br_t rfl (H.1 (fun g => ?_)))
    · refine xm_at hx (by omega) (xm_at hy (by omega) ?_)
      exact xs_mk0 A I hp (by omega) (by omega) ((pn_g2 hk).mpr ⟨by omega, h1, h2⟩) (pn_v2 hk) H
    · have := (pn_g2 hk).mp g
      omega
  · have := (pn_g2 hk).mp g
    omega
theorem xs_turn1 {post : SX → Prop} (A : nw_A kd xi yi ak ax ay) (I : nx_I kd xi yi an it ma ux uy L C) (hp : p < 8) (hk : kd p = 3) (h40 : L p < 40) (H : xs_H kd xi yi ak ax ay an it ma ux uy L C p post) {z : Nat} (hz : z < 8) (e1 : (if C p % 2 = 0 then L (xi p) else L (yi p)) = L z) (e2 : nw_val kd xi yi an (nw_V it) p (C p) = it (z * 40 + C p / 2)) : wX_stepTurn_35 post (nI p) (nI (C p / 2)) (nI z) ak ax ay an it ma ux uy := by
  have hL := nx_eq I hp (by omega)
  have lz := nx_40 I hz
  unfold wX_stepTurn_35
  refine xm_has hz (I.2.1 _ hz) lz (by omega) (fun h1 => br_f xa_10 ?_) (fun h1 => br_t rfl (H.1 (fun g => ?_)))
  · refine xm_at hz (by omega) ?_
    exact xs_mk0 A I hp (by omega) (by omega) ((pn_g3 hk).mpr ⟨by omega, by rw [e1]; exact h1⟩) e2 H
  · have := (pn_g3 hk).mp g
    rw [e1] at this
    omega
theorem xs_turn {post : SX → Prop} (A : nw_A kd xi yi ak ax ay) (I : nx_I kd xi yi an it ma ux uy L C) (hp : p < 8) (hk : kd p = 3) (h40 : L p < 40) (H : xs_H kd xi yi ak ax ay an it ma ux uy L C p post) : wpX_stepTurn post (ak, ax, ay, an, it, ma, ux, uy) (nI p) := by
  have hL := nx_eq I hp (by omega)
  obtain ⟨⟨_, hx, hy⟩, _, ex, ey⟩ := A p hp
  unfold wpX_stepTurn
  dsimp only
  rw [xa_c8 hp, I.2.1 p hp, ex, ey, hL, xa_par (by omega), xa_half (by omega)]
  refine ⟨xa_i8 hp, xa_2, nm_e ⟨xa_i8 hp, xa_2, pk_eq (C p % 2) 0 (fun h => ⟨xa_i8 hp, xs_turn1 A I hp hk h40 H hx (if_pos h) ((pn_v3 hk).trans (if_pos h))⟩) (fun h => ⟨xa_i8 hp, xs_turn1 A I hp hk h40 H hy (if_neg h) ((pn_v3 hk).trans (if_neg h))⟩)⟩⟩
theorem xs_odd {post : SX → Prop} (A : nw_A kd xi yi ak ax ay) (I : nx_I kd xi yi an it ma ux uy L C) (hp : p < 8) (hk : kd p = 4) (H : xs_H kd xi yi ak ax ay an it ma ux uy L C p post) : wpX_stepOdd post (ak, ax, ay, an, it, ma, ux, uy) (nI p) := by
  obtain ⟨⟨_, hx, hy⟩, _, ex, ey⟩ := A p hp
  have c40 := nw_c40 I.1.1 hp
  have lx := nx_40 I hx
  unfold wpX_stepOdd
  dsimp only
  rw [xa_c8 hp, ex, I.2.2.1 p hp hk, nI_1]
  refine ⟨xa_i8 hp, nm_e ⟨xa_i8 hp, nm_e ?_⟩⟩
  refine xm_has hx (I.2.1 _ hx) lx (by omega) (fun h1 => br_f xa_10 ?_) (fun h1 => br_t rfl (H.1 (fun g => ?_)))
  · have g : nw_g kd xi yi L (nw_V it) p (C p) := (pn_g4 hk).mpr ⟨by omega, h1⟩
    refine xm_at hx (by omega) ⟨xa_i8 hp, xa_i8 hp, nm_e (br_c (fun ho => ?_) (fun ho => ?_))⟩
    · exact xs_mk A I hp g (fun _ => ho) (pn_v4 hk) (fun q _ e => pk_un e) (fun _ _ _ => rfl) (fun _ => pk_us) (fun z => by omega) H
    · have nm : ¬ nw_em kd xi (nw_V it) p (C p) := fun z => ho (z hk)
      have hs : nw_pos kd xi (nw_V it) p (C p + 1) = L p := by
        rw [(I.1.1 p hp).1]; exact pn_pos_ns nm
      refine H.2 g _ _ _ _ (nx_gen (nw_AN A) I hp g (fun _ _ _ _ _ => rfl) ?_ ?_ (fun _ _ _ => rfl) (fun q _ e => pk_un e) (fun _ _ _ => rfl) (fun _ => pk_us) (fun z => by omega))
      · intro d hd hm
        by_cases e : d = C p
        · subst e; exact absurd hm nm
        · exact ((I.1.1 p hp).2 d (by omega)).2 hm
      · rw [hs]; exact I.2.1 p hp
  · have := (pn_g4 hk).mp g
    omega
theorem xs_delay {post : SX → Prop} (A : nw_A kd xi yi ak ax ay) (I : nx_I kd xi yi an it ma ux uy L C) (hp : p < 8) (hk : kd p = 5) (h40 : L p < 40) (H : xs_H kd xi yi ak ax ay an it ma ux uy L C p post) : wpX_stepDelay post (ak, ax, ay, an, it, ma, ux, uy) (nI p) := by
  have hL := nx_eq I hp (by omega)
  obtain ⟨⟨_, hx, hy⟩, _, ex, ey⟩ := A p hp
  have lx := nx_40 I hx
  unfold wpX_stepDelay
  dsimp only
  rw [xa_c8 hp, I.2.1 p hp, ex, hL]
  refine ⟨xa_i8 hp, nm_e ⟨xa_i8 hp, ?_⟩⟩
  by_cases h0 : C p = 0
  · refine nm_r (e' := -1) (by rw [h0]; decide +kernel) (br_f (by decide) ⟨xa_i8 hp, ?_⟩)
    exact xs_mk0 A I hp (by omega) (by omega) ((pn_g5 hk).mpr ⟨by omega, by omega⟩) ((pn_v5 hk).trans (if_pos h0)) H
  · have e1 : nI (C p) - 1 = nI (C p - 1) := pk_sub (a := C p) (b := 1) (by omega)
    refine nm_r e1 (br_t (nI_pos' (by omega)) ?_)
    refine xm_has hx (I.2.1 _ hx) lx (by omega) (fun h1 => br_f xa_10 ?_) (fun h1 => br_t rfl (H.1 (fun g => ?_)))
    · refine xm_at hx (by omega) ?_
      exact xs_mk0 A I hp (by omega) (by omega) ((pn_g5 hk).mpr ⟨by omega, by omega⟩) ((pn_v5 hk).trans (if_neg h0)) H
    · have := (pn_g5 hk).mp g
      omega
end
