/-! the asking loops in lockstep; process tests; swaps -/
theorem xm_no {post : Int32 → Prop} {v : Int32} (h : v < 0 ∨ nI 8 ≤ v) (H : post 0) : wpX_isProcess post v := by
  unfold wpX_isProcess
  exact br_c (fun _ => H) (fun h0 => br_t (by rcases h with h | h; exact absurd h h0; exact h) H)
theorem xm_yes {post : Int32 → Prop} {p : Nat} (h : p < 8) (H : post 1) : wpX_isProcess post (nI p) := by
  unfold wpX_isProcess
  exact br_f (nI_pos (by omega)) (pk_le 8 p (fun z => by omega) (fun _ => H))
theorem ya_7 {v : Int32} (h : nI 8 ≤ v) : ¬ v ≤ 7 := fun z => absurd (Int32.le_trans h z) (by decide)
theorem ya_8 {v : Int32} (h : nI 8 ≤ v) : ¬ v < 8 := Int32.not_lt.mpr h
theorem ym_no {post : Int32 → Prop} {u : SY} {v : Int32} (h : v < 0 ∨ nI 8 ≤ v) (H : post 1) : wpY_bad post u v := by
  obtain ⟨f, ak, ax, ay, an, it, ln⟩ := u
  unfold wpY_bad
  exact br_c (fun _ => H) (fun h0 => br_f (by rcases h with h | h; exact absurd h h0; exact ya_7 h) H)
theorem ym_yes {post : Int32 → Prop} {u : SY} {p : Nat} (h : p < 8) (H : post 0) : wpY_bad post u (nI p) := by
  obtain ⟨f, ak, ax, ay, an, it, ln⟩ := u
  unfold wpY_bad
  exact br_f (nI_pos (by omega)) (pk_le p 7 (fun _ => H) (fun z => by omega))
theorem pr_ix (v : Int32) : (v < 0 ∨ nI 8 ≤ v) ∨ ∃ p, p < 8 ∧ v = nI p := by
  rcases pk_ix v (n := 8) (by decide) with h | h | h
  · exact Or.inl (Or.inl h)
  · exact Or.inl (Or.inr h)
  · exact Or.inr h
section
variable {ak ax ay an it ma ux uy : Nat → Int32} {p q l : Nat}
theorem as_sum (hp : p < 8) (hl : l ≤ 40) (e1 : ma p = nI l) :
    ∀ d i s, i + d = l → ∃ r : Int32, (∀ post : Int32 → Prop, post r → wX_sum_13 post (nI p) ak ax ay an it ma ux uy (d + 1) s (nI i)) ∧ (∀ (f : Int32) (it' ln : Nat → Int32), ln p = nI l → (∀ i, i < l → it (p * 40 + i) = it' (p * 40 + i)) → ∀ post : Int32 → SY → Prop, post r (f, ak, ax, ay, an, it', ln) → wY_sum_18 post (nI p) f ak ax ay an it' ln (d + 1) s (nI i)) := by
  intro d
  induction d with
  | zero =>
    intro i s hi
    refine ⟨s, fun post hP => ?_, fun f it' ln e2 e post hP => ?_⟩
    · rw [wX_sum_13]; dsimp only; rw [xa_c8 hp, e1]
      exact ⟨xa_i8 hp, pk_le l i (fun _ => hP) (fun h => by omega)⟩
    · rw [wY_sum_18]; dsimp only; rw [xa_c8 hp, e2]
      exact ⟨xa_i8 hp, pk_le l i (fun _ => hP) (fun h => by omega)⟩
  | succ d ih =>
    intro i s hi
    obtain ⟨r, hX, hY⟩ := ih (i + 1) (s + it (p * 40 + i)) (by omega)
    refine ⟨r, fun post hP => ?_, fun f it' ln e2 e post hP => ?_⟩
    · rw [wX_sum_13]; dsimp only; rw [xa_c8 hp, e1]
      exact ⟨xa_i8 hp, pk_le l i (fun h => by omega) (fun h => xm_at hp (by omega) (nm_e (nm_r (nI_1 i) (hX post hP))))⟩
    · rw [wY_sum_18]; dsimp only; rw [xa_c8 hp, e2, xa_ix, xa_c (show p * 40 + i < 320 by omega), ← e i (by omega)]
      exact ⟨xa_i8 hp, pk_le l i (fun h => by omega) (fun h => ⟨xa_i320 (by omega), nm_e (nm_r (nI_1 i) (hY f it' ln e2 e post hP))⟩)⟩
theorem as_find {v : Int32} (hp : p < 8) (hl : l ≤ 40) (e1 : ma p = nI l) :
    ∀ d i, i + d = l → ∃ r : Int32, (∀ post : Int32 → Prop, post r → wX_find_11 post (nI p) v ak ax ay an it ma ux uy (d + 1) (nI i)) ∧ (∀ (f : Int32) (it' ln : Nat → Int32), ln p = nI l → (∀ i, i < l → it (p * 40 + i) = it' (p * 40 + i)) → ∀ post : Int32 → SY → Prop, post r (f, ak, ax, ay, an, it', ln) → wY_find_16 post (nI p) v f ak ax ay an it' ln (d + 1) (nI i)) := by
  intro d
  induction d with
  | zero =>
    intro i hi
    refine ⟨-3, fun post hP => ?_, fun f it' ln e2 e post hP => ?_⟩
    · rw [wX_find_11]; dsimp only; rw [xa_c8 hp, e1]
      exact ⟨xa_i8 hp, pk_le l i (fun _ => hP) (fun h => by omega)⟩
    · rw [wY_find_16]; dsimp only; rw [xa_c8 hp, e2]
      exact ⟨xa_i8 hp, pk_le l i (fun _ => hP) (fun h => by omega)⟩
  | succ d ih =>
    intro i hi
    by_cases hv : it (p * 40 + i) = v
    · refine ⟨nI i, fun post hP => ?_, fun f it' ln e2 e post hP => ?_⟩
      · rw [wX_find_11]; dsimp only; rw [xa_c8 hp, e1]
        exact ⟨xa_i8 hp, pk_le l i (fun h => by omega) (fun h => xm_at hp (by omega) (br_t hv hP))⟩
      · rw [wY_find_16]; dsimp only; rw [xa_c8 hp, e2, xa_ix, xa_c (show p * 40 + i < 320 by omega), ← e i (by omega)]
        exact ⟨xa_i8 hp, pk_le l i (fun h => by omega) (fun h => ⟨xa_i320 (by omega), br_t hv hP⟩)⟩
    · obtain ⟨r, hX, hY⟩ := ih (i + 1) (by omega)
      refine ⟨r, fun post hP => ?_, fun f it' ln e2 e post hP => ?_⟩
      · rw [wX_find_11]; dsimp only; rw [xa_c8 hp, e1]
        exact ⟨xa_i8 hp, pk_le l i (fun h => by omega) (fun h => xm_at hp (by omega) (br_f hv (nm_r (nI_1 i) (hX post hP))))⟩
      · rw [wY_find_16]; dsimp only; rw [xa_c8 hp, e2, xa_ix, xa_c (show p * 40 + i < 320 by omega), ← e i (by omega)]
        exact ⟨xa_i8 hp, pk_le l i (fun h => by omega) (fun h => ⟨xa_i320 (by omega), br_f hv (nm_r (nI_1 i) (hY f it' ln e2 e post hP))⟩)⟩
theorem as_same (hp : p < 8) (hq : q < 8) (hl : l ≤ 40) (e1 : ma p = nI l) :
    ∀ d i, i + d = l → ∃ r : Int32, (∀ post : Int32 → Prop, post r → wX_same_35 post (nI p) (nI q) ak ax ay an it ma ux uy (d + 1) (nI i)) ∧ (∀ (f : Int32) (it' ln : Nat → Int32), ln p = nI l → (∀ i, i < l → it (p * 40 + i) = it' (p * 40 + i)) → (∀ i, i < l → it (q * 40 + i) = it' (q * 40 + i)) → ∀ post : Int32 → SY → Prop, post r (f, ak, ax, ay, an, it', ln) → wY_same_41 post (nI p) (nI q) f ak ax ay an it' ln (d + 1) (nI i)) := by
  intro d
  induction d with
  | zero =>
    intro i hi
    refine ⟨1, fun post hP => ?_, fun f it' ln e2 e e' post hP => ?_⟩
    · rw [wX_same_35]; dsimp only; rw [xa_c8 hp, e1]
      exact ⟨xa_i8 hp, pk_le l i (fun _ => hP) (fun h => by omega)⟩
    · rw [wY_same_41]; dsimp only; rw [xa_c8 hp, e2]
      exact ⟨xa_i8 hp, pk_le l i (fun _ => hP) (fun h => by omega)⟩
  | succ d ih =>
    intro i hi
    by_cases hv : it (p * 40 + i) = it (q * 40 + i)
    · obtain ⟨r, hX, hY⟩ := ih (i + 1) (by omega)
      refine ⟨r, fun post hP => ?_, fun f it' ln e2 e e' post hP => ?_⟩
      · rw [wX_same_35]; dsimp only; rw [xa_c8 hp, e1]
        exact ⟨xa_i8 hp, pk_le l i (fun h => by omega) (fun h => xm_at hp (by omega) (xm_at hq (by omega) (br_t hv (nm_r (nI_1 i) (hX post hP)))))⟩
      · rw [wY_same_41]; dsimp only; rw [xa_c8 hp, e2, xa_ix, xa_ix, xa_c (show p * 40 + i < 320 by omega), xa_c (show q * 40 + i < 320 by omega), ← e i (by omega), ← e' i (by omega)]
        exact ⟨xa_i8 hp, pk_le l i (fun h => by omega) (fun h => ⟨xa_i320 (by omega), xa_i320 (by omega), br_t hv (nm_r (nI_1 i) (hY f it' ln e2 e e' post hP))⟩)⟩
    · refine ⟨0, fun post hP => ?_, fun f it' ln e2 e e' post hP => ?_⟩
      · rw [wX_same_35]; dsimp only; rw [xa_c8 hp, e1]
        exact ⟨xa_i8 hp, pk_le l i (fun h => by omega) (fun h => xm_at hp (by omega) (xm_at hq (by omega) (br_f hv hP)))⟩
      · rw [wY_same_41]; dsimp only; rw [xa_c8 hp, e2, xa_ix, xa_ix, xa_c (show p * 40 + i < 320 by omega), xa_c (show q * 40 + i < 320 by omega), ← e i (by omega), ← e' i (by omega)]
        exact ⟨xa_i8 hp, pk_le l i (fun h => by omega) (fun h => ⟨xa_i320 (by omega), xa_i320 (by omega), br_f hv hP⟩)⟩
theorem as_full :
    ∀ d i s, i + d = 8 → ∃ r : Int32, (∀ post : Int32 → Prop, post r → wX_full_4 post ak ax ay an it ma ux uy (d + 1) s (nI i)) ∧ (∀ (f : Int32) (it' ln : Nat → Int32), (∀ q, q < 8 → ma q = ln q) → ∀ post : Int32 → SY → Prop, post r (f, ak, ax, ay, an, it', ln) → wY_full_8 post f ak ax ay an it' ln (d + 1) s (nI i)) := by
  intro d
  induction d with
  | zero =>
    intro i s hi
    refine ⟨s, fun post hP => ?_, fun f it' ln e post hP => ?_⟩
    · rw [wX_full_4]
      exact pk_le 8 i (fun _ => hP) (fun h => by omega)
    · rw [wY_full_8]
      exact pk_le 8 i (fun _ => hP) (fun h => by omega)
  | succ d ih =>
    intro i s hi
    by_cases hv : ma i = 40
    · obtain ⟨r, hX, hY⟩ := ih (i + 1) (s + 1) (by omega)
      refine ⟨r, fun post hP => ?_, fun f it' ln e post hP => ?_⟩
      · rw [wX_full_4]; dsimp only; rw [xa_c8 (show i < 8 by omega)]
        exact pk_le 8 i (fun h => by omega) (fun h => ⟨xa_i8 h, br_t hv (nm_e (nm_r (nI_1 i) (hX post hP)))⟩)
      · rw [wY_full_8]; dsimp only; rw [xa_c8 (show i < 8 by omega), ← e i (by omega)]
        exact pk_le 8 i (fun h => by omega) (fun h => ⟨xa_i8 h, br_t hv (nm_e (nm_r (nI_1 i) (hY f it' ln e post hP)))⟩)
    · obtain ⟨r, hX, hY⟩ := ih (i + 1) s (by omega)
      refine ⟨r, fun post hP => ?_, fun f it' ln e post hP => ?_⟩
      · rw [wX_full_4]; dsimp only; rw [xa_c8 (show i < 8 by omega)]
        exact pk_le 8 i (fun h => by omega) (fun h => ⟨xa_i8 h, br_f hv (nm_r (nI_1 i) (hX post hP))⟩)
      · rw [wY_full_8]; dsimp only; rw [xa_c8 (show i < 8 by omega), ← e i (by omega)]
        exact pk_le 8 i (fun h => by omega) (fun h => ⟨xa_i8 h, br_f hv (nm_r (nI_1 i) (hY f it' ln e post hP))⟩)
def sw_a (a : Nat → Int32) (p q : Nat) : Nat → Int32 := upd (upd a p (a q)) q (a p)
theorem sw_k {post : SX → Prop} (hp : p < 8) (hq : q < 8) (H : post (sw_a ak p q, ax, ay, an, it, ma, ux, uy)) : wpX_swap__kinds post (ak, ax, ay, an, it, ma, ux, uy) (nI p) (nI q) := by
  unfold wpX_swap__kinds
  dsimp only
  rw [xa_c8 hp, xa_c8 hq]
  exact ⟨xa_i8 hp, nm_e ⟨xa_i8 hq, xa_i8 hp, nm_e ⟨xa_i8 hq, nm_e H⟩⟩⟩
theorem sw_x {post : SX → Prop} (hp : p < 8) (hq : q < 8) (H : post (ak, sw_a ax p q, ay, an, it, ma, ux, uy)) : wpX_swap__xs post (ak, ax, ay, an, it, ma, ux, uy) (nI p) (nI q) := by
  unfold wpX_swap__xs
  dsimp only
  rw [xa_c8 hp, xa_c8 hq]
  exact ⟨xa_i8 hp, nm_e ⟨xa_i8 hq, xa_i8 hp, nm_e ⟨xa_i8 hq, nm_e H⟩⟩⟩
theorem sw_y {post : SX → Prop} (hp : p < 8) (hq : q < 8) (H : post (ak, ax, sw_a ay p q, an, it, ma, ux, uy)) : wpX_swap__ys post (ak, ax, ay, an, it, ma, ux, uy) (nI p) (nI q) := by
  unfold wpX_swap__ys
  dsimp only
  rw [xa_c8 hp, xa_c8 hq]
  exact ⟨xa_i8 hp, nm_e ⟨xa_i8 hq, xa_i8 hp, nm_e ⟨xa_i8 hq, nm_e H⟩⟩⟩
theorem sw_n {post : SX → Prop} (hp : p < 8) (hq : q < 8) (H : post (ak, ax, ay, sw_a an p q, it, ma, ux, uy)) : wpX_swap__numbers post (ak, ax, ay, an, it, ma, ux, uy) (nI p) (nI q) := by
  unfold wpX_swap__numbers
  dsimp only
  rw [xa_c8 hp, xa_c8 hq]
  exact ⟨xa_i8 hp, nm_e ⟨xa_i8 hq, xa_i8 hp, nm_e ⟨xa_i8 hq, nm_e H⟩⟩⟩
def sw_f (a : Nat → Nat) (p q : Nat) : Nat → Nat := nw_u (nw_u a p (a q)) q (a p)
theorem sw_e {a : Nat → Int32} {g : Nat → Nat} (hp : p < 8) (hq : q < 8) (h : ∀ r, r < 8 → a r = nI (g r)) : ∀ r, r < 8 → sw_a a p q r = nI (sw_f g p q r) := by
  intro r hr
  unfold sw_a sw_f
  by_cases e : r = q
  · subst e; rw [pk_us, nw_us]; exact h p hp
  · rw [pk_un e, nw_un e]
    by_cases e' : r = p
    · subst e'; rw [pk_us, nw_us]; exact h q hq
    · rw [pk_un e', nw_un e']; exact h r hr
theorem sw_lt {g : Nat → Nat} (hp : p < 8) (hq : q < 8) (h : ∀ r, r < 8 → g r < 8) : ∀ r, r < 8 → sw_f g p q r < 8 := by
  intro r hr
  unfold sw_f
  by_cases e : r = q
  · subst e; rw [nw_us]; exact h p hp
  · rw [nw_un e]
    by_cases e' : r = p
    · subst e'; rw [nw_us]; exact h q hq
    · rw [nw_un e']; exact h r hr
theorem sw_A {kd xi yi : Nat → Nat} (hp : p < 8) (hq : q < 8) (A : nw_A kd xi yi ak ax ay) : nw_A (sw_f kd p q) (sw_f xi p q) (sw_f yi p q) (sw_a ak p q) (sw_a ax p q) (sw_a ay p q) := fun r hr =>
  ⟨⟨sw_lt hp hq (fun r h => (A r h).1.1) r hr, sw_lt hp hq (fun r h => (A r h).1.2.1) r hr, sw_lt hp hq (fun r h => (A r h).1.2.2) r hr⟩, sw_e hp hq (fun r h => (A r h).2.1) r hr, sw_e hp hq (fun r h => (A r h).2.2.1) r hr, sw_e hp hq (fun r h => (A r h).2.2.2) r hr⟩
theorem st_A {kd xi yi : Nat → Nat} {k x y : Nat} (hp : p < 8) (hk : k < 8) (hx : x < 8) (hy : y < 8) (A : nw_A kd xi yi ak ax ay) : nw_A (nw_u kd p k) (nw_u xi p x) (nw_u yi p y) (upd ak p (nI k)) (upd ax p (nI x)) (upd ay p (nI y)) := by
  intro r hr
  by_cases e : r = p
  · subst e
    rw [nw_us, nw_us, nw_us, pk_us, pk_us, pk_us]
    exact ⟨⟨hk, hx, hy⟩, rfl, rfl, rfl⟩
  · rw [nw_un e, nw_un e, nw_un e, pk_un e, pk_un e, pk_un e]
    exact A r hr
end
