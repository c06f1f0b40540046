/-! the relation and what is owed -/
/-- one network on both sides; the component's streams worked out; the reference's too where it says that it knows them -/
def i_Rel (_ : Nat) (u : SX) (v : SY) : Prop := ∃ (kd xi yi : Nat → Nat) (ak ax ay an it ma ux uy : Nat → Int32) (f : Int32) (it' ln : Nat → Int32), u = (ak, ax, ay, an, it, ma, ux, uy) ∧ v = (f, ak, ax, ay, an, it', ln) ∧ nw_A kd xi yi ak ax ay ∧ nd_D kd xi yi an it ma ∧ (f ≠ 0 → nd_D kd xi yi an it' ln)
theorem re_mk {k : Nat} {kd xi yi : Nat → Nat} {ak ax ay an it ma ux uy : Nat → Int32} {f : Int32} {it' ln : Nat → Int32} (A : nw_A kd xi yi ak ax ay) (D : nd_D kd xi yi an it ma) (F : f ≠ 0 → nd_D kd xi yi an it' ln) : i_Rel k (ak, ax, ay, an, it, ma, ux, uy) (f, ak, ax, ay, an, it', ln) :=
  ⟨kd, xi, yi, ak, ax, ay, an, it, ma, ux, uy, f, it', ln, rfl, rfl, A, D, F⟩
theorem i_up {k : Nat} {u : SX} {v : SY} (h : i_Rel k u v) : i_Rel (k + 5) u v := h
def in_k : Nat → Nat → Int32
  | 0 => fun _ => 0
  | p + 1 => upd (in_k p) p 1
theorem in_k1 : ∀ p q, q < p → in_k p q = 1
  | 0, q, h => absurd h (Nat.not_lt_zero _)
  | p + 1, q, h => by
    rw [in_k]
    by_cases e : q = p
    · subst e; exact pk_us
    · rw [pk_un e]; exact in_k1 p q (by omega)
theorem in_X {post : SX → Prop} {ax ay an it ma ux uy : Nat → Int32} (H : wpX_workOutStreams post (in_k 8, ax, ay, an, it, ma, ux, uy)) : ∀ d p n, p + d = 8 → d < n → wX_init_71 post n (nI p) (in_k p) ax ay an it ma ux uy := by
  intro d
  induction d with
  | zero =>
    intro p n hp hn
    obtain ⟨n, rfl⟩ : ∃ m, n = m + 1 := ⟨n - 1, by omega⟩
    have hp8 : p = 8 := by omega
    subst hp8
    rw [wX_init_71]
    exact br_t (by decide) H
  | succ d ih =>
    intro p n hp hn
    obtain ⟨n, rfl⟩ : ∃ m, n = m + 1 := ⟨n - 1, by omega⟩
    rw [wX_init_71]
    refine pk_le 8 p (fun h => by omega) (fun h => ?_)
    rw [xa_c8 h]
    exact ⟨xa_i8 h, nm_e (nm_r (nI_1 p) (ih (p + 1) n (by omega) (by omega)))⟩
theorem in_Y {post : SY → Prop} {f : Int32} {ax ay an it ln : Nat → Int32} (H : post (f, in_k 8, ax, ay, an, it, ln)) : ∀ d p n, p + d = 8 → d < n → wY_init_55 post f n (nI p) (in_k p) ax ay an it ln := by
  intro d
  induction d with
  | zero =>
    intro p n hp hn
    obtain ⟨n, rfl⟩ : ∃ m, n = m + 1 := ⟨n - 1, by omega⟩
    have hp8 : p = 8 := by omega
    subst hp8
    rw [wY_init_55]
    exact br_t (by decide) H
  | succ d ih =>
    intro p n hp hn
    obtain ⟨n, rfl⟩ : ∃ m, n = m + 1 := ⟨n - 1, by omega⟩
    rw [wY_init_55]
    refine pk_le 8 p (fun h => by omega) (fun h => ?_)
    rw [xa_c8 h]
    exact ⟨xa_i8 h, nm_e (nm_r (nI_1 p) (ih (p + 1) n (by omega) (by omega)))⟩
theorem in_A : nw_A (fun _ => 1) (fun _ => 0) (fun _ => 0) (in_k 8) (fun _ => 0) (fun _ => 0) := fun q hq => ⟨⟨show 1 < 8 by decide, show 0 < 8 by decide, show 0 < 8 by decide⟩, in_k1 8 q hq, rfl, rfl⟩
theorem i_vc0 : wpX_init (fun u => wpY_init (fun v => i_Rel 0 u v)) := by
  unfold wpX_init
  refine ⟨9, in_X (xm_work in_A (fun it ma ux uy D => ?_)) 8 0 9 rfl (by decide)⟩
  unfold wpY_init
  exact ⟨9, in_Y (re_mk in_A D (fun z => absurd rfl z)) 8 0 9 rfl (by decide)⟩
theorem i_vc_set {k : Nat} {u : SX} {v : SY} (I : i_Rel k u v) (hk : k + 5 ≤ 2560) (v1 : Int32) (v2 : Int32) (v3 : Int32) (v4 : Int32) : wpX_set (fun r u' => wpY_set (fun r' v' => r' = r ∧ i_Rel (k + 5) u' v') v v1 v2 v3 v4) u v1 v2 v3 v4 := by
  obtain ⟨kd, xi, yi, ak, ax, ay, an, it, ma, ux, uy, f, it', ln, rfl, rfl, A, D, F⟩ := I
  unfold wpX_set
  dsimp only
  rcases pr_ix v1 with h | ⟨p, hp, rfl⟩
  · refine xm_no h (br_t rfl ?_)
    unfold wpY_set
    dsimp only
    exact ym_no h (br_f xa_10 ⟨rfl, re_mk A D F⟩)
  · refine xm_yes hp (br_f xa_10 ?_)
    rcases pr_ix v2 with h | ⟨j, hj, rfl⟩
    · have Y : ∀ z : Int32, z = -2 → wpY_set (fun r' v' => r' = z ∧ i_Rel (k + 5) (ak, ax, ay, an, it, ma, ux, uy) v') (f, ak, ax, ay, an, it', ln) (nI p) v2 v3 v4 := by
        intro z ez
        unfold wpY_set
        dsimp only
        refine ym_yes hp (br_t rfl (br_c (fun _ => ⟨ez.symm, re_mk A D F⟩) (fun h0 => br_f ?_ ⟨ez.symm, re_mk A D F⟩)))
        rcases h with h | h
        · exact absurd h h0
        · exact ya_7 h
      refine br_c (fun _ => Y _ rfl) (fun h0 => br_f ?_ (Y _ rfl))
      rcases h with h | h
      · exact absurd h h0
      · exact ya_8 h
    · obtain ⟨x, hx, ex⟩ := pk_andE v3 (m := 7) 3 (by decide)
      obtain ⟨y, hy, ey⟩ := pk_andE (v3 >>> ((3 : Int32) &&& 31)) (m := 7) 3 (by decide)
      have A' := st_A hp hj (show x < 8 from hx) (show y < 8 from hy) A
      rw [xa_c8 hp, ex, ey]
      refine br_f (nI_pos (by omega)) (pk_lt j 8 (fun _ => ⟨xa_i8 hp, nm_e ⟨xa_i8 hp, nm_e ⟨xa_i8 hp, nm_e ⟨xa_i8 hp, nm_e (xm_work A' (fun it2 ma2 ux2 uy2 D2 => ?_))⟩⟩⟩⟩) (fun z => by omega))
      unfold wpY_set
      dsimp only
      rw [xa_c8 hp, ex, ey]
      exact ym_yes hp (br_t rfl (br_f (nI_pos (by omega)) (pk_le j 7 (fun _ => ⟨xa_i8 hp, nm_e ⟨xa_i8 hp, nm_e ⟨xa_i8 hp, nm_e ⟨xa_i8 hp, nm_e ⟨rfl, re_mk A' D2 (fun z => absurd rfl z)⟩⟩⟩⟩⟩) (fun z => by omega))))
theorem i_vc_fire {k : Nat} {u : SX} {v : SY} (I : i_Rel k u v) (hk : k + 5 ≤ 2560) (v1 : Int32) (v2 : Int32) : wpX_fire (fun r => wpY_fire (fun r' => r' = r ∧ i_Rel (k + 5) u v) v v1 v2) u v1 v2 := by
  have I' := i_up I
  obtain ⟨kd, xi, yi, ak, ax, ay, an, it, ma, ux, uy, f, it', ln, rfl, rfl, A, D, F⟩ := I
  unfold wpX_fire
  dsimp only
  rcases pr_ix v1 with h | ⟨p, hp, rfl⟩
  · refine xm_no h (br_t rfl ?_)
    unfold wpY_fire
    dsimp only
    exact ym_no h (br_f xa_10 ⟨rfl, I'⟩)
  · refine xm_yes hp (br_f xa_10 ?_)
    unfold wpY_fire
    dsimp only
    exact ym_yes hp (br_t rfl ⟨rfl, I'⟩)
theorem i_vc_exchange {k : Nat} {u : SX} {v : SY} (I : i_Rel k u v) (hk : k + 5 ≤ 2560) (v1 : Int32) (v2 : Int32) : wpX_exchange (fun r u' => wpY_exchange (fun r' v' => r' = r ∧ i_Rel (k + 5) u' v') v v1 v2) u v1 v2 := by
  obtain ⟨kd, xi, yi, ak, ax, ay, an, it, ma, ux, uy, f, it', ln, rfl, rfl, A, D, F⟩ := I
  unfold wpX_exchange
  dsimp only
  rcases pr_ix v1 with h | ⟨p, hp, rfl⟩
  · refine xm_no h (br_t rfl ?_)
    unfold wpY_exchange
    dsimp only
    exact ym_no h (br_f xa_10 ⟨rfl, re_mk A D F⟩)
  · refine xm_yes hp (br_f xa_10 ?_)
    rcases pr_ix v2 with h | ⟨q, hq, rfl⟩
    · refine xm_no h (br_t rfl ?_)
      unfold wpY_exchange
      dsimp only
      exact ym_yes hp (br_t rfl (ym_no h (br_f xa_10 ⟨rfl, re_mk A D F⟩)))
    · refine xm_yes hq (br_f xa_10 (sw_k hp hq (sw_x hp hq (sw_y hp hq (sw_n hp hq (xm_work (sw_A hp hq A) (fun it2 ma2 ux2 uy2 D2 => ?_)))))))
      unfold wpY_exchange
      dsimp only
      rw [xa_c8 hp, xa_c8 hq]
      refine ym_yes hp (br_t rfl (ym_yes hq (br_t rfl ⟨xa_i8 hp, nm_e ⟨xa_i8 hp, nm_e ⟨xa_i8 hp, nm_e ⟨xa_i8 hp, nm_e ⟨xa_i8 hq, xa_i8 hp, nm_e ⟨xa_i8 hq, xa_i8 hp, nm_e ⟨xa_i8 hq, xa_i8 hp, nm_e ⟨xa_i8 hq, xa_i8 hp, nm_e ⟨xa_i8 hq, nm_e ⟨xa_i8 hq, nm_e ⟨xa_i8 hq, nm_e ⟨xa_i8 hq, nm_e ⟨rfl, ?_⟩⟩⟩⟩⟩⟩⟩⟩⟩⟩⟩⟩⟩)))
      exact re_mk (sw_A hp hq A) D2 (fun z => absurd rfl z)
theorem i_vc_length {k : Nat} {u : SX} {v : SY} (I : i_Rel k u v) (hk : k + 5 ≤ 2560) (v1 : Int32) : wpX_length (fun r => wpY_length (fun r' v' => r' = r ∧ i_Rel (k + 5) u v') v v1) u v1 := by
  obtain ⟨kd, xi, yi, ak, ax, ay, an, it, ma, ux, uy, f, it', ln, rfl, rfl, A, D, F⟩ := I
  unfold wpX_length
  dsimp only
  rcases pr_ix v1 with h | ⟨p, hp, rfl⟩
  · refine xm_no h (br_t rfl ?_)
    unfold wpY_length
    dsimp only
    exact ym_no h (br_f xa_10 ⟨rfl, re_mk A D F⟩)
  · rw [xa_c8 hp]
    refine xm_yes hp (br_f xa_10 ⟨xa_i8 hp, ?_⟩)
    unfold wpY_length
    dsimp only
    refine ym_yes hp (br_t rfl (ym_work A F (fun f2 it2 ln2 hf D2 => ?_)))
    obtain ⟨l, hl, e1, e2, e⟩ := nd_eq D D2 hp
    dsimp only
    rw [xa_c8 hp]
    exact ⟨xa_i8 hp, e2.trans e1.symm, re_mk A D (fun _ => D2)⟩
theorem i_vc_item {k : Nat} {u : SX} {v : SY} (I : i_Rel k u v) (hk : k + 5 ≤ 2560) (v1 : Int32) (v2 : Int32) : wpX_item (fun r => wpY_item (fun r' v' => r' = r ∧ i_Rel (k + 5) u v') v v1 v2) u v1 v2 := by
  obtain ⟨kd, xi, yi, ak, ax, ay, an, it, ma, ux, uy, f, it', ln, rfl, rfl, A, D, F⟩ := I
  unfold wpX_item
  dsimp only
  rcases pr_ix v1 with h | ⟨p, hp, rfl⟩
  · refine xm_no h (br_t rfl ?_)
    unfold wpY_item
    dsimp only
    exact ym_no h (br_f xa_10 ⟨rfl, re_mk A D F⟩)
  · refine xm_yes hp (br_f xa_10 ?_)
    have Y : ∀ r : Int32, (∀ it2 ln2, nd_D kd xi yi an it2 ln2 → (v2 < 0 ∧ r = -3) ∨ (¬ v2 < 0 ∧ ¬ v2 < ln2 p ∧ r = -3) ∨ (∃ j, j < 40 ∧ v2 = nI j ∧ v2 < ln2 p ∧ r = it2 (p * 40 + j))) → wpY_item (fun r' v' => r' = r ∧ i_Rel (k + 5) (ak, ax, ay, an, it, ma, ux, uy) v') (f, ak, ax, ay, an, it', ln) (nI p) v2 := by
      intro r H
      unfold wpY_item
      dsimp only
      refine ym_yes hp (br_t rfl (ym_work A F (fun f2 it2 ln2 hf D2 => ?_)))
      have R := re_mk (k := k + 5) (ux := ux) (uy := uy) (f := f2) A D (fun _ => D2)
      dsimp only
      rw [xa_c8 hp]
      rcases H it2 ln2 D2 with ⟨h, e⟩ | ⟨h, h1, e⟩ | ⟨j, hj, ej, h1, e⟩
      · exact br_t h ⟨e.symm, R⟩
      · exact br_f h ⟨xa_i8 hp, br_f h1 ⟨e.symm, R⟩⟩
      · subst ej
        rw [xa_ix, xa_c (show p * 40 + j < 320 by omega)]
        exact br_f (nI_pos (by omega)) ⟨xa_i8 hp, br_t h1 ⟨xa_i320 (by omega), e.symm, R⟩⟩
    obtain ⟨l, hl, e1, _⟩ := nd_eq D D hp
    have E : ∀ it2 ln2, nd_D kd xi yi an it2 ln2 → ln2 p = nI l ∧ ∀ i, i < l → it (p * 40 + i) = it2 (p * 40 + i) := by
      intro it2 ln2 D2
      obtain ⟨l', hl', e1', e2', e'⟩ := nd_eq D D2 hp
      have : l = l' := (nI_eq (by omega) (by omega)).mp (e1.symm.trans e1')
      subst this
      exact ⟨e2', e'⟩
    rcases pk_ix v2 (n := l) (by omega) with h | h | ⟨j, hj, rfl⟩
    · unfold wpX_hasItem
      dsimp only
      exact br_t h (br_t rfl (Y _ (fun it2 ln2 D2 => Or.inl ⟨h, rfl⟩)))
    · have h0 : ¬ v2 < 0 := Int32.not_lt.mpr (Int32.le_trans (nI_pos' (by omega)) h)
      unfold wpX_hasItem
      dsimp only
      rw [xa_c8 hp, e1]
      refine br_f h0 ⟨xa_i8 hp, br_t h (br_t rfl (Y _ (fun it2 ln2 D2 => Or.inr (Or.inl ⟨h0, ?_, rfl⟩))))⟩
      rw [(E it2 ln2 D2).1]
      exact Int32.not_lt.mpr h
    · refine xm_has hp e1 hl (by omega) (fun h1 => br_f xa_10 (xm_at hp (by omega) (Y _ (fun it2 ln2 D2 => Or.inr (Or.inr ⟨j, by omega, rfl, ?_, (E it2 ln2 D2).2 j hj⟩))))) (fun h1 => by omega)
      rw [(E it2 ln2 D2).1]
      exact nI_lt hj (by omega)
theorem re_l {kd xi yi : Nat → Nat} {an it ma : Nat → Int32} (D : nd_D kd xi yi an it ma) {p : Nat} (hp : p < 8) : ∃ l, l ≤ 40 ∧ ma p = nI l ∧ ∀ it2 ln2, nd_D kd xi yi an it2 ln2 → ln2 p = nI l ∧ ∀ i, i < l → it (p * 40 + i) = it2 (p * 40 + i) := by
  obtain ⟨l, hl, e1, _⟩ := nd_eq D D hp
  refine ⟨l, hl, e1, fun it2 ln2 D2 => ?_⟩
  obtain ⟨l', hl', e1', e2', e'⟩ := nd_eq D D2 hp
  have : l = l' := (nI_eq (by omega) (by omega)).mp (e1.symm.trans e1')
  subst this
  exact ⟨e2', e'⟩
theorem i_vc_sum {k : Nat} {u : SX} {v : SY} (I : i_Rel k u v) (hk : k + 5 ≤ 2560) (v1 : Int32) : wpX_sum (fun r => wpY_sum (fun r' v' => r' = r ∧ i_Rel (k + 5) u v') v v1) u v1 := by
  obtain ⟨kd, xi, yi, ak, ax, ay, an, it, ma, ux, uy, f, it', ln, rfl, rfl, A, D, F⟩ := I
  unfold wpX_sum
  dsimp only
  rcases pr_ix v1 with h | ⟨p, hp, rfl⟩
  · refine xm_no h (br_t rfl ?_)
    unfold wpY_sum
    dsimp only
    exact ym_no h (br_f xa_10 ⟨rfl, re_mk A D F⟩)
  · obtain ⟨l, hl, e1, E⟩ := re_l D hp
    obtain ⟨r, hX, hY⟩ := as_sum (ak := ak) (ax := ax) (ay := ay) (an := an) (it := it) (ma := ma) (ux := ux) (uy := uy) hp hl e1 l 0 0 (by omega)
    refine xm_yes hp (br_f xa_10 ⟨l + 1, hX _ ?_⟩)
    unfold wpY_sum
    dsimp only
    refine ym_yes hp (br_t rfl (ym_work A F (fun f2 it2 ln2 hf D2 => ?_)))
    exact ⟨l + 1, hY f2 it2 ln2 (E _ _ D2).1 (E _ _ D2).2 _ ⟨rfl, re_mk A D (fun _ => D2)⟩⟩
theorem i_vc_find {k : Nat} {u : SX} {v : SY} (I : i_Rel k u v) (hk : k + 5 ≤ 2560) (v1 : Int32) (v2 : Int32) : wpX_find (fun r => wpY_find (fun r' v' => r' = r ∧ i_Rel (k + 5) u v') v v1 v2) u v1 v2 := by
  obtain ⟨kd, xi, yi, ak, ax, ay, an, it, ma, ux, uy, f, it', ln, rfl, rfl, A, D, F⟩ := I
  unfold wpX_find
  dsimp only
  rcases pr_ix v1 with h | ⟨p, hp, rfl⟩
  · refine xm_no h (br_t rfl ?_)
    unfold wpY_find
    dsimp only
    exact ym_no h (br_f xa_10 ⟨rfl, re_mk A D F⟩)
  · obtain ⟨l, hl, e1, E⟩ := re_l D hp
    obtain ⟨r, hX, hY⟩ := as_find (ak := ak) (ax := ax) (ay := ay) (an := an) (it := it) (ma := ma) (ux := ux) (uy := uy) (v := v2) hp hl e1 l 0 (by omega)
    refine xm_yes hp (br_f xa_10 ⟨l + 1, hX _ ?_⟩)
    unfold wpY_find
    dsimp only
    refine ym_yes hp (br_t rfl (ym_work A F (fun f2 it2 ln2 hf D2 => ?_)))
    exact ⟨l + 1, hY f2 it2 ln2 (E _ _ D2).1 (E _ _ D2).2 _ ⟨rfl, re_mk A D (fun _ => D2)⟩⟩
theorem i_vc_same {k : Nat} {u : SX} {v : SY} (I : i_Rel k u v) (hk : k + 5 ≤ 2560) (v1 : Int32) (v2 : Int32) : wpX_same (fun r => wpY_same (fun r' v' => r' = r ∧ i_Rel (k + 5) u v') v v1 v2) u v1 v2 := by
  obtain ⟨kd, xi, yi, ak, ax, ay, an, it, ma, ux, uy, f, it', ln, rfl, rfl, A, D, F⟩ := I
  unfold wpX_same
  dsimp only
  rcases pr_ix v1 with h | ⟨p, hp, rfl⟩
  · refine xm_no h (br_t rfl ?_)
    unfold wpY_same
    dsimp only
    exact ym_no h (br_f xa_10 ⟨rfl, re_mk A D F⟩)
  · refine xm_yes hp (br_f xa_10 ?_)
    rcases pr_ix v2 with h | ⟨q, hq, rfl⟩
    · refine xm_no h (br_t rfl ?_)
      unfold wpY_same
      dsimp only
      exact ym_yes hp (br_t rfl (ym_no h (br_f xa_10 ⟨rfl, re_mk A D F⟩)))
    · obtain ⟨l, hl, e1, E⟩ := re_l D hp
      obtain ⟨m, hm, e1q, Eq⟩ := re_l D hq
      rw [xa_c8 hp, xa_c8 hq, e1, e1q]
      refine xm_yes hq (br_f xa_10 ⟨xa_i8 hp, xa_i8 hq, pk_eq l m (fun e => ?_) (fun e => ?_)⟩)
      · subst e
        obtain ⟨r, hX, hY⟩ := as_same (ak := ak) (ax := ax) (ay := ay) (an := an) (it := it) (ma := ma) (ux := ux) (uy := uy) hp hq hl e1 l 0 (by omega)
        refine ⟨l + 1, hX _ ?_⟩
        unfold wpY_same
        dsimp only
        refine ym_yes hp (br_t rfl (ym_yes hq (br_t rfl (ym_work A F (fun f2 it2 ln2 hf D2 => ?_)))))
        dsimp only
        rw [xa_c8 hp, xa_c8 hq, (E _ _ D2).1, (Eq _ _ D2).1]
        exact ⟨xa_i8 hp, xa_i8 hq, br_t rfl ⟨l + 1, hY f2 it2 ln2 (E _ _ D2).1 (E _ _ D2).2 (Eq _ _ D2).2 _ ⟨rfl, re_mk A D (fun _ => D2)⟩⟩⟩
      · unfold wpY_same
        dsimp only
        refine ym_yes hp (br_t rfl (ym_yes hq (br_t rfl (ym_work A F (fun f2 it2 ln2 hf D2 => ?_)))))
        dsimp only
        rw [xa_c8 hp, xa_c8 hq, (E _ _ D2).1, (Eq _ _ D2).1]
        exact ⟨xa_i8 hp, xa_i8 hq, pk_eq l m (fun z => absurd z e) (fun _ => ⟨rfl, re_mk A D (fun _ => D2)⟩)⟩
theorem i_vc_full {k : Nat} {u : SX} {v : SY} (I : i_Rel k u v) (hk : k + 5 ≤ 2560) : wpX_full (fun r => wpY_full (fun r' v' => r' = r ∧ i_Rel (k + 5) u v') v) u := by
  obtain ⟨kd, xi, yi, ak, ax, ay, an, it, ma, ux, uy, f, it', ln, rfl, rfl, A, D, F⟩ := I
  obtain ⟨r, hX, hY⟩ := as_full (ak := ak) (ax := ax) (ay := ay) (an := an) (it := it) (ma := ma) (ux := ux) (uy := uy) 8 0 0 rfl
  unfold wpX_full
  dsimp only
  refine ⟨9, hX _ ?_⟩
  unfold wpY_full
  dsimp only
  refine ym_work A F (fun f2 it2 ln2 hf D2 => ?_)
  refine ⟨9, hY f2 it2 ln2 (fun q hq => ?_) _ ⟨rfl, re_mk A D (fun _ => D2)⟩⟩
  obtain ⟨l, hl, e1, e2, e⟩ := nd_eq D D2 hq
  exact e1.trans e2.symm
