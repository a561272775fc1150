theorem pk_us {f : Nat → Int32} {k : Nat} {x : Int32} : upd f k x k = x := if_pos rfl
theorem pk_un {f : Nat → Int32} {k j : Nat} {x : Int32} (h : j ≠ k) : upd f k x j = f j := if_neg h
theorem pk_sub {a b : Nat} (h : b ≤ a) : nI a - nI b = nI (a - b) := by
  obtain ⟨c, rfl⟩ : ∃ c, a = c + b := ⟨a - b, by omega⟩
  rw [← nI_add, Int32.add_sub_cancel, Nat.add_sub_cancel]
theorem pk_m1 (n : Nat) : nI (n + 1) + (-1) = nI n := by
  rw [← nI_1, Int32.add_assoc, show (1 : Int32) + (-1) = 0 from rfl, Int32.add_zero]
theorem pk_mul (a b : Nat) : nI a * nI b = nI (a * b) := (Int32.ofNat_mul a b).symm
theorem pk_div {a d : Nat} (ha : a < 2 ^ 31) (h0 : 0 < d) (hd : d < 2 ^ 31) : nI a / nI d = nI (a / d) := by
  apply Int32.toInt_inj.mp
  rw [lg_idiv_nonneg (by rw [nI_toInt ha]; omega) (by rw [nI_toInt hd]; omega), nI_toInt ha, nI_toInt hd, nI_toInt (Nat.lt_of_le_of_lt (Nat.div_le_self a d) ha)]
  first | rfl | exact (Int.natCast_ediv _ _).symm
theorem pk_rem {a d : Nat} (ha : a < 2 ^ 31) (h0 : 0 < d) (hd : d < 2 ^ 31) : nI a - nI a / nI d * nI d = nI (a % d) := by
  rw [pk_div ha h0 hd, pk_mul, pk_sub (Nat.div_mul_le_self a d)]
  exact congrArg nI (by have := Nat.div_add_mod' a d; omega)
theorem pk_ix (x : Int32) {n : Nat} (hn : n < 2 ^ 31) : x < 0 ∨ nI n ≤ x ∨ ∃ j : Nat, j < n ∧ x = nI j := by
  by_cases h : x < 0
  · exact Or.inl h
  · obtain ⟨j, hj, rfl⟩ := nI_of h
    by_cases h2 : j < n
    · exact Or.inr (Or.inr ⟨j, h2, rfl⟩)
    · exact Or.inr (Or.inl (nI_le (by omega) hj))
theorem pk_le {x y : Int32} {A B : Prop} (a b : Nat) (f : a ≤ b → A) (g : b < a → B) (hx : x = nI a := by rfl) (hy : y = nI b := by rfl) (ha : a < 2 ^ 31 := by omega) (hb : b < 2 ^ 31 := by omega) : (x ≤ y → A) ∧ (¬ x ≤ y → B) := by
  subst hx hy
  rw [nI_leI ha hb]
  exact ⟨f, fun z => g (by omega)⟩
theorem pk_lt {x y : Int32} {A B : Prop} (a b : Nat) (f : a < b → A) (g : b ≤ a → B) (hx : x = nI a := by rfl) (hy : y = nI b := by rfl) (ha : a < 2 ^ 31 := by omega) (hb : b < 2 ^ 31 := by omega) : (x < y → A) ∧ (¬ x < y → B) := by
  subst hx hy
  rw [nI_ltI ha hb]
  exact ⟨f, fun z => g (by omega)⟩
theorem pk_eq {x y : Int32} {A B : Prop} (a b : Nat) (f : a = b → A) (g : a ≠ b → B) (hx : x = nI a := by rfl) (hy : y = nI b := by rfl) (ha : a < 2 ^ 31 := by omega) (hb : b < 2 ^ 31 := by omega) : (x = y → A) ∧ (¬ x = y → B) := by
  subst hx hy
  rw [nI_eq ha hb]
  exact ⟨f, g⟩
theorem pk_in {x : Int32} (n N : Nat) (h : n < N) (hx : x = nI n := by rfl) (hN : N < 2 ^ 31 := by omega) : vp_in x N := by
  subst hx
  exact vp_in_nI h hN
theorem pk_cl {x : Int32} (n : Nat) (hx : x = nI n := by rfl) (h : n < 2 ^ 31 := by omega) : x.toNatClampNeg = n := by
  subst hx
  exact nI_clamp h
theorem pk_loop {σ : Type} (W : Nat → Nat → σ → Prop) (I : Nat → σ → Prop) (e i0 : Nat) (s : σ) (hi : i0 ≤ e) (h0 : I i0 s) (hx : ∀ n s, I e s → W (n + 1) e s)
    (hs : ∀ n i s, i < e → I i s → (∀ s', I (i + 1) s' → W n (i + 1) s') → W (n + 1) i s) : ∃ n, W n i0 s :=
  ⟨e + 1, loop_i W I e hx hs (e + 1) i0 s hi (by omega) h0⟩
/-! addresses, walks of the small methods -/
theorem rv_64 : (64 : Int32) = nI 64 := rfl
theorem rv_ax (t i : Nat) : nI t * 64 + nI i = nI (64 * t + i) := by
  rw [rv_64, pk_mul, nI_add, Nat.mul_comm]
theorem rv_ay (t i : Nat) : 64 * nI t + nI i = nI (64 * t + i) := by
  rw [rv_64, pk_mul, nI_add]
theorem rv_st {P : (Nat → Int32) → Prop} {R : Nat → Int32} {i : Nat} {x : Int32} (hi : i < 64) (h : P (upd R i x)) :
    vp_in (nI i) 64 ∧ ∀ a : Nat → Int32, a = upd R (nI i).toNatClampNeg x → P a :=
  ⟨vp_in_nI hi (by decide), nm_r (by rw [nI_clamp (by omega)]) h⟩
theorem rv_inc {P : Int32 → Prop} {i : Nat} (h : P (nI (i + 1))) : ∀ y : Int32, y = nI i + 1 → P y := nm_r (nI_1 i) h
theorem rv_v4 {t : Nat} (h : t < 4) : vp_in (nI t) 4 := vp_in_nI h (by decide)
theorem rv_lv {l : Nat → Int32} {a L : Nat} (ha : a < 4) (hl : l a = nI L) : l (nI a).toNatClampNeg = nI L := by
  rw [nI_clamp (by omega)]; exact hl
/-- the head of a loop over the first L cells -/
theorem rv_lc {A B : Prop} {l : Nat → Int32} {a L i : Nat} (ha : a < 4) (hl : l a = nI L) (hL : L ≤ 64) (hi : i ≤ 64) (f : L ≤ i → A) (g : i < L → B) :
    vp_in (nI a) 4 ∧ ((l (nI a).toNatClampNeg ≤ nI i → A) ∧ (¬ l (nI a).toNatClampNeg ≤ nI i → B)) := by
  rw [rv_lv ha hl]
  exact ⟨rv_v4 ha, pk_le L i f g⟩
theorem rv_en {post : Int32 → SX → Prop} {u : SX} {l : Nat → Int32} {a L : Nat} (ha : a < 4) (hl : l a = nI L) (h : post (nI L) u) :
    vp_in (nI a) 4 ∧ post (l (nI a).toNatClampNeg) u := by
  rw [rv_lv ha hl]
  exact ⟨rv_v4 ha, h⟩
/-- a number of a vector, or none -/
theorem rv_vec (x : Int32) : (x < 0 ∨ (4 : Int32) ≤ x) ∨ ∃ t, t < 4 ∧ x = nI t := by
  rcases pk_ix x (n := 4) (by decide) with h | h | h
  · exact Or.inl (Or.inl h)
  · exact Or.inl (Or.inr h)
  · exact Or.inr h
theorem rx_isVn {post : Int32 → Prop} {u : SX} {x : Int32} (h : x < 0 ∨ (4 : Int32) ≤ x) (hp : post 0) : wpX_isVector post u x := by
  obtain ⟨c, l, r⟩ := u
  by_cases h0 : x < 0
  · exact br_t h0 hp
  · exact br_f h0 (br_t (h.resolve_left h0) hp)
theorem rx_isV {post : Int32 → Prop} {u : SX} {t : Nat} (h : t < 4) (hp : post 1) : wpX_isVector post u (nI t) := by
  obtain ⟨c, l, r⟩ := u
  exact br_f (nI_pos (by omega)) (br_f (nI_ge (b := 4) h (by decide)) hp)
theorem ry_badn {post : Int32 → Prop} {x : Int32} (h : x < 0 ∨ (4 : Int32) ≤ x) (hp : post 1) : wpY_bad post x := by
  by_cases h0 : x < 0
  · exact br_t h0 hp
  · have h4 := h.resolve_left h0
    have h3 : ¬ x ≤ 3 := by
      intro h3
      rw [Int32.le_iff_toInt_le] at h3 h4
      have e3 : (3 : Int32).toInt = 3 := by decide
      have e4 : (4 : Int32).toInt = 4 := by decide
      omega
    exact br_f h0 (br_f h3 hp)
theorem ry_bad {post : Int32 → Prop} {t : Nat} (h : t < 4) (hp : post 0) : wpY_bad post (nI t) :=
  br_f (nI_pos (by omega)) (br_t (nI_le (b := 3) (by omega) (by decide)) hp)
theorem rx_cell {post : Int32 → Prop} {c l r : Nat → Int32} {a i : Nat} (ha : a < 4) (hi : i < 64) (h : post (c (64 * a + i))) : wpX_cell post (c, l, r) (nI a) (nI i) := by
  unfold wpX_cell
  dsimp only
  rw [rv_ax, nI_clamp (by omega)]
  exact ⟨vp_in_nI (by omega) (by decide), h⟩
/-- Y's read of a cell -/
theorem ry_in {a i : Nat} (ha : a < 4) (hi : i < 64) : vp_in (64 * nI a + nI i) 256 := by
  rw [rv_ay]; exact vp_in_nI (by omega) (by decide)
theorem ry_rd {a i : Nat} (c : Nat → Int32) (ha : a < 4) (hi : i < 64) : c (64 * nI a + nI i).toNatClampNeg = c (64 * a + i) := by
  rw [rv_ay, nI_clamp (by omega)]
theorem ry_give {post : SY → Prop} {c l o : Nat → Int32} {m : Nat} {x : Int32} (hm : m < 64) (h : post (nI (m + 1), c, l, upd o m x)) : wpY_give post (nI m, c, l, o) x :=
  br_f (nI_ge (b := 64) hm (by decide)) (rv_st hm (rv_inc h))
theorem ry_giveN {post : SY → Prop} {c l o : Nat → Int32} {m : Nat} {x : Int32} (hm : 64 ≤ m) (hm2 : m < 1000) (h : post (nI (m + 1), c, l, o)) : wpY_give post (nI m, c, l, o) x :=
  br_t (nI_le (a := 64) hm (by omega)) (rv_inc h)
/-! the store of a result of m cells into vector t -/
def rv_stc (c : Nat → Int32) (t m : Nat) (R : Nat → Int32) : Nat → Int32 := fun j => if 64 * t ≤ j ∧ j < 64 * t + m then R (j - 64 * t) else c j
theorem rv_stc0 (c : Nat → Int32) (t : Nat) (R : Nat → Int32) : rv_stc c t 0 R = c := by
  funext j
  exact if_neg (by omega)
theorem rv_stc1 (c : Nat → Int32) (t m : Nat) (R : Nat → Int32) : upd (rv_stc c t m R) (64 * t + m) (R m) = rv_stc c t (m + 1) R := by
  funext j
  unfold upd rv_stc
  by_cases h : j = 64 * t + m
  · rw [if_pos h, if_pos (by omega), show j - 64 * t = m by omega]
  · rw [if_neg h]
    by_cases h2 : 64 * t ≤ j ∧ j < 64 * t + m
    · rw [if_pos h2, if_pos (by omega)]
    · rw [if_neg h2, if_neg (by omega)]
theorem rv_stcE {c : Nat → Int32} {t m : Nat} {R S : Nat → Int32} (h : ∀ j, j < m → R j = S j) : rv_stc c t m R = rv_stc c t m S := by
  funext j
  unfold rv_stc
  by_cases h2 : 64 * t ≤ j ∧ j < 64 * t + m
  · rw [if_pos h2, if_pos h2, h _ (by omega)]
  · rw [if_neg h2, if_neg h2]
theorem rx_store {post : Int32 → SX → Prop} {c l R : Nat → Int32} {t m : Nat} (ht : t < 4) (hm : m ≤ 64) (hp : post (nI m) (rv_stc c t m R, upd l t (nI m), R)) : wpX_store post (c, l, R) (nI t) (nI m) := by
  have hne : ¬ nI m = -1 := by
    intro e
    have h1 := congrArg Int32.toInt e
    rw [nI_toInt (by omega), show (-1 : Int32).toInt = -1 by decide] at h1
    omega
  refine br_f hne (loop_0 (fun n i C => wX_store_9 post (nI t) (nI m) n (nI i) C l R) (fun i C => C = rv_stc c t i R) m c (rv_stc0 c t R).symm ?_ ?_)
  · intro n C hC
    subst hC
    exact br_t (Int32.le_refl _) ⟨rv_v4 ht, nm_r (by rw [nI_clamp (by omega)]) hp⟩
  · intro n i C hi hC hk
    subst hC
    refine br_f (nI_ge hi (by omega)) ⟨vp_in_nI (by omega) (by decide), ?_⟩
    rw [rv_ax]
    exact ⟨vp_in_nI (by omega) (by decide), nm_r (by rw [nI_clamp (by omega), nI_clamp (by omega), rv_stc1]) (rv_inc (hk _ rfl))⟩
theorem rx_storeN {post : Int32 → SX → Prop} {u : SX} {x : Int32} (hp : post (-1) u) : wpX_store post u x (-1) := by
  obtain ⟨c, l, R⟩ := u
  exact br_t rfl hp
theorem ry_store {post : Int32 → SY → Prop} {c l R : Nat → Int32} {t m : Nat} (ht : t < 4) (hm : m ≤ 64) (hp : post (nI m) (nI m, rv_stc c t m R, upd l t (nI m), R)) : wpY_store post (nI m, c, l, R) (nI t) := by
  refine br_t (nI_le (b := 64) hm (by decide)) (loop_0 (fun n i C => wY_store_13 post (nI t) (nI m) n (nI i) C l R) (fun i C => C = rv_stc c t i R) m c (rv_stc0 c t R).symm ?_ ?_)
  · intro n C hC
    subst hC
    exact br_t (Int32.le_refl _) ⟨rv_v4 ht, nm_r (by rw [nI_clamp (by omega)]) hp⟩
  · intro n i C hi hC hk
    subst hC
    refine br_f (nI_ge hi (by omega)) ⟨vp_in_nI (by omega) (by decide), ?_⟩
    rw [rv_ay]
    exact ⟨vp_in_nI (by omega) (by decide), nm_r (by rw [nI_clamp (by omega), nI_clamp (by omega), rv_stc1]) (rv_inc (hk _ rfl))⟩
theorem ry_storeN {post : Int32 → SY → Prop} {c l R : Nat → Int32} {m : Nat} {x : Int32} (hm : 64 < m) (hm2 : m < 1000) (hp : post (-1) (nI m, c, l, R)) : wpY_store post (nI m, c, l, R) x :=
  br_f (nI_ge (a := 64) hm (by omega)) hp
/-! the relation: the same cells, the same lengths of at most 64 -/
def i_Rel (_ : Nat) (u : SX) (v : SY) : Prop := ∃ (c l r o : Nat → Int32) (m : Int32) (L : Nat → Nat), u = (c, l, r) ∧ v = (m, c, l, o) ∧ ∀ t, t < 4 → l t = nI (L t) ∧ L t ≤ 64
theorem rv_rel {k : Nat} {c l r o : Nat → Int32} {m : Int32} {L : Nat → Nat} (h : ∀ t, t < 4 → l t = nI (L t) ∧ L t ≤ 64) : i_Rel k (c, l, r) (m, c, l, o) :=
  ⟨c, l, r, o, m, L, rfl, rfl, h⟩
theorem rv_relU {k : Nat} {c l r o : Nat → Int32} {m : Int32} {L : Nat → Nat} {t n : Nat} (h : ∀ t, t < 4 → l t = nI (L t) ∧ L t ≤ 64) (hn : n ≤ 64) : i_Rel k (c, upd l t (nI n), r) (m, c, upd l t (nI n), o) := by
  refine rv_rel (L := fun j => if j = t then n else L j) fun j hj => ?_
  unfold upd
  by_cases e : j = t
  · rw [if_pos e, if_pos e]; exact ⟨rfl, hn⟩
  · rw [if_neg e, if_neg e]; exact h j hj
theorem i_up {k : Nat} {u : SX} {v : SY} (h : i_Rel k u v) : i_Rel (k + 5) u v := h
theorem i_vc0 : wpX_init (fun u => wpY_init (fun v => i_Rel 0 u v)) := rv_rel (k := 0) (L := fun _ => 0) fun _ _ => ⟨rfl, by decide⟩
