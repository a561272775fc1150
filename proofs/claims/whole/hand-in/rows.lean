section
theorem pk_us {f : Nat → Int32} {k : Nat} {x : Int32} : upd f k x k = x := if_pos rfl
theorem pk_un {f : Nat → Int32} {k j : Nat} {x : Int32} (h : j ≠ k) : upd f k x j = f j := if_neg h
theorem pk_sub {a b : Nat} (h : b ≤ a) : nI a - nI b = nI (a - b) := by
  obtain ⟨c, rfl⟩ : ∃ c, a = c + b := ⟨a - b, by omega⟩
  rw [← nI_add, Int32.add_sub_cancel, Nat.add_sub_cancel]
theorem pk_m1 (n : Nat) : nI (n + 1) + (-1) = nI n := by
  rw [← nI_1, Int32.add_assoc, show (1 : Int32) + (-1) = 0 from rfl, Int32.add_zero]
theorem pk_mul (a b : Nat) : nI a * nI b = nI (a * b) := (Int32.ofNat_mul a b).symm
theorem pk_div {a d : Nat} (ha : a < 2 ^ 31) (h0 : 0 < d) (hd : d < 2 ^ 31) : nI a / nI d = nI (a / d) := by
  apply Int32.toInt_inj.mp
  rw [lg_idiv_nonneg (by rw [nI_toInt ha]; omega) (by rw [nI_toInt hd]; omega), nI_toInt ha, nI_toInt hd, nI_toInt (Nat.lt_of_le_of_lt (Nat.div_le_self a d) ha)]
  first | rfl | exact (Int.natCast_ediv _ _).symm
theorem pk_rem {a d : Nat} (ha : a < 2 ^ 31) (h0 : 0 < d) (hd : d < 2 ^ 31) : nI a - nI a / nI d * nI d = nI (a % d) := by
  rw [pk_div ha h0 hd, pk_mul, pk_sub (Nat.div_mul_le_self a d)]
  exact congrArg nI (by have := Nat.div_add_mod' a d; omega)
theorem pk_ix (x : Int32) {n : Nat} (hn : n < 2 ^ 31) : x < 0 ∨ nI n ≤ x ∨ ∃ j : Nat, j < n ∧ x = nI j := by
  by_cases h : x < 0
  · exact Or.inl h
  · obtain ⟨j, hj, rfl⟩ := nI_of h
    by_cases h2 : j < n
    · exact Or.inr (Or.inr ⟨j, h2, rfl⟩)
    · exact Or.inr (Or.inl (nI_le (by omega) hj))
theorem pk_le {x y : Int32} {A B : Prop} (a b : Nat) (f : a ≤ b → A) (g : b < a → B) (hx : x = nI a := by rfl) (hy : y = nI b := by rfl) (ha : a < 2 ^ 31 := by omega) (hb : b < 2 ^ 31 := by omega) : (x ≤ y → A) ∧ (¬ x ≤ y → B) := by
  subst hx hy
  rw [nI_leI ha hb]
  exact ⟨f, fun z => g (by omega)⟩
theorem pk_lt {x y : Int32} {A B : Prop} (a b : Nat) (f : a < b → A) (g : b ≤ a → B) (hx : x = nI a := by rfl) (hy : y = nI b := by rfl) (ha : a < 2 ^ 31 := by omega) (hb : b < 2 ^ 31 := by omega) : (x < y → A) ∧ (¬ x < y → B) := by
  subst hx hy
  rw [nI_ltI ha hb]
  exact ⟨f, fun z => g (by omega)⟩
theorem pk_eq {x y : Int32} {A B : Prop} (a b : Nat) (f : a = b → A) (g : a ≠ b → B) (hx : x = nI a := by rfl) (hy : y = nI b := by rfl) (ha : a < 2 ^ 31 := by omega) (hb : b < 2 ^ 31 := by omega) : (x = y → A) ∧ (¬ x = y → B) := by
  subst hx hy
  rw [nI_eq ha hb]
  exact ⟨f, g⟩
theorem pk_in {x : Int32} (n N : Nat) (h : n < N) (hx : x = nI n := by rfl) (hN : N < 2 ^ 31 := by omega) : vp_in x N := by
  subst hx
  exact vp_in_nI h hN
theorem pk_cl {x : Int32} (n : Nat) (hx : x = nI n := by rfl) (h : n < 2 ^ 31 := by omega) : x.toNatClampNeg = n := by
  subst hx
  exact nI_clamp h
theorem pk_loop {σ : Type} (W : Nat → Nat → σ → Prop) (I : Nat → σ → Prop) (e i0 : Nat) (s : σ) (hi : i0 ≤ e) (h0 : I i0 s) (hx : ∀ n s, I e s → W (n + 1) e s)
    (hs : ∀ n i s, i < e → I i s → (∀ s', I (i + 1) s' → W n (i + 1) s') → W (n + 1) i s) : ∃ n, W n i0 s :=
  ⟨e + 1, loop_i W I e hx hs (e + 1) i0 s hi (by omega) h0⟩
/-! addresses, walks of the small methods -/
theorem rv_64 : (64 : Int32) = nI 64 := rfl
theorem rv_ax (t i : Nat) : nI t * 64 + nI i = nI (64 * t + i) := by
  rw [rv_64, pk_mul, nI_add, Nat.mul_comm]
theorem rv_ay (t i : Nat) : 64 * nI t + nI i = nI (64 * t + i) := by
  rw [rv_64, pk_mul, nI_add]
theorem rv_st {P : (Nat → Int32) → Prop} {R : Nat → Int32} {i : Nat} {x : Int32} (hi : i < 64) (h : P (upd R i x)) :
    vp_in (nI i) 64 ∧ ∀ a : Nat → Int32, a = upd R (nI i).toNatClampNeg x → P a :=
  ⟨vp_in_nI hi (by decide), nm_r (by rw [nI_clamp (by omega)]) h⟩
theorem rv_inc {P : Int32 → Prop} {i : Nat} (h : P (nI (i + 1))) : ∀ y : Int32, y = nI i + 1 → P y := nm_r (nI_1 i) h
theorem rv_v4 {t : Nat} (h : t < 4) : vp_in (nI t) 4 := vp_in_nI h (by decide)
theorem rv_lv {l : Nat → Int32} {a L : Nat} (ha : a < 4) (hl : l a = nI L) : l (nI a).toNatClampNeg = nI L := by
  rw [nI_clamp (by omega)]; exact hl
/-- the head of a loop over the first L cells -/
theorem rv_lc {A B : Prop} {l : Nat → Int32} {a L i : Nat} (ha : a < 4) (hl : l a = nI L) (hL : L ≤ 64) (hi : i ≤ 64) (f : L ≤ i → A) (g : i < L → B) :
    vp_in (nI a) 4 ∧ ((l (nI a).toNatClampNeg ≤ nI i → A) ∧ (¬ l (nI a).toNatClampNeg ≤ nI i → B)) := by
  rw [rv_lv ha hl]
  exact ⟨rv_v4 ha, pk_le L i f g⟩
theorem rv_en {post : Int32 → SX → Prop} {u : SX} {l : Nat → Int32} {a L : Nat} (ha : a < 4) (hl : l a = nI L) (h : post (nI L) u) :
    vp_in (nI a) 4 ∧ post (l (nI a).toNatClampNeg) u := by
  rw [rv_lv ha hl]
  exact ⟨rv_v4 ha, h⟩
/-- a number of a vector, or none -/
theorem rv_vec (x : Int32) : (x < 0 ∨ (4 : Int32) ≤ x) ∨ ∃ t, t < 4 ∧ x = nI t := by
  rcases pk_ix x (n := 4) (by decide) with h | h | h
  · exact Or.inl (Or.inl h)
  · exact Or.inl (Or.inr h)
  · exact Or.inr h
theorem rx_isVn {post : Int32 → Prop} {u : SX} {x : Int32} (h : x < 0 ∨ (4 : Int32) ≤ x) (hp : post 0) : wpX_isVector post u x := by
  obtain ⟨c, l, r⟩ := u
  by_cases h0 : x < 0
  · exact br_t h0 hp
  · exact br_f h0 (br_t (h.resolve_left h0) hp)
theorem rx_isV {post : Int32 → Prop} {u : SX} {t : Nat} (h : t < 4) (hp : post 1) : wpX_isVector post u (nI t) := by
  obtain ⟨c, l, r⟩ := u
  exact br_f (nI_pos (by omega)) (br_f (nI_ge (b := 4) h (by decide)) hp)
theorem ry_badn {post : Int32 → Prop} {x : Int32} (h : x < 0 ∨ (4 : Int32) ≤ x) (hp : post 1) : wpY_bad post x := by
  by_cases h0 : x < 0
  · exact br_t h0 hp
  · have h4 := h.resolve_left h0
    have h3 : ¬ x ≤ 3 := by
      intro h3
      rw [Int32.le_iff_toInt_le] at h3 h4
      have e3 : (3 : Int32).toInt = 3 := by decide
      have e4 : (4 : Int32).toInt = 4 := by decide
      omega
    exact br_f h0 (br_f h3 hp)
theorem ry_bad {post : Int32 → Prop} {t : Nat} (h : t < 4) (hp : post 0) : wpY_bad post (nI t) :=
  br_f (nI_pos (by omega)) (br_t (nI_le (b := 3) (by omega) (by decide)) hp)
theorem rx_cell {post : Int32 → Prop} {c l r : Nat → Int32} {a i : Nat} (ha : a < 4) (hi : i < 64) (h : post (c (64 * a + i))) : wpX_cell post (c, l, r) (nI a) (nI i) := by
  unfold wpX_cell
  dsimp only
  rw [rv_ax, nI_clamp (by omega)]
  exact ⟨vp_in_nI (by omega) (by decide), h⟩
/-- Y's read of a cell -/
theorem ry_in {a i : Nat} (ha : a < 4) (hi : i < 64) : vp_in (64 * nI a + nI i) 256 := by
  rw [rv_ay]; exact vp_in_nI (by omega) (by decide)
theorem ry_rd {a i : Nat} (c : Nat → Int32) (ha : a < 4) (hi : i < 64) : c (64 * nI a + nI i).toNatClampNeg = c (64 * a + i) := by
  rw [rv_ay, nI_clamp (by omega)]
theorem ry_give {post : SY → Prop} {c l o : Nat → Int32} {m : Nat} {x : Int32} (hm : m < 64) (h : post (nI (m + 1), c, l, upd o m x)) : wpY_give post (nI m, c, l, o) x :=
  br_f (nI_ge (b := 64) hm (by decide)) (rv_st hm (rv_inc h))
theorem ry_giveN {post : SY → Prop} {c l o : Nat → Int32} {m : Nat} {x : Int32} (hm : 64 ≤ m) (hm2 : m < 1000) (h : post (nI (m + 1), c, l, o)) : wpY_give post (nI m, c, l, o) x :=
  br_t (nI_le (a := 64) hm (by omega)) (rv_inc h)
/-! the store of a result of m cells into vector t -/
def rv_stc (c : Nat → Int32) (t m : Nat) (R : Nat → Int32) : Nat → Int32 := fun j => if 64 * t ≤ j ∧ j < 64 * t + m then R (j - 64 * t) else c j
theorem rv_stc0 (c : Nat → Int32) (t : Nat) (R : Nat → Int32) : rv_stc c t 0 R = c := by
  funext j
  exact if_neg (by omega)
theorem rv_stc1 (c : Nat → Int32) (t m : Nat) (R : Nat → Int32) : upd (rv_stc c t m R) (64 * t + m) (R m) = rv_stc c t (m + 1) R := by
  funext j
  unfold upd rv_stc
  by_cases h : j = 64 * t + m
  · rw [if_pos h, if_pos (by omega), show j - 64 * t = m by omega]
  · rw [if_neg h]
    by_cases h2 : 64 * t ≤ j ∧ j < 64 * t + m
    · rw [if_pos h2, if_pos (by omega)]
    · rw [if_neg h2, if_neg (by omega)]
theorem rv_stcE {c : Nat → Int32} {t m : Nat} {R S : Nat → Int32} (h : ∀ j, j < m → R j = S j) : rv_stc c t m R = rv_stc c t m S := by
  funext j
  unfold rv_stc
  by_cases h2 : 64 * t ≤ j ∧ j < 64 * t + m
  · rw [if_pos h2, if_pos h2, h _ (by omega)]
  · rw [if_neg h2, if_neg h2]
theorem rx_store {post : Int32 → SX → Prop} {c l R : Nat → Int32} {t m : Nat} (ht : t < 4) (hm : m ≤ 64) (hp : post (nI m) (rv_stc c t m R, upd l t (nI m), R)) : wpX_store post (c, l, R) (nI t) (nI m) := by
  have hne : ¬ nI m = -1 := by
    intro e
    have h1 := congrArg Int32.toInt e
    rw [nI_toInt (by omega), show (-1 : Int32).toInt = -1 by decide] at h1
    omega
  refine br_f hne (loop_0 (fun n i C => wX_store_9 post (nI t) (nI m) n (nI i) C l R) (fun i C => C = rv_stc c t i R) m c (rv_stc0 c t R).symm ?_ ?_)
  · intro n C hC
    subst hC
    exact br_t (Int32.le_refl _) ⟨rv_v4 ht, nm_r (by rw [nI_clamp (by omega)]) hp⟩
  · intro n i C hi hC hk
    subst hC
    refine br_f (nI_ge hi (by omega)) ⟨vp_in_nI (by omega) (by decide), ?_⟩
    rw [rv_ax]
    exact ⟨vp_in_nI (by omega) (by decide), nm_r (by rw [nI_clamp (by omega), nI_clamp (by omega), rv_stc1]) (rv_inc (hk _ rfl))⟩
theorem rx_storeN {post : Int32 → SX → Prop} {u : SX} {x : Int32} (hp : post (-1) u) : wpX_store post u x (-1) := by
  obtain ⟨c, l, R⟩ := u
  exact br_t rfl hp
theorem ry_store {post : Int32 → SY → Prop} {c l R : Nat → Int32} {t m : Nat} (ht : t < 4) (hm : m ≤ 64) (hp : post (nI m) (nI m, rv_stc c t m R, upd l t (nI m), R)) : wpY_store post (nI m, c, l, R) (nI t) := by
  refine br_t (nI_le (b := 64) hm (by decide)) (loop_0 (fun n i C => wY_store_13 post (nI t) (nI m) n (nI i) C l R) (fun i C => C = rv_stc c t i R) m c (rv_stc0 c t R).symm ?_ ?_)
  · intro n C hC
    subst hC
    exact br_t (Int32.le_refl _) ⟨rv_v4 ht, nm_r (by rw [nI_clamp (by omega)]) hp⟩
  · intro n i C hi hC hk
    subst hC
    refine br_f (nI_ge hi (by omega)) ⟨vp_in_nI (by omega) (by decide), ?_⟩
    rw [rv_ay]
    exact ⟨vp_in_nI (by omega) (by decide), nm_r (by rw [nI_clamp (by omega), nI_clamp (by omega), rv_stc1]) (rv_inc (hk _ rfl))⟩
theorem ry_storeN {post : Int32 → SY → Prop} {c l R : Nat → Int32} {m : Nat} {x : Int32} (hm : 64 < m) (hm2 : m < 1000) (hp : post (-1) (nI m, c, l, R)) : wpY_store post (nI m, c, l, R) x :=
  br_f (nI_ge (a := 64) hm (by omega)) hp
/-! the relation: the same cells, the same lengths of at most 64 -/
def i_Rel (_ : Nat) (u : SX) (v : SY) : Prop := ∃ (c l r o : Nat → Int32) (m : Int32) (L : Nat → Nat), u = (c, l, r) ∧ v = (m, c, l, o) ∧ ∀ t, t < 4 → l t = nI (L t) ∧ L t ≤ 64
theorem rv_rel {k : Nat} {c l r o : Nat → Int32} {m : Int32} {L : Nat → Nat} (h : ∀ t, t < 4 → l t = nI (L t) ∧ L t ≤ 64) : i_Rel k (c, l, r) (m, c, l, o) :=
  ⟨c, l, r, o, m, L, rfl, rfl, h⟩
theorem rv_relU {k : Nat} {c l r o : Nat → Int32} {m : Int32} {L : Nat → Nat} {t n : Nat} (h : ∀ t, t < 4 → l t = nI (L t) ∧ L t ≤ 64) (hn : n ≤ 64) : i_Rel k (c, upd l t (nI n), r) (m, c, upd l t (nI n), o) := by
  refine rv_rel (L := fun j => if j = t then n else L j) fun j hj => ?_
  unfold upd
  by_cases e : j = t
  · rw [if_pos e, if_pos e]; exact ⟨rfl, hn⟩
  · rw [if_neg e, if_neg e]; exact h j hj
theorem i_up {k : Nat} {u : SX} {v : SY} (h : i_Rel k u v) : i_Rel (k + 5) u v := h
theorem i_vc0 : wpX_init (fun u => wpY_init (fun v => i_Rel 0 u v)) := rv_rel (k := 0) (L := fun _ => 0) fun _ _ => ⟨rfl, by decide⟩
end
section
/-! length, at, push -/
theorem i_vc_length {k : Nat} {u : SX} {v : SY} (I : i_Rel k u v) (hk : k + 5 ≤ 2560) (v1 : Int32) : wpX_length (fun r => wpY_length (fun r' => r' = r ∧ i_Rel (k + 5) u v) v v1) u v1 := by
  obtain ⟨c, l, r, o, m, L, rfl, rfl, h⟩ := I
  unfold wpX_length wpY_length
  dsimp only
  rcases rv_vec v1 with hb | ⟨t, ht, rfl⟩
  · exact rx_isVn hb (br_t rfl (ry_badn hb (br_f (by decide) ⟨rfl, rv_rel h⟩)))
  · exact rx_isV ht (br_f (by decide) ⟨rv_v4 ht, ry_bad ht (br_t rfl ⟨rv_v4 ht, rfl, rv_rel h⟩)⟩)
theorem i_vc_at {k : Nat} {u : SX} {v : SY} (I : i_Rel k u v) (hk : k + 5 ≤ 2560) (v1 : Int32) (v2 : Int32) : wpX_at (fun r => wpY_at (fun r' => r' = r ∧ i_Rel (k + 5) u v) v v1 v2) u v1 v2 := by
  obtain ⟨c, l, r, o, m, L, rfl, rfl, h⟩ := I
  unfold wpX_at wpY_at
  dsimp only
  rcases rv_vec v1 with hb | ⟨t, ht, rfl⟩
  · exact rx_isVn hb (br_t rfl (ry_badn hb (br_f (by decide) ⟨rfl, rv_rel h⟩)))
  · obtain ⟨hl, hL⟩ := h t ht
    refine rx_isV ht (br_f (by decide) ?_)
    by_cases h0 : v2 < 0
    · exact br_t h0 (br_t rfl (ry_bad ht (br_t rfl (br_t h0 ⟨rfl, rv_rel h⟩))))
    · by_cases h1 : nI (L t) ≤ v2
      · have h2 : l (nI t).toNatClampNeg ≤ v2 := by rw [rv_lv ht hl]; exact h1
        exact br_f h0 ⟨rv_v4 ht, br_t h2 (br_t rfl (ry_bad ht (br_t rfl (br_f h0 ⟨rv_v4 ht, br_f (Int32.not_lt.mpr h2) ⟨rfl, rv_rel h⟩⟩))))⟩
      · have h2 : ¬ l (nI t).toNatClampNeg ≤ v2 := by rw [rv_lv ht hl]; exact h1
        obtain ⟨j, hj, rfl⟩ := nI_of h0
        rw [nI_leI (by omega) hj] at h1
        have hj6 : j < 64 := by omega
        refine br_f h0 ⟨rv_v4 ht, br_f h2 (br_f (by decide) (rx_cell ht hj6 (ry_bad ht (br_t rfl (br_f h0 ⟨rv_v4 ht, br_t (Int32.not_le.mp h2) ⟨ry_in ht hj6, ?_⟩⟩)))))⟩
        exact ⟨ry_rd c ht hj6, rv_rel h⟩
/-! push -/
def rv_fil (c : Nat → Int32) (p n : Nat) (x : Int32) : Nat → Int32 := fun j => if p ≤ j ∧ j < p + n then x else c j
theorem rv_fil0 (c : Nat → Int32) (p : Nat) (x : Int32) : rv_fil c p 0 x = c := by
  funext j
  exact if_neg (by omega)
theorem rv_fil1 (c : Nat → Int32) (p n : Nat) (x : Int32) : upd (rv_fil c p n x) (p + n) x = rv_fil c p (n + 1) x := by
  funext j
  unfold upd rv_fil
  by_cases h : j = p + n
  · rw [if_pos h, if_pos (by omega)]
  · rw [if_neg h]
    by_cases h2 : p ≤ j ∧ j < p + n
    · rw [if_pos h2, if_pos (by omega)]
    · rw [if_neg h2, if_neg (by omega)]
theorem rv_upu (l : Nat → Int32) (t : Nat) (x y : Int32) : upd (upd l t x) t y = upd l t y := by
  funext j
  unfold upd
  by_cases h : j = t
  · rw [if_pos h, if_pos h]
  · rw [if_neg h, if_neg h, if_neg h]
theorem rv_ups {l : Nat → Int32} {t : Nat} {x : Int32} (h : l t = x) : upd l t x = l := by
  funext j
  unfold upd
  by_cases e : j = t
  · rw [if_pos e, e, h]
  · rw [if_neg e]
theorem rx_push {post : Int32 → SX → Prop} {c l r : Nat → Int32} {t b n : Nat} {x : Int32} (ht : t < 4) (hbn : b + n ≤ 64) (hp : post (nI (b + n)) (rv_fil c (64 * t + b) n x, upd l t (nI (b + n)), r)) :
    ∃ n52, wX_push_52 post (nI t) x (nI n) (nI b) (nI (64 * t + b)) n52 0 c l r := by
  refine loop_0 (fun n52 i C => wX_push_52 post (nI t) x (nI n) (nI b) (nI (64 * t + b)) n52 (nI i) C l r) (fun i C => C = rv_fil c (64 * t + b) i x) n c (rv_fil0 c _ x).symm ?_ ?_
  · intro q C hC
    subst hC
    refine br_t (Int32.le_refl _) ⟨rv_v4 ht, ?_⟩
    rw [nI_add]
    exact nm_r (by rw [nI_clamp (by omega)]) hp
  · intro q i C hi hC hk
    subst hC
    refine br_f (nI_ge hi (by omega)) ?_
    rw [nI_add]
    exact ⟨vp_in_nI (by omega) (by decide), nm_r (by rw [nI_clamp (by omega), rv_fil1]) (rv_inc (hk _ rfl))⟩
theorem ry_push {post : Int32 → SY → Prop} {c l o : Nat → Int32} {t b n : Nat} {x m : Int32} (ht : t < 4) (hl : l t = nI b) (hbn : b + n ≤ 64) (hp : post (nI (b + n)) (m, rv_fil c (64 * t + b) n x, upd l t (nI (b + n)), o)) :
    ∃ n36, wY_push_36 post (nI t) x (nI n) m n36 0 c l o := by
  refine loop_0 (fun n36 i (s : (Nat → Int32) × (Nat → Int32)) => wY_push_36 post (nI t) x (nI n) m n36 (nI i) s.1 s.2 o) (fun i s => s = (rv_fil c (64 * t + b) i x, upd l t (nI (b + i)))) n (c, l) ?_ ?_ ?_
  · rw [rv_fil0, Nat.add_zero, rv_ups hl]
  · intro q s hs
    subst hs
    refine br_t (Int32.le_refl _) ⟨rv_v4 ht, ?_⟩
    rw [nI_clamp (by omega)]
    dsimp only
    rw [pk_us]
    exact hp
  · intro q i s hi hs hk
    subst hs
    refine br_f (nI_ge hi (by omega)) ⟨rv_v4 ht, ?_⟩
    rw [nI_clamp (by omega)]
    dsimp only
    rw [pk_us, rv_ay, nI_1]
    refine ⟨vp_in_nI (by omega) (by decide), nm_r (e' := rv_fil c (64 * t + b) (i + 1) x) (by rw [nI_clamp (by omega), ← rv_fil1, Nat.add_assoc]) ⟨rv_v4 ht, rv_v4 ht, nm_r (rv_upu l t _ _) (rv_inc (hk (_, _) rfl))⟩⟩
theorem i_vc_push {k : Nat} {u : SX} {v : SY} (I : i_Rel k u v) (hk : k + 5 ≤ 2560) (v1 : Int32) (v2 : Int32) (v3 : Int32) : wpX_push (fun r u' => wpY_push (fun r' v' => r' = r ∧ i_Rel (k + 5) u' v') v v1 v2 v3) u v1 v2 v3 := by
  obtain ⟨c, l, r, o, m, L, rfl, rfl, h⟩ := I
  unfold wpX_push wpY_push
  dsimp only
  rcases rv_vec v1 with hb | ⟨t, ht, rfl⟩
  · exact rx_isVn hb (br_t rfl (ry_badn hb (br_f (by decide) ⟨rfl, rv_rel h⟩)))
  · obtain ⟨hl, hL⟩ := h t ht
    refine rx_isV ht (br_f (by decide) ?_)
    by_cases h1 : v3 < 1
    · exact br_t h1 (ry_bad ht (br_t rfl (br_t h1 ⟨rfl, rv_rel h⟩)))
    · have h0 : ¬ v3 < 0 := fun z => h1 (Int32.lt_trans z (by decide))
      obtain ⟨n, hn, rfl⟩ := nI_of h0
      refine br_f h1 (pk_le n 64 (fun hn6 => ⟨rv_v4 ht, ?_⟩) (fun hn6 => ry_bad ht (br_t rfl (br_f h1 (br_t (nI_lt (a := 64) hn6 hn) ⟨rfl, rv_rel h⟩)))))
      refine nm_r (rv_lv ht hl) ?_
      have hy6 : ¬ (64 : Int32) < nI n := nI_nlt (a := 64) hn6 (by decide)
      refine pk_le n (64 - L t) (fun hn2 => ?_) (fun hn2 => ?_) rfl (by rw [rv_64, pk_sub hL])
      · refine nm_r (rv_ax t (L t)) (rx_push ht (by omega) (ry_bad ht (br_t rfl (br_f h1 (br_f hy6 ⟨rv_v4 ht, ?_⟩)))))
        refine br_t ?_ (ry_push ht hl (by omega) ⟨rfl, rv_relU h (by omega)⟩)
        rw [rv_lv ht hl, nI_add]
        exact nI_le (b := 64) (by omega) (by decide)
      · refine ry_bad ht (br_t rfl (br_f h1 (br_f hy6 ⟨rv_v4 ht, br_f ?_ ⟨rfl, rv_rel h⟩⟩)))
        rw [rv_lv ht hl, nI_add]
        exact nI_ge (a := 64) (by omega) (by omega)
end
section
theorem rv_lcT {A B : Prop} {l : Nat → Int32} {a L i : Nat} (ha : a < 4) (hl : l a = nI L) (hi : i < 2 ^ 31) (h : L ≤ i) (f : A) :
    vp_in (nI a) 4 ∧ ((l (nI a).toNatClampNeg ≤ nI i → A) ∧ (¬ l (nI a).toNatClampNeg ≤ nI i → B)) := by
  rw [rv_lv ha hl]
  exact ⟨rv_v4 ha, br_t (nI_le h hi) f⟩
theorem rv_lcF {A B : Prop} {l : Nat → Int32} {a L i : Nat} (ha : a < 4) (hl : l a = nI L) (hL : L ≤ 64) (h : i < L) (g : B) :
    vp_in (nI a) 4 ∧ ((l (nI a).toNatClampNeg ≤ nI i → A) ∧ (¬ l (nI a).toNatClampNeg ≤ nI i → B)) := by
  rw [rv_lv ha hl]
  exact ⟨rv_v4 ha, br_f (nI_ge h (by omega)) g⟩
theorem rv_pi (a i : Nat) : 64 * nI a + nI (i + 1) - 1 = nI (64 * a + i) := by
  rw [rv_ay, ← Nat.add_assoc, nI_pred]
theorem ry_in1 {a i : Nat} (ha : a < 4) (hi : i < 64) : vp_in (64 * nI a + nI (i + 1) - 1) 256 := by
  rw [rv_pi]; exact vp_in_nI (by omega) (by decide)
theorem ry_rd1 {a i : Nat} (c : Nat → Int32) (ha : a < 4) (hi : i < 64) : c (64 * nI a + nI (i + 1) - 1).toNatClampNeg = c (64 * a + i) := by
  rw [rv_pi, nI_clamp (by omega)]
/-! stretches -/
theorem rx_ss0 {post : Int32 → Prop} {u : SX} {x : Int32} (h : post 1) : wpX_startsStretch post u x (nI 0) := by
  obtain ⟨c, l, r⟩ := u
  exact br_t rfl h
theorem rx_ss1 {post : Int32 → Prop} {c l r : Nat → Int32} {a i : Nat} (ha : a < 4) (hi : i + 1 < 64) (h0 : c (64 * a + (i + 1)) = c (64 * a + i) → post 0) (h1 : ¬ c (64 * a + (i + 1)) = c (64 * a + i) → post 1) : wpX_startsStretch post (c, l, r) (nI a) (nI (i + 1)) := by
  unfold wpX_startsStretch
  dsimp only
  rw [nI_pred]
  exact br_f (nI_ne0 (by omega) (by omega)) (rx_cell ha hi (rx_cell ha (by omega) (br_c h0 h1)))
theorem rq_str {c l r o : Nat → Int32} {m : Int32} {a L : Nat} (ha : a < 4) (hl : l a = nI L) (hL : L ≤ 64) : ∀ d i : Nat, ∀ x : Int32, i + d = L →
    ∃ z : Int32, (∀ post : Int32 → Prop, post z → wX_stretches_14 post (nI a) c l r (d + 1) x (nI i)) ∧ (∀ post : Int32 → Prop, post z → wY_stretches_13 post (nI a) m c l o (d + 1) x (nI i)) := by
  intro d
  induction d with
  | zero =>
    intro i x hi
    exact ⟨x, fun _ hp => rv_lcT ha hl (by omega) (by omega) hp, fun _ hp => rv_lcT ha hl (by omega) (by omega) hp⟩
  | succ d ih =>
    intro i x hi
    obtain ⟨zt, tX, tY⟩ := ih (i + 1) (x + 1) (by omega)
    obtain ⟨zf, fX, fY⟩ := ih (i + 1) x (by omega)
    have hiL : i < L := by omega
    cases i with
    | zero =>
      exact ⟨zt, fun post hp => rv_lcF ha hl hL hiL (rx_ss0 (br_f (by decide) (nm_e (rv_inc (tX post hp))))), fun post hp => rv_lcF ha hl hL hiL (br_t rfl (nm_e (rv_inc (tY post hp))))⟩
    | succ i =>
      have n0 : ¬ nI (i + 1) = 0 := nI_ne0 (by omega) (by omega)
      by_cases e : c (64 * a + (i + 1)) = c (64 * a + i)
      · refine ⟨zf, fun post hp => rv_lcF ha hl hL hiL (rx_ss1 ha (by omega) (fun _ => br_t rfl (rv_inc (fX post hp))) (fun h => absurd e h)), fun post hp => rv_lcF ha hl hL hiL (br_f n0 ⟨ry_in ha (by omega), ry_in1 ha (by omega), ?_⟩)⟩
        rw [ry_rd c ha (by omega), ry_rd1 c ha (by omega)]
        exact br_t e (rv_inc (fY post hp))
      · refine ⟨zt, fun post hp => rv_lcF ha hl hL hiL (rx_ss1 ha (by omega) (fun h => absurd h e) (fun _ => br_f (by decide) (nm_e (rv_inc (tX post hp))))), fun post hp => rv_lcF ha hl hL hiL (br_f n0 ⟨ry_in ha (by omega), ry_in1 ha (by omega), ?_⟩)⟩
        rw [ry_rd c ha (by omega), ry_rd1 c ha (by omega)]
        exact br_f e (nm_e (rv_inc (tY post hp)))
theorem i_vc_stretches {k : Nat} {u : SX} {v : SY} (I : i_Rel k u v) (hk : k + 5 ≤ 2560) (v1 : Int32) : wpX_stretches (fun r => wpY_stretches (fun r' => r' = r ∧ i_Rel (k + 5) u v) v v1) u v1 := by
  obtain ⟨c, l, r, o, m, L, rfl, rfl, h⟩ := I
  unfold wpX_stretches wpY_stretches
  dsimp only
  rcases rv_vec v1 with hb | ⟨t, ht, rfl⟩
  · exact rx_isVn hb (br_t rfl (ry_badn hb (br_f (by decide) ⟨rfl, rv_rel h⟩)))
  · obtain ⟨hl, hL⟩ := h t ht
    obtain ⟨z, hX, hY⟩ := rq_str (c := c) (r := r) (o := o) (m := m) ht hl hL (L t) 0 0 (by omega)
    exact rx_isV ht (br_f (by decide) ⟨_, hX _ (ry_bad ht (br_t rfl ⟨_, hY _ ⟨rfl, rv_rel h⟩⟩))⟩)
/-! sum -/
theorem rq_sum {c l r o : Nat → Int32} {m : Int32} {a L : Nat} (ha : a < 4) (hl : l a = nI L) (hL : L ≤ 64) : ∀ d i : Nat, ∀ x : Int64, i + d = L →
    ∃ z : Int64, (∀ post : Int64 → Prop, post z → wX_sum_15 post (nI a) c l r (d + 1) x (nI i)) ∧ (∀ post : Int64 → Prop, post z → wY_sum_5 post (nI a) m c l o (d + 1) x (nI i)) := by
  intro d
  induction d with
  | zero =>
    intro i x hi
    refine ⟨x, fun _ hp => rv_lcT ha hl (by omega) (by omega) hp, fun _ hp => ?_⟩
    unfold wY_sum_5
    exact ry_bad ha (br_t rfl (rv_lcT ha hl (by omega) (by omega) hp))
  | succ d ih =>
    intro i x hi
    obtain ⟨z, hX, hY⟩ := ih (i + 1) (x + (c (64 * a + i)).toInt64) (by omega)
    have hiL : i < L := by omega
    refine ⟨z, fun post hp => rv_lcF ha hl hL hiL (rx_cell ha (by omega) (nm_e (rv_inc (hX post hp)))), fun post hp => ?_⟩
    unfold wY_sum_5
    refine ry_bad ha (br_t rfl (rv_lcF ha hl hL hiL ⟨ry_in ha (by omega), ?_⟩))
    rw [ry_rd c ha (by omega)]
    exact nm_e (rv_inc (hY post hp))
theorem i_vc_sum {k : Nat} {u : SX} {v : SY} (I : i_Rel k u v) (hk : k + 5 ≤ 2560) (v1 : Int32) : wpX_sum (fun r => wpY_sum (fun r' => r' = r ∧ i_Rel (k + 5) u v) v v1) u v1 := by
  obtain ⟨c, l, r, o, m, L, rfl, rfl, h⟩ := I
  unfold wpX_sum wpY_sum
  dsimp only
  rcases rv_vec v1 with hb | ⟨t, ht, rfl⟩
  · refine rx_isVn hb (br_t rfl ⟨1, ?_⟩)
    unfold wY_sum_5
    exact ry_badn hb (br_f (by decide) ⟨rfl, rv_rel h⟩)
  · obtain ⟨hl, hL⟩ := h t ht
    obtain ⟨z, hX, hY⟩ := rq_sum (c := c) (r := r) (o := o) (m := m) ht hl hL (L t) 0 0 (by omega)
    exact rx_isV ht (br_f (by decide) ⟨_, hX _ ⟨_, hY _ ⟨rfl, rv_rel h⟩⟩⟩)
/-! find -/
theorem rq_find {c l r o : Nat → Int32} {m x f : Int32} {a L : Nat} (ha : a < 4) (hl : l a = nI L) (hL : L ≤ 64) : ∀ d i : Nat, i + d = L → (∀ q, i ≤ q → q < 64 → ¬ nI q < f) →
    ∃ z : Int32, (∀ post : Int32 → Prop, post z → wX_find_25 post (nI a) x c l r (d + 1) (nI i)) ∧ (∀ post : Int32 → Prop, post z → wY_find_12 post (nI a) x f m c l o (d + 1) (nI i)) := by
  intro d
  induction d with
  | zero =>
    intro i hi hf
    exact ⟨-1, fun _ hp => rv_lcT ha hl (by omega) (by omega) hp, fun _ hp => rv_lcT ha hl (by omega) (by omega) hp⟩
  | succ d ih =>
    intro i hi hf
    obtain ⟨z, hX, hY⟩ := ih (i + 1) (by omega) (fun q h1 h2 => hf q (by omega) h2)
    have hiL : i < L := by omega
    have hif := hf i (Nat.le_refl _) (by omega)
    by_cases e : c (64 * a + i) = x
    · refine ⟨nI i, fun post hp => rv_lcF ha hl hL hiL (rx_cell ha (by omega) (br_t e hp)), fun post hp => rv_lcF ha hl hL hiL (br_f hif ⟨ry_in ha (by omega), ?_⟩)⟩
      rw [ry_rd c ha (by omega)]
      exact br_t e hp
    · refine ⟨z, fun post hp => rv_lcF ha hl hL hiL (rx_cell ha (by omega) (br_f e (rv_inc (hX post hp)))), fun post hp => rv_lcF ha hl hL hiL (br_f hif ⟨ry_in ha (by omega), ?_⟩)⟩
      rw [ry_rd c ha (by omega)]
      exact br_f e (rv_inc (hY post hp))
theorem rq_skip {c l o : Nat → Int32} {m x : Int32} {a L f : Nat} (ha : a < 4) (hl : l a = nI L) (hL : L ≤ 64) (hf : f < 2 ^ 31) (post : Int32 → Prop) (n : Nat) : ∀ d i : Nat, i + d ≤ f → i + d ≤ L →
    wY_find_12 post (nI a) x (nI f) m c l o n (nI (i + d)) → wY_find_12 post (nI a) x (nI f) m c l o (n + d) (nI i) := by
  intro d
  induction d with
  | zero => exact fun i _ _ h => h
  | succ d ih =>
    intro i h1 h2 h
    refine rv_lcF ha hl hL (by omega) (br_t (nI_lt (by omega) hf) (rv_inc (ih (i + 1) (by omega) (by omega) ?_)))
    rw [show i + 1 + d = i + (d + 1) by omega]
    exact h
theorem i_vc_find {k : Nat} {u : SX} {v : SY} (I : i_Rel k u v) (hk : k + 5 ≤ 2560) (v1 : Int32) (v2 : Int32) (v3 : Int32) : wpX_find (fun r => wpY_find (fun r' => r' = r ∧ i_Rel (k + 5) u v) v v1 v2 v3) u v1 v2 v3 := by
  obtain ⟨c, l, r, o, m, L, rfl, rfl, h⟩ := I
  unfold wpX_find wpY_find
  dsimp only
  rcases rv_vec v1 with hb | ⟨t, ht, rfl⟩
  · exact rx_isVn hb (br_t rfl (ry_badn hb (br_f (by decide) ⟨rfl, rv_rel h⟩)))
  · obtain ⟨hl, hL⟩ := h t ht
    refine rx_isV ht (br_f (by decide) ?_)
    by_cases h0 : v3 < 0
    · obtain ⟨z, hX, hY⟩ := rq_find (c := c) (r := r) (o := o) (m := m) (x := v2) (f := v3) ht hl hL (L t) 0 (by omega) (fun q _ h2 h3 => nI_pos (n := q) (by omega) (Int32.lt_trans h3 h0))
      exact br_f (Int32.not_le.mpr h0) ⟨_, hX _ (ry_bad ht (br_t rfl ⟨_, hY _ ⟨rfl, rv_rel h⟩⟩))⟩
    · refine br_t (Int32.not_lt.mp h0) ?_
      obtain ⟨f, hf, rfl⟩ := nI_of h0
      by_cases hfL : f < L t
      · obtain ⟨z, hX, hY⟩ := rq_find (c := c) (r := r) (o := o) (m := m) (x := v2) (f := nI f) ht hl hL (L t - f) f (by omega) (fun q h1 h2 => nI_nlt h1 (by omega))
        refine ⟨_, hX _ (ry_bad ht (br_t rfl ⟨_, rq_skip (f := f) ht hl hL hf _ (L t - f + 1) f 0 (by omega) (by omega) ?_⟩))⟩
        rw [Nat.zero_add]
        exact hY _ ⟨rfl, rv_rel h⟩
      · refine ⟨1, rv_lcT ht hl hf (by omega) (ry_bad ht (br_t rfl ⟨_, rq_skip (f := f) ht hl hL hf _ 1 (L t) 0 (by omega) (by omega) ?_⟩))⟩
        rw [Nat.zero_add]
        exact rv_lcT ht hl (by omega) (Nat.le_refl _) ⟨rfl, rv_rel h⟩
/-! between -/
theorem rq_btw {c l r o : Nat → Int32} {m p q : Int32} {a L : Nat} (ha : a < 4) (hl : l a = nI L) (hL : L ≤ 64) : ∀ d i : Nat, ∀ x : Int32, i + d = L →
    ∃ z : Int32, (∀ post : Int32 → Prop, post z → wX_between_16 post (nI a) p q c l r (d + 1) x (nI i)) ∧ (∀ post : Int32 → Prop, post z → wY_between_15 post (nI a) p q m c l o (d + 1) x (nI i)) := by
  intro d
  induction d with
  | zero =>
    intro i x hi
    exact ⟨x, fun _ hp => rv_lcT ha hl (by omega) (by omega) hp, fun _ hp => rv_lcT ha hl (by omega) (by omega) hp⟩
  | succ d ih =>
    intro i x hi
    obtain ⟨zt, tX, tY⟩ := ih (i + 1) (x + 1) (by omega)
    obtain ⟨zf, fX, fY⟩ := ih (i + 1) x (by omega)
    have hiL : i < L := by omega
    have hr := ry_rd c ha (show i < 64 by omega)
    by_cases e1 : c (64 * a + i) < p
    · exact ⟨zf, fun post hp => rv_lcF ha hl hL hiL (rx_cell ha (by omega) (br_t e1 (rv_inc (fX post hp)))), fun post hp => rv_lcF ha hl hL hiL ⟨ry_in ha (by omega), nm_r hr (br_t e1 (rv_inc (fY post hp)))⟩⟩
    · by_cases e2 : q < c (64 * a + i)
      · exact ⟨zf, fun post hp => rv_lcF ha hl hL hiL (rx_cell ha (by omega) (br_f e1 (br_t e2 (rv_inc (fX post hp))))), fun post hp => rv_lcF ha hl hL hiL ⟨ry_in ha (by omega), nm_r hr (br_f e1 (br_t e2 (rv_inc (fY post hp))))⟩⟩
      · exact ⟨zt, fun post hp => rv_lcF ha hl hL hiL (rx_cell ha (by omega) (br_f e1 (br_f e2 (nm_e (rv_inc (tX post hp)))))), fun post hp => rv_lcF ha hl hL hiL ⟨ry_in ha (by omega), nm_r hr (br_f e1 (br_f e2 (nm_e (rv_inc (tY post hp)))))⟩⟩
theorem i_vc_between {k : Nat} {u : SX} {v : SY} (I : i_Rel k u v) (hk : k + 5 ≤ 2560) (v1 : Int32) (v2 : Int32) (v3 : Int32) : wpX_between (fun r => wpY_between (fun r' => r' = r ∧ i_Rel (k + 5) u v) v v1 v2 v3) u v1 v2 v3 := by
  obtain ⟨c, l, r, o, m, L, rfl, rfl, h⟩ := I
  unfold wpX_between wpY_between
  dsimp only
  rcases rv_vec v1 with hb | ⟨t, ht, rfl⟩
  · exact rx_isVn hb (br_t rfl (ry_badn hb (br_f (by decide) ⟨rfl, rv_rel h⟩)))
  · obtain ⟨hl, hL⟩ := h t ht
    obtain ⟨z, hX, hY⟩ := rq_btw (c := c) (r := r) (o := o) (m := m) (p := v2) (q := v3) ht hl hL (L t) 0 0 (by omega)
    exact rx_isV ht (br_f (by decide) ⟨_, hX _ (ry_bad ht (br_t rfl ⟨_, hY _ ⟨rfl, rv_rel h⟩⟩))⟩)
/-! compare -/
def rv_cmp (A B : Nat) : Int32 := if A = B then 0 else if B ≤ A then 2 else -2
theorem rx_83 {post : Int32 → Prop} {c l r : Nat → Int32} {a b A B : Nat} (ha : a < 4) (hb : b < 4) (hl : l a = nI A) (hA : A ≤ 64) (hm : l b = nI B) (hB : B ≤ 64) (h : post (rv_cmp A B)) : wX_compare_83 post (nI a) (nI b) c l r := by
  unfold wX_compare_83
  rw [rv_lv ha hl, rv_lv hb hm]
  refine ⟨rv_v4 ha, rv_v4 hb, pk_eq A B (fun e => ?_) (fun e => ⟨rv_v4 ha, rv_v4 hb, pk_le B A (fun e2 => ?_) (fun e2 => ?_)⟩)⟩
  · rwa [rv_cmp, if_pos e] at h
  · rwa [rv_cmp, if_neg e, if_pos e2] at h
  · rwa [rv_cmp, if_neg e, if_neg (by omega)] at h
theorem ry_44 {post : Int32 → Prop} {m : Int32} {c l o : Nat → Int32} {a b A B : Nat} (ha : a < 4) (hb : b < 4) (hl : l a = nI A) (hA : A ≤ 64) (hm : l b = nI B) (hB : B ≤ 64) (h : post (rv_cmp A B)) : wY_compare_44 post (nI a) (nI b) m c l o := by
  unfold wY_compare_44
  rw [rv_lv ha hl, rv_lv hb hm]
  refine ⟨rv_v4 ha, rv_v4 hb, pk_le B A (fun e => ⟨rv_v4 ha, rv_v4 hb, pk_le A B (fun e2 => ?_) (fun e2 => ?_)⟩) (fun e => ?_)⟩
  · rwa [rv_cmp, if_pos (by omega)] at h
  · rwa [rv_cmp, if_neg (by omega), if_pos e] at h
  · rwa [rv_cmp, if_neg (by omega), if_neg (by omega)] at h
theorem rq_cmp {c l r o : Nat → Int32} {m : Int32} {a b A B : Nat} (ha : a < 4) (hb : b < 4) (hl : l a = nI A) (hA : A ≤ 64) (hm : l b = nI B) (hB : B ≤ 64) : ∀ d i : Nat, i + d = 64 → i ≤ A → i ≤ B →
    ∃ z : Int32, (∀ post : Int32 → Prop, post z → wX_compare_20 post (nI a) (nI b) c l r (d + 1) (nI i)) ∧ (∀ post : Int32 → Prop, post z → wY_compare_18 post (nI a) (nI b) m c l o (d + 1) (nI i)) := by
  intro d
  induction d with
  | zero =>
    intro i hi h1 h2
    refine ⟨rv_cmp A B, fun _ hp => rv_lcT ha hl (by omega) (by omega) (rx_83 ha hb hl hA hm hB hp), fun _ hp => br_t (nI_le (a := 64) (by omega) (by omega)) ?_⟩
    rwa [rv_cmp, if_pos (by omega)] at hp
  | succ d ih =>
    intro i hi h1 h2
    have h6 : ¬ (64 : Int32) ≤ nI i := nI_ge (b := 64) (by omega) (by decide)
    by_cases hiA : i < A
    · by_cases hiB : i < B
      · have hY : ∀ {P Q : Prop}, P → vp_in (nI b) 4 ∧ ((nI i < l (nI b).toNatClampNeg → P) ∧ (¬ nI i < l (nI b).toNatClampNeg → Q)) := by
          intro P Q p
          rw [rv_lv hb hm]
          exact ⟨rv_v4 hb, br_t (nI_lt hiB (by omega)) p⟩
        have ra := ry_rd c ha (show i < 64 by omega)
        have rb := ry_rd c hb (show i < 64 by omega)
        by_cases e : c (64 * a + i) = c (64 * b + i)
        · obtain ⟨z, zX, zY⟩ := ih (i + 1) (by omega) (by omega) (by omega)
          exact ⟨z, fun post hp => rv_lcF ha hl hA hiA (rv_lcF hb hm hB hiB (rx_cell ha (by omega) (rx_cell hb (by omega) (br_t e (rv_inc (zX post hp)))))),
            fun post hp => br_f h6 (rv_lcF ha hl hA hiA (hY ⟨ry_in ha (by omega), nm_r ra ⟨ry_in hb (by omega), nm_r rb (br_t e (rv_inc (zY post hp)))⟩⟩))⟩
        · by_cases e2 : c (64 * b + i) ≤ c (64 * a + i)
          · exact ⟨2, fun post hp => rv_lcF ha hl hA hiA (rv_lcF hb hm hB hiB (rx_cell ha (by omega) (rx_cell hb (by omega) (br_f e (br_t e2 hp))))),
              fun post hp => br_f h6 (rv_lcF ha hl hA hiA (hY ⟨ry_in ha (by omega), nm_r ra ⟨ry_in hb (by omega), nm_r rb (br_f e (br_t e2 hp))⟩⟩))⟩
          · exact ⟨-2, fun post hp => rv_lcF ha hl hA hiA (rv_lcF hb hm hB hiB (rx_cell ha (by omega) (rx_cell hb (by omega) (br_f e (br_f e2 hp))))),
              fun post hp => br_f h6 (rv_lcF ha hl hA hiA (hY ⟨ry_in ha (by omega), nm_r ra ⟨ry_in hb (by omega), nm_r rb (br_f e (br_f e2 hp))⟩⟩))⟩
      · refine ⟨rv_cmp A B, fun post hp => rv_lcF ha hl hA hiA (rv_lcT hb hm (by omega) (by omega) (rx_83 ha hb hl hA hm hB hp)), fun post hp => br_f h6 (rv_lcF ha hl hA hiA ⟨rv_v4 hb, br_f ?_ (ry_44 ha hb hl hA hm hB hp)⟩)⟩
        rw [rv_lv hb hm]
        exact nI_nlt (by omega) (by omega)
    · exact ⟨rv_cmp A B, fun post hp => rv_lcT ha hl (by omega) (by omega) (rx_83 ha hb hl hA hm hB hp), fun post hp => br_f h6 (rv_lcT ha hl (by omega) (by omega) (ry_44 ha hb hl hA hm hB hp))⟩
theorem i_vc_compare {k : Nat} {u : SX} {v : SY} (I : i_Rel k u v) (hk : k + 5 ≤ 2560) (v1 : Int32) (v2 : Int32) : wpX_compare (fun r => wpY_compare (fun r' => r' = r ∧ i_Rel (k + 5) u v) v v1 v2) u v1 v2 := by
  obtain ⟨c, l, r, o, m, L, rfl, rfl, h⟩ := I
  unfold wpX_compare wpY_compare
  dsimp only
  rcases rv_vec v1 with hb | ⟨a, ha, rfl⟩
  · exact rx_isVn hb (br_t rfl (ry_badn hb (br_f (by decide) ⟨rfl, rv_rel h⟩)))
  · refine rx_isV ha (br_f (by decide) ?_)
    rcases rv_vec v2 with hb | ⟨b, hb, rfl⟩
    · exact rx_isVn hb (br_t rfl (ry_bad ha (br_t rfl (ry_badn hb (br_f (by decide) ⟨rfl, rv_rel h⟩)))))
    · obtain ⟨hl, hL⟩ := h a ha
      obtain ⟨hm, hM⟩ := h b hb
      obtain ⟨z, hX, hY⟩ := rq_cmp (c := c) (r := r) (o := o) (m := m) ha hb hl hL hm hM 64 0 (by omega) (by omega) (by omega)
      exact rx_isV hb (br_f (by decide) ⟨_, hX _ (ry_bad ha (br_t rfl (ry_bad hb (br_t rfl ⟨_, hY _ ⟨rfl, rv_rel h⟩⟩))))⟩)
end
section
/-! what a result holds: its first m cells are f's -/
def rv_sg (f : Nat → Int32) (m : Nat) (R : Nat → Int32) : Prop := ∀ j, j < m → R j = f j
theorem rv_sg0 (f R : Nat → Int32) : rv_sg f 0 R := fun j h => absurd h (Nat.not_lt_zero j)
theorem rv_sg1 {f R : Nat → Int32} {i : Nat} {x : Int32} (h : rv_sg f i R) (e : x = f i) : rv_sg f (i + 1) (upd R i x) := by
  intro j hj
  by_cases h2 : j = i
  · rw [h2, pk_us, e]
  · rw [pk_un h2]; exact h j (by omega)
/-- the outcome of an operation, as X's makers answer it -/
def rv_mk (post : Int32 → SX → Prop) (c l : Nat → Int32) : Option (Nat × (Nat → Int32)) → Prop
  | none => ∀ R, post (-1) (c, l, R)
  | some e => ∀ R, e.1 ≤ 64 → rv_sg e.2 e.1 R → post (nI e.1) (c, l, R)
theorem rx_makeRaised {post : Int32 → SX → Prop} {c l r : Nat → Int32} {a L : Nat} {k : Int32} (ha : a < 4) (hl : l a = nI L) (hL : L ≤ 64)
    (hp : rv_mk post c l (some (L, fun j => k + c (64 * a + j)))) : wpX_makeRaised post (c, l, r) (nI a) k := by
  refine loop_0 (fun n i R => wX_makeRaised_2 post (nI a) k n (nI i) c l R) (fun i R => rv_sg (fun j => k + c (64 * a + j)) i R) L r (rv_sg0 _ _) ?_ ?_
  · exact fun n R h => rv_lcT ha hl (by omega) (Nat.le_refl _) (rv_en ha hl (hp R hL h))
  · exact fun n i R hi h hk => rv_lcF ha hl hL hi (rx_cell ha (by omega) (rv_st (by omega) (rv_inc (hk _ (rv_sg1 h rfl)))))
theorem rx_makeMultiplied {post : Int32 → SX → Prop} {c l r : Nat → Int32} {a L : Nat} {k : Int32} (ha : a < 4) (hl : l a = nI L) (hL : L ≤ 64)
    (hp : rv_mk post c l (some (L, fun j => k * c (64 * a + j)))) : wpX_makeMultiplied post (c, l, r) (nI a) k := by
  refine loop_0 (fun n i R => wX_makeMultiplied_2 post (nI a) k n (nI i) c l R) (fun i R => rv_sg (fun j => k * c (64 * a + j)) i R) L r (rv_sg0 _ _) ?_ ?_
  · exact fun n R h => rv_lcT ha hl (by omega) (Nat.le_refl _) (rv_en ha hl (hp R hL h))
  · exact fun n i R hi h hk => rv_lcF ha hl hL hi (rx_cell ha (by omega) (rv_st (by omega) (rv_inc (hk _ (rv_sg1 h rfl)))))
theorem rx_makeReversed {post : Int32 → SX → Prop} {c l r : Nat → Int32} {a L : Nat} (ha : a < 4) (hl : l a = nI L) (hL : L ≤ 64)
    (hp : rv_mk post c l (some (L, fun j => c (64 * a + (L - 1 - j))))) : wpX_makeReversed post (c, l, r) (nI a) := by
  refine ⟨rv_v4 ha, ?_⟩
  rw [rv_lv ha hl]
  cases L with
  | zero =>
    refine nm_e ⟨1, br_t (by decide) (rv_en ha hl (hp r hL (rv_sg0 _ _)))⟩
  | succ q =>
    refine nm_r (nI_pred q) (loop_0 (fun n i R => wX_makeReversed_11 post (nI a) (nI q) n (nI i) c l R) (fun i R => rv_sg (fun j => c (64 * a + (q + 1 - 1 - j))) i R) (q + 1) r (rv_sg0 _ _) ?_ ?_)
    · exact fun n R h => br_t (nI_lt (by omega) (by omega)) (rv_en ha hl (hp R hL h))
    · intro n i R hi h hk
      refine br_f (nI_nlt (by omega) (by omega)) ?_
      rw [pk_sub (by omega)]
      exact rx_cell ha (by omega) (rv_st (by omega) (rv_inc (hk _ (rv_sg1 h rfl))))
theorem rx_makeFirst {post : Int32 → SX → Prop} {c l r : Nat → Int32} {a L q : Nat} (ha : a < 4) (hl : l a = nI L) (hL : L ≤ 64) (hq : q ≤ L)
    (hp : rv_mk post c l (some (q, fun j => c (64 * a + j)))) : wpX_makeFirst post (c, l, r) (nI a) (nI q) := by
  refine br_f (nI_pos (by omega)) ⟨rv_v4 ha, ?_⟩
  rw [rv_lv ha hl]
  refine br_t (nI_le hq (by omega)) (loop_0 (fun n i R => wX_makeFirst_18 post (nI a) (nI q) n (nI i) c l R) (fun i R => rv_sg (fun j => c (64 * a + j)) i R) q r (rv_sg0 _ _) ?_ ?_)
  · exact fun n R h => br_t (Int32.le_refl _) (hp R (by omega) h)
  · exact fun n i R hi h hk => br_f (nI_ge hi (by omega)) (rx_cell ha (by omega) (rv_st (by omega) (rv_inc (hk _ (rv_sg1 h rfl)))))
theorem rx_makeFirstN {post : Int32 → SX → Prop} {c l r : Nat → Int32} {a L : Nat} {k : Int32} (ha : a < 4) (hl : l a = nI L) (hq : k < 0 ∨ ¬ k ≤ nI L)
    (hp : rv_mk post c l none) : wpX_makeFirst post (c, l, r) (nI a) k := by
  by_cases h0 : k < 0
  · exact br_t h0 (hp r)
  · refine br_f h0 ⟨rv_v4 ha, ?_⟩
    rw [rv_lv ha hl]
    exact br_f (hq.resolve_left h0) (hp r)
theorem rx_makeWithoutFirst {post : Int32 → SX → Prop} {c l r : Nat → Int32} {a L q : Nat} (ha : a < 4) (hl : l a = nI L) (hL : L ≤ 64) (hq : q ≤ L)
    (hp : rv_mk post c l (some (L - q, fun j => c (64 * a + (q + j))))) : wpX_makeWithoutFirst post (c, l, r) (nI a) (nI q) := by
  refine br_f (nI_pos (by omega)) ⟨rv_v4 ha, ?_⟩
  rw [rv_lv ha hl]
  refine br_t (nI_le hq (by omega)) ⟨rv_v4 ha, nm_r (pk_sub hq) (loop_0 (fun n i R => wX_makeWithoutFirst_28 post (nI a) (nI q) (nI (L - q)) n (nI i) c l R) (fun i R => rv_sg (fun j => c (64 * a + (q + j))) i R) (L - q) r (rv_sg0 _ _) ?_ ?_)⟩
  · exact fun n R h => br_t (Int32.le_refl _) (hp R (show L - q ≤ 64 by omega) h)
  · intro n i R hi h hk
    refine br_f (nI_ge hi (by omega)) ?_
    rw [nI_add]
    exact rx_cell ha (by omega) (rv_st (by omega) (rv_inc (hk _ (rv_sg1 h rfl))))
theorem rx_makeWithoutFirstN {post : Int32 → SX → Prop} {c l r : Nat → Int32} {a L : Nat} {k : Int32} (ha : a < 4) (hl : l a = nI L) (hq : k < 0 ∨ ¬ k ≤ nI L)
    (hp : rv_mk post c l none) : wpX_makeWithoutFirst post (c, l, r) (nI a) k := by
  by_cases h0 : k < 0
  · exact br_t h0 (hp r)
  · refine br_f h0 ⟨rv_v4 ha, ?_⟩
    rw [rv_lv ha hl]
    exact br_f (hq.resolve_left h0) (hp r)
/-! running sums, running greatest, differences -/
def rv_ps (x : Nat → Int32) : Nat → Int32
  | 0 => 0
  | i + 1 => rv_ps x i + x i
theorem rx_makeRunningSums {post : Int32 → SX → Prop} {c l r : Nat → Int32} {a L : Nat} (ha : a < 4) (hl : l a = nI L) (hL : L ≤ 64)
    (hp : rv_mk post c l (some (L, fun j => rv_ps (fun i => c (64 * a + i)) (j + 1)))) : wpX_makeRunningSums post (c, l, r) (nI a) := by
  refine loop_0 (fun n i (s : Int32 × (Nat → Int32)) => wX_makeRunningSums_4 post (nI a) n s.1 (nI i) c l s.2) (fun i s => s.1 = rv_ps (fun i => c (64 * a + i)) i ∧ rv_sg (fun j => rv_ps (fun i => c (64 * a + i)) (j + 1)) i s.2) L (0, r) ⟨rfl, rv_sg0 _ _⟩ ?_ ?_
  · exact fun n s h => rv_lcT ha hl (by omega) (Nat.le_refl _) (rv_en ha hl (hp s.2 hL h.2))
  · intro n i s hi h hk
    obtain ⟨g, R⟩ := s
    obtain ⟨h1, h2⟩ := h
    dsimp only at h1 h2
    subst h1
    exact rv_lcF ha hl hL hi (rx_cell ha (by omega) (nm_e (rv_st (by omega) (rv_inc (hk (_, _) ⟨rfl, rv_sg1 h2 rfl⟩)))))
def rv_gm (x : Nat → Int32) : Nat → Int32
  | 0 => x 0
  | i + 1 => if x (i + 1) ≤ rv_gm x i then rv_gm x i else x (i + 1)
theorem rx_makeRunningGreatest {post : Int32 → SX → Prop} {c l r : Nat → Int32} {a L : Nat} (ha : a < 4) (hl : l a = nI L) (hL : L ≤ 64)
    (hp : rv_mk post c l (some (L, rv_gm (fun i => c (64 * a + i))))) : wpX_makeRunningGreatest post (c, l, r) (nI a) := by
  refine loop_0 (fun n i (s : Int32 × (Nat → Int32)) => wX_makeRunningGreatest_4 post (nI a) n s.1 (nI i) c l s.2) (fun i s => (∀ q, i = q + 1 → s.1 = rv_gm (fun i => c (64 * a + i)) q) ∧ rv_sg (rv_gm (fun i => c (64 * a + i))) i s.2) L (0, r) ⟨fun q hq => absurd hq (by omega), rv_sg0 _ _⟩ ?_ ?_
  · exact fun n s h => rv_lcT ha hl (by omega) (Nat.le_refl _) (rv_en ha hl (hp s.2 hL h.2))
  · intro n i s hi h hk
    obtain ⟨g, R⟩ := s
    obtain ⟨h1, h2⟩ := h
    dsimp only at h1 h2
    refine rv_lcF ha hl hL hi (rx_cell ha (by omega) ?_)
    cases i with
    | zero =>
      exact br_t rfl (rv_st (by omega) (rv_inc (hk (_, _) ⟨fun q hq => by cases hq; rfl, rv_sg1 h2 rfl⟩)))
    | succ q =>
      have hg := h1 q rfl
      subst hg
      refine br_f (nI_ne0 (by omega) (by omega)) (br_c (fun e => ?_) (fun e => ?_))
      · have hv : rv_gm (fun i => c (64 * a + i)) q = rv_gm (fun i => c (64 * a + i)) (q + 1) := by rw [rv_gm, if_pos e]
        exact rv_st (by omega) (rv_inc (hk (_, _) ⟨fun q' hq => by cases hq; exact hv, rv_sg1 h2 hv⟩))
      · have hv : c (64 * a + (q + 1)) = rv_gm (fun i => c (64 * a + i)) (q + 1) := by rw [rv_gm, if_neg e]
        exact rv_st (by omega) (rv_inc (hk (_, _) ⟨fun q' hq => by cases hq; exact hv, rv_sg1 h2 hv⟩))
def rv_df (x : Nat → Int32) : Nat → Int32
  | 0 => x 0
  | i + 1 => x (i + 1) - x i
theorem rx_makeDifferences {post : Int32 → SX → Prop} {c l r : Nat → Int32} {a L : Nat} (ha : a < 4) (hl : l a = nI L) (hL : L ≤ 64)
    (hp : rv_mk post c l (some (L, rv_df (fun i => c (64 * a + i))))) : wpX_makeDifferences post (c, l, r) (nI a) := by
  refine loop_0 (fun n i (s : Int32 × (Nat → Int32)) => wX_makeDifferences_4 post (nI a) n s.1 (nI i) c l s.2) (fun i s => (c (64 * a + i) - s.1 = rv_df (fun i => c (64 * a + i)) i) ∧ rv_sg (rv_df (fun i => c (64 * a + i))) i s.2) L (0, r) ⟨Int32.sub_zero _, rv_sg0 _ _⟩ ?_ ?_
  · exact fun n s h => rv_lcT ha hl (by omega) (Nat.le_refl _) (rv_en ha hl (hp s.2 hL h.2))
  · intro n i s hi h hk
    obtain ⟨g, R⟩ := s
    obtain ⟨h1, h2⟩ := h
    exact rv_lcF ha hl hL hi (rx_cell ha (by omega) (rv_st (by omega) (rv_inc (hk (_, _) ⟨rfl, rv_sg1 h2 h1⟩))))
/-! joined, fetched, paired -/
theorem rx_makeJoined {post : Int32 → SX → Prop} {c l r : Nat → Int32} {a b A B : Nat} (ha : a < 4) (hb : b < 4) (hl : l a = nI A) (hA : A ≤ 64) (hm : l b = nI B) (hB : B ≤ 64) (hAB : A + B ≤ 64)
    (hp : rv_mk post c l (some (A + B, fun j => if j < A then c (64 * a + j) else c (64 * b + (j - A))))) : wpX_makeJoined post (c, l, r) (nI a) (nI b) := by
  unfold wpX_makeJoined
  dsimp only
  rw [rv_lv ha hl, rv_lv hb hm]
  refine ⟨rv_v4 ha, nm_e ⟨rv_v4 hb, nm_r (nI_add A B) (br_t (nI_le (b := 64) hAB (by decide)) ?_)⟩⟩
  refine loop_0 (fun n i R => wX_makeJoined_29 post (nI a) (nI b) (nI A) (nI (A + B)) n (nI i) c l R) (fun i R => rv_sg (fun j => if j < A then c (64 * a + j) else c (64 * b + (j - A))) i R) A r (rv_sg0 _ _) ?_ ?_
  · intro n R h
    refine br_t (Int32.le_refl _) (pk_loop (fun n i R => wX_makeJoined_58 post (nI b) (nI A) (nI (A + B)) n (nI i) c l R) (fun i R => A ≤ i ∧ rv_sg (fun j => if j < A then c (64 * a + j) else c (64 * b + (j - A))) i R) (A + B) A R (by omega) ⟨Nat.le_refl _, h⟩ ?_ ?_)
    · exact fun n R h => br_t (Int32.le_refl _) (hp R hAB h.2)
    · intro n i R hi h hk
      refine br_f (nI_ge hi (by omega)) ?_
      rw [pk_sub h.1]
      exact rx_cell hb (by omega) (rv_st (by omega) (rv_inc (hk _ ⟨by omega, rv_sg1 h.2 (if_neg (by omega)).symm⟩)))
  · exact fun n i R hi h hk => br_f (nI_ge hi (by omega)) (rx_cell ha (by omega) (rv_st (by omega) (rv_inc (hk _ (rv_sg1 h (if_pos hi).symm)))))
theorem rx_makeJoinedN {post : Int32 → SX → Prop} {c l r : Nat → Int32} {a b A B : Nat} (ha : a < 4) (hb : b < 4) (hl : l a = nI A) (hA : A ≤ 64) (hm : l b = nI B) (hB : B ≤ 64) (hAB : 64 < A + B)
    (hp : rv_mk post c l none) : wpX_makeJoined post (c, l, r) (nI a) (nI b) := by
  unfold wpX_makeJoined
  dsimp only
  rw [rv_lv ha hl, rv_lv hb hm]
  exact ⟨rv_v4 ha, nm_e ⟨rv_v4 hb, nm_r (nI_add A B) (br_f (nI_ge (a := 64) hAB (by omega)) (hp r))⟩⟩
def rv_ok (A : Nat) (x : Int32) : Prop := ∃ j, j < A ∧ x = nI j
theorem rx_isPlace {post : Int32 → Prop} {c l r : Nat → Int32} {a A : Nat} {x : Int32} (ha : a < 4) (hl : l a = nI A) (hA : A ≤ 64) (h1 : rv_ok A x → post 1) (h0 : ¬ rv_ok A x → post 0) : wpX_isPlace post (c, l, r) (nI a) x := by
  unfold wpX_isPlace
  dsimp only
  rw [rv_lv ha hl]
  refine br_c (fun z => h0 ?_) (fun z => ⟨rv_v4 ha, br_c (fun w => h0 ?_) (fun w => h1 ?_)⟩)
  · rintro ⟨j, hj, rfl⟩
    exact nI_pos (by omega) z
  · rintro ⟨j, hj, rfl⟩
    exact nI_ge hj (by omega) w
  · obtain ⟨j, hj, rfl⟩ := nI_of z
    rw [nI_leI (by omega) hj] at w
    exact ⟨j, by omega, rfl⟩
theorem rx_makeFetched {post : Int32 → SX → Prop} {c l r : Nat → Int32} {a b A B : Nat} (ha : a < 4) (hb : b < 4) (hl : l a = nI A) (hA : A ≤ 64) (hm : l b = nI B) (hB : B ≤ 64)
    (hp : (∀ j, j < B → rv_ok A (c (64 * b + j))) → rv_mk post c l (some (B, fun j => c (64 * a + (c (64 * b + j)).toNatClampNeg))))
    (hn : (¬ ∀ j, j < B → rv_ok A (c (64 * b + j))) → rv_mk post c l none) : wpX_makeFetched post (c, l, r) (nI a) (nI b) := by
  refine loop_0 (fun n i R => wX_makeFetched_2 post (nI a) (nI b) n (nI i) c l R) (fun i R => (∀ j, j < i → rv_ok A (c (64 * b + j))) ∧ rv_sg (fun j => c (64 * a + (c (64 * b + j)).toNatClampNeg)) i R) B r ⟨fun j h => absurd h (Nat.not_lt_zero j), rv_sg0 _ _⟩ ?_ ?_
  · exact fun n R h => rv_lcT hb hm (by omega) (Nat.le_refl _) (rv_en hb hm (hp h.1 R hB h.2))
  · intro n i R hi h hk
    refine rv_lcF hb hm hB hi (rx_cell hb (by omega) (rx_isPlace ha hl hA (fun ok => br_f (by decide) ?_) (fun ok => br_t rfl (hn (fun z => ok (z i hi)) R))))
    have hk' := hk (upd R i (c (64 * a + (c (64 * b + i)).toNatClampNeg))) ⟨lt_s h.1 ok, rv_sg1 h.2 rfl⟩
    obtain ⟨j, hj, e⟩ := ok
    rw [e] at hk' ⊢
    rw [nI_clamp (by omega)] at hk'
    exact rx_cell ha (by omega) (rv_st (by omega) (rv_inc hk'))
def rv_wk (p : Nat) (x y : Int32) : Int32 := match p with
  | 0 => x + y
  | 1 => x - y
  | 2 => x * y
  | 3 => if y ≤ x then y else x
  | 4 => if x ≤ y then y else x
  | 5 => if y ≤ x then 0 else 1
  | _ => if x = y then 1 else 0
theorem rv_pif {post : Int32 → Prop} {q : Prop} (d : Decidable q) {x y : Int32} (h : post (@ite _ q d x y)) : (q → post x) ∧ (¬ q → post y) :=
  ⟨fun z => by rwa [if_pos z] at h, fun z => by rwa [if_neg z] at h⟩
theorem rx_pair {post : Int32 → Prop} {u : SX} {x y : Int32} {p : Nat} (hp6 : p ≤ 6) (h : post (rv_wk p x y)) : wpX_pair post u (nI p) x y := by
  obtain ⟨c, l, r⟩ := u
  match p, hp6, h with
  | 0, _, h => exact br_f (by decide) (br_f (by decide) (br_t rfl h))
  | 1, _, h => exact br_f (by decide) (br_f (by decide) (br_f (by decide) (br_t rfl h)))
  | 2, _, h => exact br_f (by decide) (br_f (by decide) (br_f (by decide) (br_f (by decide) (br_t rfl h))))
  | 3, _, h => exact br_f (by decide) (br_f (by decide) (br_f (by decide) (br_f (by decide) (br_f (by decide) (br_t rfl (rv_pif _ h))))))
  | 4, _, h => exact br_f (by decide) (br_f (by decide) (br_f (by decide) (br_f (by decide) (br_f (by decide) (br_f (by decide) (br_t rfl (rv_pif _ h)))))))
  | 5, _, h => exact br_f (by decide) (br_f (by decide) (br_f (by decide) (br_f (by decide) (br_f (by decide) (br_f (by decide) (br_f (by decide) (br_t rfl (rv_pif _ h))))))))
  | 6, _, h => exact br_f (by decide) (br_t (by decide) (rv_pif _ h))
theorem ry_worked {post : Int32 → Prop} {x y : Int32} {p : Nat} (hp6 : p ≤ 6) (h : post (rv_wk p x y)) : wpY_worked post (nI p) x y := by
  match p, hp6, h with
  | 0, _, h => exact br_t rfl h
  | 1, _, h => exact br_f (by decide) (br_t rfl h)
  | 2, _, h => exact br_f (by decide) (br_f (by decide) (br_t rfl h))
  | 3, _, h => exact br_f (by decide) (br_f (by decide) (br_f (by decide) (br_t rfl (rv_pif _ h))))
  | 4, _, h => exact br_f (by decide) (br_f (by decide) (br_f (by decide) (br_f (by decide) (br_t rfl (rv_pif _ h)))))
  | 5, _, h => exact br_f (by decide) (br_f (by decide) (br_f (by decide) (br_f (by decide) (br_f (by decide) (br_t rfl (rv_pif _ h))))))
  | 6, _, h => exact br_f (by decide) (br_f (by decide) (br_f (by decide) (br_f (by decide) (br_f (by decide) (br_f (by decide) (rv_pif _ h))))))
theorem rx_makePaired {post : Int32 → SX → Prop} {c l r : Nat → Int32} {a b A p : Nat} (hp6 : p ≤ 6) (ha : a < 4) (hb : b < 4) (hl : l a = nI A) (hA : A ≤ 64)
    (hp : rv_mk post c l (some (A, fun j => rv_wk p (c (64 * a + j)) (c (64 * b + j))))) : wpX_makePaired post (c, l, r) (nI p) (nI a) (nI b) := by
  refine loop_0 (fun n i R => wX_makePaired_3 post (nI p) (nI a) (nI b) n (nI i) c l R) (fun i R => rv_sg (fun j => rv_wk p (c (64 * a + j)) (c (64 * b + j))) i R) A r (rv_sg0 _ _) ?_ ?_
  · exact fun n R h => rv_lcT ha hl (by omega) (Nat.le_refl _) (rv_en ha hl (hp R hA h))
  · exact fun n i R hi h hk => rv_lcF ha hl hA hi (rx_cell ha (by omega) (rx_cell hb (by omega) (rx_pair hp6 (rv_st (by omega) (rv_inc (hk _ (rv_sg1 h rfl)))))))
end
section
/-! results that grow cell by cell: lists -/
def rv_gd (ls : List Int32) : Nat → Int32 := fun j => ls.getD j 0
theorem rv_gd1 {ls : List Int32} {x : Int32} {R : Nat → Int32} (h : rv_sg (rv_gd ls) ls.length R) : rv_sg (rv_gd (ls ++ [x])) (ls ++ [x]).length (upd R ls.length x) := by
  intro j hj
  rw [List.length_append, List.length_singleton] at hj
  unfold rv_gd
  by_cases e : j = ls.length
  · rw [e, pk_us]
    simp [List.getD_eq_getElem?_getD]
  · have hj2 : j < ls.length := by omega
    rw [pk_un e, h j hj2]
    simp [rv_gd, List.getD_eq_getElem?_getD, List.getElem?_append, hj2]
/-- made and result hold the list -/
def rv_li (ls : List Int32) (s : Int32 × (Nat → Int32)) : Prop := s.1 = nI ls.length ∧ rv_sg (rv_gd ls) ls.length s.2
theorem rv_li0 (R : Nat → Int32) : rv_li [] (0, R) := ⟨rfl, rv_sg0 _ _⟩
theorem rv_li1 {ls : List Int32} {R : Nat → Int32} (x : Int32) (h : rv_sg (rv_gd ls) ls.length R) : rv_li (ls ++ [x]) (nI (ls.length + 1), upd R ls.length x) := by
  refine ⟨?_, rv_gd1 h⟩
  rw [List.length_append, List.length_singleton]
def rv_fl (p : Nat → Bool) (f : Nat → Int32) : Nat → List Int32
  | 0 => []
  | i + 1 => if p i = true then rv_fl p f i ++ [f i] else rv_fl p f i
theorem rv_flL (p : Nat → Bool) (f : Nat → Int32) (i : Nat) : (rv_fl p f i).length ≤ i := by
  induction i with
  | zero => exact Nat.le_refl _
  | succ i ih =>
    rw [rv_fl]
    by_cases h : p i = true
    · rw [if_pos h, List.length_append, List.length_singleton]; omega
    · rw [if_neg h]; omega
theorem rv_flT {p : Nat → Bool} {f : Nat → Int32} {i : Nat} (h : p i = true) : rv_fl p f (i + 1) = rv_fl p f i ++ [f i] := by rw [rv_fl, if_pos h]
theorem rv_flF {p : Nat → Bool} {f : Nat → Int32} {i : Nat} (h : ¬ p i = true) : rv_fl p f (i + 1) = rv_fl p f i := by rw [rv_fl, if_neg h]
theorem rv_liT {p : Nat → Bool} {f : Nat → Int32} {i : Nat} {R : Nat → Int32} (h : p i = true) (hr : rv_sg (rv_gd (rv_fl p f i)) (rv_fl p f i).length R) : rv_li (rv_fl p f (i + 1)) (nI ((rv_fl p f i).length + 1), upd R (rv_fl p f i).length (f i)) := by
  rw [rv_flT h]; exact rv_li1 _ hr
theorem rv_liF {p : Nat → Bool} {f : Nat → Int32} {i : Nat} {R : Nat → Int32} (h : ¬ p i = true) (hr : rv_sg (rv_gd (rv_fl p f i)) (rv_fl p f i).length R) : rv_li (rv_fl p f (i + 1)) (nI (rv_fl p f i).length, R) := by
  rw [rv_flF h]; exact ⟨rfl, hr⟩
def rv_ol (ls : List Int32) : Option (Nat × (Nat → Int32)) := some (ls.length, rv_gd ls)
theorem rv_mkL {post : Int32 → SX → Prop} {c l : Nat → Int32} {ls : List Int32} {s : Int32 × (Nat → Int32)} (hp : rv_mk post c l (rv_ol ls)) (h : rv_li ls s) (h6 : ls.length ≤ 64) : post s.1 (c, l, s.2) := by
  rw [h.1]; exact hp s.2 h6 h.2
/-! kept -/
theorem rx_makeKept {post : Int32 → SX → Prop} {c l r : Nat → Int32} {a b L : Nat} (ha : a < 4) (hb : b < 4) (hl : l a = nI L) (hL : L ≤ 64)
    (hp : rv_mk post c l (rv_ol (rv_fl (fun i => decide (¬ c (64 * b + i) = 0)) (fun i => c (64 * a + i)) L))) : wpX_makeKept post (c, l, r) (nI a) (nI b) := by
  refine loop_0 (fun n i (s : Int32 × (Nat → Int32)) => wX_makeKept_5 post (nI a) (nI b) n s.1 (nI i) c l s.2) (fun i s => rv_li (rv_fl (fun i => decide (¬ c (64 * b + i) = 0)) (fun i => c (64 * a + i)) i) s) L (0, r) (rv_li0 _) ?_ ?_
  · exact fun n s h => rv_lcT ha hl (by omega) (Nat.le_refl _) (rv_mkL hp h (Nat.le_trans (rv_flL _ _ _) hL))
  · intro n i s hi h hk
    obtain ⟨m, R⟩ := s
    obtain ⟨h1, h2⟩ := h
    dsimp only at h1 h2
    subst h1
    have hb1 := rv_flL (fun i => decide (¬ c (64 * b + i) = 0)) (fun i => c (64 * a + i)) i
    refine rv_lcF ha hl hL hi (rx_cell hb (by omega) (br_c (fun e => ?_) (fun e => rx_cell ha (by omega) ?_)))
    · exact rv_inc (hk (_, _) (rv_liF (by simp [e]) h2))
    · exact rv_st (by omega) (rv_inc (rv_inc (hk (_, _) (rv_liT (by simp [e]) h2))))
/-! places -/
theorem rx_makePlaces {post : Int32 → SX → Prop} {c l r : Nat → Int32} {a L : Nat} (ha : a < 4) (hl : l a = nI L) (hL : L ≤ 64)
    (hp : rv_mk post c l (rv_ol (rv_fl (fun i => decide (¬ c (64 * a + i) = 0)) nI L))) : wpX_makePlaces post (c, l, r) (nI a) := by
  refine loop_0 (fun n i (s : Int32 × (Nat → Int32)) => wX_makePlaces_4 post (nI a) n s.1 (nI i) c l s.2) (fun i s => rv_li (rv_fl (fun i => decide (¬ c (64 * a + i) = 0)) nI i) s) L (0, r) (rv_li0 _) ?_ ?_
  · exact fun n s h => rv_lcT ha hl (by omega) (Nat.le_refl _) (rv_mkL hp h (Nat.le_trans (rv_flL _ _ _) hL))
  · intro n i s hi h hk
    obtain ⟨m, R⟩ := s
    obtain ⟨h1, h2⟩ := h
    dsimp only at h1 h2
    subst h1
    have hb1 := rv_flL (fun i => decide (¬ c (64 * a + i) = 0)) nI i
    refine rv_lcF ha hl hL hi (rx_cell ha (by omega) (br_c (fun e => ?_) (fun e => ?_)))
    · exact rv_inc (hk (_, _) (rv_liF (by simp [e]) h2))
    · exact rv_st (by omega) (rv_inc (rv_inc (hk (_, _) (rv_liT (by simp [e]) h2))))
/-! steps -/
def rv_sp (x : Nat → Int32) : Nat → Bool
  | 0 => true
  | i + 1 => decide (¬ x (i + 1) = x i)
theorem rx_makeSteps {post : Int32 → SX → Prop} {c l r : Nat → Int32} {a L : Nat} (ha : a < 4) (hl : l a = nI L) (hL : L ≤ 64)
    (hp : rv_mk post c l (rv_ol (rv_fl (rv_sp (fun i => c (64 * a + i))) (fun i => c (64 * a + i)) L))) : wpX_makeSteps post (c, l, r) (nI a) := by
  refine loop_0 (fun n i (s : Int32 × (Nat → Int32)) => wX_makeSteps_4 post (nI a) n s.1 (nI i) c l s.2) (fun i s => rv_li (rv_fl (rv_sp (fun i => c (64 * a + i))) (fun i => c (64 * a + i)) i) s) L (0, r) (rv_li0 _) ?_ ?_
  · exact fun n s h => rv_lcT ha hl (by omega) (Nat.le_refl _) (rv_mkL hp h (Nat.le_trans (rv_flL _ _ _) hL))
  · intro n i s hi h hk
    obtain ⟨m, R⟩ := s
    obtain ⟨h1, h2⟩ := h
    dsimp only at h1 h2
    subst h1
    have hb1 := rv_flL (rv_sp (fun i => c (64 * a + i))) (fun i => c (64 * a + i)) i
    refine rv_lcF ha hl hL hi ?_
    cases i with
    | zero => exact rx_ss0 (br_f (by decide) (rx_cell ha (by omega) (rv_st (by omega) (rv_inc (rv_inc (hk (_, _) (rv_liT rfl h2)))))))
    | succ q =>
      refine rx_ss1 ha (by omega) (fun e => br_t rfl ?_) (fun e => br_f (by decide) (rx_cell ha (by omega) ?_))
      · exact rv_inc (hk (_, _) (rv_liF (by simp [rv_sp, e]) h2))
      · exact rv_st (by omega) (rv_inc (rv_inc (hk (_, _) (rv_liT (by simp [rv_sp, e]) h2))))
/-! repeated -/
theorem rv_cle (x : Int32) {b : Nat} (hb : b < 2 ^ 31) : x ≤ nI b ↔ x.toNatClampNeg ≤ b := by
  by_cases h : x < 0
  · have h0 : x.toNatClampNeg = 0 := by
      rw [Int32.lt_iff_toInt_lt, show (0 : Int32).toInt = 0 by decide] at h
      show x.toInt.toNat = 0
      omega
    rw [h0]
    exact ⟨fun _ => Nat.zero_le _, fun _ => Int32.le_trans (Int32.le_of_lt h) (nI_pos' hb)⟩
  · obtain ⟨j, hj, rfl⟩ := nI_of h
    rw [nI_clamp hj, nI_leI hj hb]
def rv_rp (n : Nat → Nat) (f : Nat → Int32) : Nat → List Int32
  | 0 => []
  | i + 1 => rv_rp n f i ++ List.replicate (n i) (f i)
theorem rv_rp1 (n : Nat → Nat) (f : Nat → Int32) (i : Nat) : (rv_rp n f (i + 1)).length = (rv_rp n f i).length + n i := by
  rw [rv_rp, List.length_append, List.length_replicate]
theorem rv_rpM (n : Nat → Nat) (f : Nat → Int32) (i d : Nat) : (rv_rp n f i).length ≤ (rv_rp n f (i + d)).length := by
  induction d with
  | zero => exact Nat.le_refl _
  | succ d ih =>
    rw [← Nat.add_assoc, rv_rp1]; omega
theorem rv_rps {ls : List Int32} {x : Int32} {j : Nat} : ls ++ List.replicate (j + 1) x = (ls ++ List.replicate j x) ++ [x] := by
  rw [List.replicate_succ', List.append_assoc]
theorem rv_rpl {ls : List Int32} {x : Int32} {j : Nat} : (ls ++ List.replicate j x).length = ls.length + j := by
  rw [List.length_append, List.length_replicate]
theorem rx_makeRepeated {post : Int32 → SX → Prop} {c l r : Nat → Int32} {a b L : Nat} (ha : a < 4) (hb : b < 4) (hl : l a = nI L) (hL : L ≤ 64)
    (hp : (rv_rp (fun i => (c (64 * b + i)).toNatClampNeg) (fun i => c (64 * a + i)) L).length ≤ 64 → rv_mk post c l (rv_ol (rv_rp (fun i => (c (64 * b + i)).toNatClampNeg) (fun i => c (64 * a + i)) L)))
    (hn : 64 < (rv_rp (fun i => (c (64 * b + i)).toNatClampNeg) (fun i => c (64 * a + i)) L).length → rv_mk post c l none) : wpX_makeRepeated post (c, l, r) (nI a) (nI b) := by
  refine loop_0 (fun n i (s : Int32 × (Nat → Int32)) => wX_makeRepeated_5 post (nI a) (nI b) n s.1 (nI i) c l s.2) (fun i s => (rv_rp (fun i => (c (64 * b + i)).toNatClampNeg) (fun i => c (64 * a + i)) i).length ≤ 64 ∧ rv_li (rv_rp (fun i => (c (64 * b + i)).toNatClampNeg) (fun i => c (64 * a + i)) i) s) L (0, r) ⟨Nat.zero_le 64, rv_li0 _⟩ ?_ ?_
  · exact fun n s h => rv_lcT ha hl (by omega) (Nat.le_refl _) (rv_mkL (hp h.1) h.2 h.1)
  · intro n i s hi h hk
    obtain ⟨m, R⟩ := s
    obtain ⟨h6, h1, h2⟩ := h
    dsimp only at h1 h2
    subst h1
    have e1 := rv_rp1 (fun i => (c (64 * b + i)).toNatClampNeg) (fun i => c (64 * a + i)) i
    have eM := rv_rpM (fun i => (c (64 * b + i)).toNatClampNeg) (fun i => c (64 * a + i)) (i + 1) (L - (i + 1))
    rw [show i + 1 + (L - (i + 1)) = L by omega] at eM
    have e2 : rv_rp (fun i => (c (64 * b + i)).toNatClampNeg) (fun i => c (64 * a + i)) (i + 1) = rv_rp (fun i => (c (64 * b + i)).toNatClampNeg) (fun i => c (64 * a + i)) i ++ List.replicate (c (64 * b + i)).toNatClampNeg (c (64 * a + i)) := rfl
    refine rv_lcF ha hl hL hi (rx_cell ha (by omega) (rx_cell hb (by omega) ?_))
    generalize hls : rv_rp (fun i => (c (64 * b + i)).toNatClampNeg) (fun i => c (64 * a + i)) i = ls at *
    rw [rv_64, pk_sub h6]
    refine br_c (fun e => ?_) (fun e => ?_)
    · rw [rv_cle _ (by omega)] at e
      refine loop_0 (fun n7 j (s : Int32 × (Nat → Int32)) => wX_makeRepeated_48 post (wX_makeRepeated_5 post (nI a) (nI b) n) (nI a) (nI b) (nI i) (c (64 * a + i)) (c (64 * b + i)) n7 s.1 (nI j) c l s.2) (fun j s => rv_li (ls ++ List.replicate j (c (64 * a + i))) s) (c (64 * b + i)).toNatClampNeg (nI ls.length, R) ?_ ?_ ?_
      · rw [List.replicate_zero, List.append_nil]
        exact ⟨rfl, h2⟩
      · intro n7 s hs
        refine br_t ((rv_cle _ (by omega)).mpr (Nat.le_refl _)) (rv_inc (hk (s.1, s.2) ⟨by omega, ?_⟩))
        rw [e2]
        exact hs
      · intro n7 j s hj hs hk7
        obtain ⟨m, R⟩ := s
        obtain ⟨h1, h2⟩ := hs
        dsimp only at h1 h2
        subst h1
        refine br_f (fun z => ?_) ?_
        · rw [rv_cle _ (by omega)] at z; omega
        · have hlen := rv_rpl (ls := ls) (x := c (64 * a + i)) (j := j)
          have hk8 := hk7 (nI ((ls ++ List.replicate j (c (64 * a + i))).length + 1), upd R (ls ++ List.replicate j (c (64 * a + i))).length (c (64 * a + i))) (by rw [rv_rps]; exact rv_li1 _ h2)
          exact rv_st (by omega) (rv_inc (rv_inc hk8))
    · rw [rv_cle _ (by omega)] at e
      exact hn (by omega) R
end
section
/-! turned: the place (i + k) mod L -/
theorem rt_tm (k : Int) {M : Int} (hM : 0 < M) : (0 ≤ k.tmod M → k.tmod M = k % M) ∧ (¬ 0 ≤ k.tmod M → k.tmod M + M = k % M) := by
  have hb := tmod_bounds (a := k) hM
  have e : k.tmod M % M = k % M := by
    have h := Int.tmod_add_mul_tdiv k M
    rw [← h, Int.add_mul_emod_self_left, h]
  refine ⟨fun h => ?_, fun h => ?_⟩
  · rw [← e, Int.emod_eq_of_lt h hb.2]
  · rw [← e, ← Int.add_emod_right, Int.emod_eq_of_lt (by omega) (by omega)]
def rv_sh (k : Int32) (L : Nat) : Nat := (k.toInt % (L : Int)).toNat
theorem rv_shE (k : Int32) {L : Nat} (h : 0 < L) : ((rv_sh k L : Nat) : Int) = k.toInt % (L : Int) := by
  unfold rv_sh
  have := Int.emod_nonneg k.toInt (show (L : Int) ≠ 0 by omega)
  omega
theorem rv_shL (k : Int32) {L : Nat} (h : 0 < L) : rv_sh k L < L := by
  have h1 := rv_shE k h
  have := Int.emod_lt_of_pos k.toInt (show (0 : Int) < (L : Int) by omega)
  omega
theorem rt_x (k : Int32) {L : Nat} (h0 : 0 < L) (hL : L ≤ 64) : (0 ≤ k - k / nI L * nI L → k - k / nI L * nI L = nI (rv_sh k L)) ∧ (¬ 0 ≤ k - k / nI L * nI L → k - k / nI L * nI L + nI L = nI (rv_sh k L)) := by
  have e := rem_toInt k (nI L)
  rw [nI_toInt (by omega)] at e
  have hs := rv_shE k h0
  have hsl := rv_shL k h0
  have ht := rt_tm k.toInt (show (0 : Int) < (L : Int) by omega)
  have hb := tmod_bounds (a := k.toInt) (show (0 : Int) < (L : Int) by omega)
  generalize k - k / nI L * nI L = z at *
  have hz : (0 : Int32) ≤ z ↔ 0 ≤ z.toInt := by rw [Int32.le_iff_toInt_le, show (0 : Int32).toInt = 0 by decide]
  rw [hz, e]
  refine ⟨fun h => ?_, fun h => ?_⟩
  · apply Int32.toInt_inj.mp
    rw [nI_toInt (by omega), hs, e]
    exact ht.1 h
  · apply Int32.toInt_inj.mp
    have h2 := ht.2 h
    rw [Int32.toInt_add, nI_toInt (by omega), nI_toInt (by omega), hs, e, ← h2]
    exact Int.bmod_eq_of_le (by omega) (by omega)
theorem rx_makeTurned {post : Int32 → SX → Prop} {c l r : Nat → Int32} {a L : Nat} {k : Int32} (ha : a < 4) (hl : l a = nI L) (hL : L ≤ 64)
    (hp : rv_mk post c l (some (L, fun j => c (64 * a + (j + rv_sh k L) % L)))) : wpX_makeTurned post (c, l, r) (nI a) k := by
  refine ⟨rv_v4 ha, nm_r (rv_lv ha hl) ?_⟩
  by_cases h0 : L = 0
  · subst h0
    exact br_t rfl (hp r hL (rv_sg0 _ _))
  · have hn : ¬ nI L = 0 := nI_ne0 (by omega) (by omega)
    have hx := rt_x k (show 0 < L by omega) hL
    have hsl := rv_shL k (show 0 < L by omega)
    have H : ∃ n, wX_makeTurned_37 post (nI a) (nI L) (nI (rv_sh k L)) n 0 c l r := by
      refine loop_0 (fun n i R => wX_makeTurned_37 post (nI a) (nI L) (nI (rv_sh k L)) n (nI i) c l R) (fun i R => rv_sg (fun j => c (64 * a + (j + rv_sh k L) % L)) i R) L r (rv_sg0 _ _) ?_ ?_
      · exact fun n R h => br_t (Int32.le_refl _) (hp R hL h)
      · intro n i R hi h hk
        refine br_f (nI_ge hi (by omega)) ⟨hn, ?_⟩
        rw [nI_add, pk_rem (by omega) (by omega) (by omega)]
        have hlt : (i + rv_sh k L) % L < L := Nat.mod_lt _ (by omega)
        exact rx_cell ha (by omega) (rv_st (by omega) (rv_inc (hk _ (rv_sg1 h rfl))))
    exact br_f hn ⟨hn, nm_e (br_c (fun z => by rw [hx.1 z]; exact H) (fun z => nm_r (hx.2 z) H))⟩
/-- Y's place -/
theorem rt_y (k : Int32) {L i : Nat} (hi : i < L) (hL : L ≤ 64) :
    (0 ≤ ((nI i).toInt64 + k.toInt64) - ((nI i).toInt64 + k.toInt64) / (nI L).toInt64 * (nI L).toInt64 → (((nI i).toInt64 + k.toInt64) - ((nI i).toInt64 + k.toInt64) / (nI L).toInt64 * (nI L).toInt64).toInt32 = nI ((i + rv_sh k L) % L))
    ∧ (¬ 0 ≤ ((nI i).toInt64 + k.toInt64) - ((nI i).toInt64 + k.toInt64) / (nI L).toInt64 * (nI L).toInt64 → (((nI i).toInt64 + k.toInt64) - ((nI i).toInt64 + k.toInt64) / (nI L).toInt64 * (nI L).toInt64 + (nI L).toInt64).toInt32 = nI ((i + rv_sh k L) % L)) := by
  have hk1 := k.toInt_lt
  have hk2 := k.le_toInt
  have e := Jvm.Kit.i64_rem ((nI i).toInt64 + k.toInt64) (nI L).toInt64
  have es : ((nI i).toInt64 + k.toInt64).toInt = (i : Int) + k.toInt := by
    rw [Int64.toInt_add, Int32.toInt_toInt64, Int32.toInt_toInt64, nI_toInt (by omega)]
    exact Int.bmod_eq_of_le (by omega) (by omega)
  have eL : (nI L).toInt64.toInt = (L : Int) := by rw [Int32.toInt_toInt64, nI_toInt (by omega)]
  rw [es, eL] at e
  have hs := rv_shE k (show 0 < L by omega)
  have ht := rt_tm ((i : Int) + k.toInt) (show (0 : Int) < (L : Int) by omega)
  have hb := tmod_bounds (a := (i : Int) + k.toInt) (show (0 : Int) < (L : Int) by omega)
  have em : (((i + rv_sh k L) % L : Nat) : Int) = ((i : Int) + k.toInt) % (L : Int) := by
    rw [Int.natCast_emod, Int.natCast_add, hs, Int.add_emod_emod]
  have hml : (i + rv_sh k L) % L < L := Nat.mod_lt _ (by omega)
  generalize ((nI i).toInt64 + k.toInt64) - ((nI i).toInt64 + k.toInt64) / (nI L).toInt64 * (nI L).toInt64 = z at *
  generalize (i + rv_sh k L) % L = w at *
  have hz : (0 : Int64) ≤ z ↔ 0 ≤ z.toInt := by rw [Int64.le_iff_toInt_le, show (0 : Int64).toInt = 0 by decide]
  rw [hz, e]
  refine ⟨fun h => ?_, fun h => ?_⟩
  · have hv : z = lN w := by
      apply Int64.toInt_inj.mp
      rw [lN_toInt (by omega), e, em]
      exact ht.1 h
    rw [hv, lN_i]
  · have hv : z + (nI L).toInt64 = lN w := by
      apply Int64.toInt_inj.mp
      have h2 := ht.2 h
      rw [Int64.toInt_add, eL, lN_toInt (by omega), e, em, ← h2]
      exact Int.bmod_eq_of_le (by omega) (by omega)
    rw [hv, lN_i]
end
section
/-! counts -/
def rs_cn (f : Nat → Bool) : Nat → Nat
  | 0 => 0
  | n + 1 => rs_cn f n + (if f n = true then 1 else 0)
theorem rs_cnT {f : Nat → Bool} {n : Nat} (h : f n = true) : rs_cn f (n + 1) = rs_cn f n + 1 := by rw [rs_cn, if_pos h]
theorem rs_cnF {f : Nat → Bool} {n : Nat} (h : ¬ f n = true) : rs_cn f (n + 1) = rs_cn f n := by rw [rs_cn, if_neg h, Nat.add_zero]
theorem rs_cnL (f : Nat → Bool) (n : Nat) : rs_cn f n ≤ n := by
  induction n with
  | zero => exact Nat.le_refl _
  | succ n ih =>
    by_cases h : f n = true
    · rw [rs_cnT h]; omega
    · rw [rs_cnF h]; omega
theorem rs_mono {f g : Nat → Bool} {n : Nat} (h : ∀ j, j < n → f j = true → g j = true) : rs_cn f n ≤ rs_cn g n := by
  induction n with
  | zero => exact Nat.le_refl _
  | succ n ih =>
    have h1 := ih (fun j hj => h j (by omega))
    by_cases hf : f n = true
    · rw [rs_cnT hf, rs_cnT (h n (by omega) hf)]; omega
    · rw [rs_cnF hf]
      by_cases hg : g n = true
      · rw [rs_cnT hg]; omega
      · rw [rs_cnF hg]; omega
theorem rs_strict {f g : Nat → Bool} {n : Nat} (q : Nat) (hq : q < n) (h : ∀ j, j < n → f j = true → g j = true) (hf : ¬ f q = true) (hg : g q = true) : rs_cn f n < rs_cn g n := by
  induction n with
  | zero => omega
  | succ n ih =>
    by_cases e : q = n
    · subst e
      rw [rs_cnF hf, rs_cnT hg]
      have := rs_mono (fun j hj => h j (Nat.lt_succ_of_lt hj)) (f := f) (g := g) (n := q)
      omega
    · have h1 := ih (by omega) (fun j hj => h j (by omega))
      by_cases hfn : f n = true
      · rw [rs_cnT hfn, rs_cnT (h n (by omega) hfn)]; omega
      · rw [rs_cnF hfn]
        by_cases hgn : g n = true
        · rw [rs_cnT hgn]; omega
        · rw [rs_cnF hgn]; omega
/-! ranks -/
def rs_le (x : Nat → Int32) (v : Int32) : Nat → Bool := fun j => decide (x j ≤ v)
def rs_bf (x : Nat → Int32) (p : Nat) : Nat → Bool := fun j => decide (x j < x p ∨ (x j = x p ∧ j < p))
theorem rs_le1 {x : Nat → Int32} {v : Int32} {j : Nat} : rs_le x v j = true ↔ x j ≤ v := by unfold rs_le; exact decide_eq_true_iff
theorem rs_bf1 {x : Nat → Int32} {p j : Nat} : rs_bf x p j = true ↔ (x j < x p ∨ (x j = x p ∧ j < p)) := by unfold rs_bf; exact decide_eq_true_iff
theorem rs_lo {x : Nat → Int32} {v : Int32} {i p : Nat} (hp : p < i) (h : x p ≤ v) : rs_cn (rs_bf x p) i < rs_cn (rs_le x v) i := by
  refine rs_strict p hp (fun j _ hj => ?_) (fun z => ?_) (rs_le1.mpr h)
  · rw [rs_le1]
    rw [rs_bf1, Int32.lt_iff_toInt_lt, ← Int32.toInt_inj] at hj
    rw [Int32.le_iff_toInt_le] at h ⊢
    omega
  · rw [rs_bf1, Int32.lt_iff_toInt_lt] at z
    omega
theorem rs_hi {x : Nat → Int32} {v : Int32} {i p : Nat} (h : ¬ x p ≤ v) : rs_cn (rs_le x v) i ≤ rs_cn (rs_bf x p) i := by
  refine rs_mono (fun j _ hj => ?_)
  rw [rs_bf1, Int32.lt_iff_toInt_lt]
  rw [rs_le1] at hj
  rw [Int32.le_iff_toInt_le] at h hj
  omega
theorem rs_inj1 {x : Nat → Int32} {n p q : Nat} (hp : p < n) (h : x p < x q ∨ (x p = x q ∧ p < q)) : rs_cn (rs_bf x p) n < rs_cn (rs_bf x q) n := by
  refine rs_strict p hp (fun j _ hj => ?_) (fun z => ?_) (rs_bf1.mpr h)
  · rw [rs_bf1] at hj ⊢
    rw [Int32.lt_iff_toInt_lt, ← Int32.toInt_inj] at h hj ⊢
    omega
  · rw [rs_bf1, Int32.lt_iff_toInt_lt] at z
    omega
theorem rs_inj {x : Nat → Int32} {n p q : Nat} (hp : p < n) (hq : q < n) (h : rs_cn (rs_bf x p) n = rs_cn (rs_bf x q) n) : p = q := by
  by_cases e : p = q
  · exact e
  · exfalso
    have hc : (x p < x q ∨ (x p = x q ∧ p < q)) ∨ (x q < x p ∨ (x q = x p ∧ q < p)) := by
      rw [Int32.lt_iff_toInt_lt, Int32.lt_iff_toInt_lt, ← Int32.toInt_inj, ← Int32.toInt_inj]
      omega
    rcases hc with hc | hc
    · have := rs_inj1 (n := n) hp hc; omega
    · have := rs_inj1 (n := n) hq hc; omega
theorem rs_lt {x : Nat → Int32} {n p : Nat} (hp : p < n) : rs_cn (rs_bf x p) n < n := by
  have h := rs_strict (f := rs_bf x p) (g := fun _ => true) (n := n) p hp (fun _ _ _ => rfl) (fun z => by rw [rs_bf1, Int32.lt_iff_toInt_lt] at z; omega) rfl
  have := rs_cnL (fun _ => true) n
  omega
/-! the sorted cells, by insertion -/
def rs_ins (g : Nat) (v : Int32) (S : Nat → Int32) : Nat → Int32 := fun j => if j < g then S j else if j = g then v else S (j - 1)
def rs_so (x : Nat → Int32) : Nat → (Nat → Int32)
  | 0 => fun _ => 0
  | i + 1 => rs_ins (rs_cn (rs_le x (x i)) i) (x i) (rs_so x i)
theorem rs_soP (x : Nat → Int32) : ∀ i q : Nat, q < i → ∃ p, p < i ∧ rs_cn (rs_bf x p) i = q ∧ rs_so x i q = x p := by
  intro i
  induction i with
  | zero => exact fun q h => absurd h (Nat.not_lt_zero q)
  | succ i ih =>
    intro q hq
    have hgl := rs_cnL (rs_le x (x i)) i
    have hself : rs_cn (rs_bf x i) i = rs_cn (rs_le x (x i)) i := by
      refine Nat.le_antisymm (rs_mono fun j hj z => ?_) (rs_mono fun j hj z => ?_)
      · rw [rs_le1]
        rw [rs_bf1, Int32.lt_iff_toInt_lt, ← Int32.toInt_inj] at z
        rw [Int32.le_iff_toInt_le]
        omega
      · rw [rs_bf1, Int32.lt_iff_toInt_lt, ← Int32.toInt_inj]
        rw [rs_le1, Int32.le_iff_toInt_le] at z
        omega
    have hfi : ∀ p, p ≤ i → (rs_bf x p i = true ↔ ¬ x p ≤ x i) := by
      intro p hp
      rw [rs_bf1, Int32.lt_iff_toInt_lt, ← Int32.toInt_inj, Int32.le_iff_toInt_le]
      omega
    show ∃ p, p < i + 1 ∧ rs_cn (rs_bf x p) (i + 1) = q ∧ rs_ins (rs_cn (rs_le x (x i)) i) (x i) (rs_so x i) q = x p
    unfold rs_ins
    by_cases h1 : q < rs_cn (rs_le x (x i)) i
    · obtain ⟨p, hp, e1, e2⟩ := ih q (by omega)
      have hle : x p ≤ x i := by
        by_cases z : x p ≤ x i
        · exact z
        · have := rs_hi (i := i) z; omega
      refine ⟨p, by omega, ?_, by rw [if_pos h1, e2]⟩
      rw [rs_cnF (fun z => (hfi p (by omega)).mp z hle), e1]
    · by_cases h2 : q = rs_cn (rs_le x (x i)) i
      · refine ⟨i, by omega, ?_, by rw [if_neg h1, if_pos h2]⟩
        rw [rs_cnF (fun z => (hfi i (by omega)).mp z (Int32.le_refl _)), hself, h2]
      · obtain ⟨p, hp, e1, e2⟩ := ih (q - 1) (by omega)
        have hle : ¬ x p ≤ x i := fun z => by
          have := rs_lo hp z; omega
        refine ⟨p, by omega, ?_, by rw [if_neg h1, if_neg h2, e2]⟩
        rw [rs_cnT ((hfi p (by omega)).mpr hle), e1]
        omega
theorem rs_cut (x : Nat → Int32) {i q : Nat} (hq : q < i) : rs_so x i q ≤ x i ↔ q < rs_cn (rs_le x (x i)) i := by
  obtain ⟨p, hp, e1, e2⟩ := rs_soP x i q hq
  rw [e2]
  refine ⟨fun h => ?_, fun h => ?_⟩
  · have := rs_lo hp h; omega
  · by_cases z : x p ≤ x i
    · exact z
    · have := rs_hi (i := i) z; omega
/-! X's inner loop -/
theorem rx_sort25 {post : Int32 → SX → Prop} {J2 : Int32 → (Nat → Int32) → (Nat → Int32) → (Nat → Int32) → Prop} {c l : Nat → Int32} {x1 : Int32} {i : Nat} (x : Nat → Int32) (hi : i < 64)
    (hJ : ∀ R, rv_sg (rs_so x (i + 1)) (i + 1) R → J2 (nI (i + 1)) c l R) : ∀ (d j : Nat) (R : Nat → Int32), j = rs_cn (rs_le x (x i)) i + d → j ≤ i → rv_sg (rs_so x i) j R → (∀ q, j ≤ q → q < i → R (q + 1) = rs_so x i q) →
    wX_makeSorted_25 post J2 x1 (nI i) (x i) (d + 1) (nI j) (nI j) c l R := by
  intro d
  induction d with
  | zero =>
    intro j R hj hji h1 h2
    have hfin : J2 (nI (i + 1)) c l (upd R j (x i)) := by
      refine hJ _ (fun q hq => ?_)
      show _ = rs_ins (rs_cn (rs_le x (x i)) i) (x i) (rs_so x i) q
      unfold rs_ins
      by_cases e : q = j
      · rw [e, pk_us, if_neg (by omega), if_pos (by omega)]
      · rw [pk_un e]
        by_cases e2 : q < j
        · rw [if_pos (by omega), h1 q e2]
        · rw [if_neg (by omega), if_neg (by omega), ← h2 (q - 1) (by omega) (by omega), Nat.sub_add_cancel (by omega)]
    cases j with
    | zero => exact br_t (by decide) (rv_st (by omega) (rv_inc hfin))
    | succ q =>
      refine br_f (nI_nle (by omega) (by omega)) ?_
      rw [nI_pred, nI_clamp (by omega), h1 q (by omega)]
      exact ⟨vp_in_nI (by omega) (by decide), br_t ((rs_cut x (by omega)).mpr (by omega)) (rv_st (by omega) (rv_inc hfin))⟩
  | succ d ih =>
    intro j R hj hji h1 h2
    cases j with
    | zero => omega
    | succ q =>
      refine br_f (nI_nle (by omega) (by omega)) ?_
      have hv := h1 q (by omega)
      rw [nI_pred, nI_clamp (by omega : q < 2 ^ 31), hv]
      refine ⟨vp_in_nI (by omega) (by decide), br_f (fun z => ?_) ⟨vp_in_nI (by omega) (by decide), rv_st (by omega) (nm_e (nm_r (pk_m1 q) (ih q _ (by omega) (by omega) ?_ ?_)))⟩⟩
      · have := (rs_cut x (by omega)).mp z; omega
      · intro p hp
        rw [pk_un (by omega)]; exact h1 p (by omega)
      · intro p hp hp2
        by_cases e : p = q
        · rw [e, pk_us]
        · rw [pk_un (by omega)]; exact h2 p (by omega) hp2
theorem rx_makeSorted {post : Int32 → SX → Prop} {c l r : Nat → Int32} {a L : Nat} (ha : a < 4) (hl : l a = nI L) (hL : L ≤ 64)
    (hp : rv_mk post c l (some (L, rs_so (fun i => c (64 * a + i)) L))) : wpX_makeSorted post (c, l, r) (nI a) := by
  refine loop_0 (fun n i R => wX_makeSorted_2 post (nI a) n (nI i) c l R) (fun i R => rv_sg (rs_so (fun i => c (64 * a + i)) i) i R) L r (rv_sg0 _ _) ?_ ?_
  · exact fun n R h => rv_lcT ha hl (by omega) (Nat.le_refl _) (rv_en ha hl (hp R hL h))
  · intro n i R hi h hk
    have hg := rs_cnL (rs_le (fun i => c (64 * a + i)) (c (64 * a + i))) i
    exact rv_lcF ha hl hL hi (rx_cell ha (by omega) ⟨_, rx_sort25 (fun i => c (64 * a + i)) (by omega) hk (i - rs_cn (rs_le (fun i => c (64 * a + i)) (c (64 * a + i))) i) i R (by show i = rs_cn (rs_le (fun i => c (64 * a + i)) (c (64 * a + i))) i + _; omega) (Nat.le_refl _) h (fun q h1 h2 => by omega)⟩)
end
section
/-! the outcome as Y stores it -/
def rv_my (post : Int32 → SY → Prop) (c l : Nat → Int32) (t : Nat) : Option (Nat × (Nat → Int32)) → Prop
  | none => ∀ m O, post (-1) (m, c, l, O)
  | some e => ∀ O, post (nI e.1) (nI e.1, rv_stc c t e.1 e.2, upd l t (nI e.1), O)
theorem ry_118 {post : Int32 → SY → Prop} {c l O f : Nat → Int32} {t m : Nat} (ht : t < 4) (hm : m ≤ 64) (h : rv_sg f m O) (hp : rv_my post c l t (some (m, f))) : wY_change_118 post (nI t) (nI m) c l O := by
  refine ry_store ht hm ?_
  show post (nI m) (nI m, rv_stc c t m O, upd l t (nI m), O)
  rw [rv_stcE h]
  exact hp O
theorem ry_212 {post : Int32 → SY → Prop} {c l O f : Nat → Int32} {t m : Nat} (ht : t < 4) (hm : m ≤ 64) (h : rv_sg f m O) (hp : rv_my post c l t (some (m, f))) : wY_combine_212 post (nI t) (nI m) c l O := by
  refine ry_store ht hm ?_
  show post (nI m) (nI m, rv_stc c t m O, upd l t (nI m), O)
  rw [rv_stcE h]
  exact hp O
theorem ry_212N {post : Int32 → SY → Prop} {c l O : Nat → Int32} {t m : Nat} (hm : 64 < m) (hm2 : m < 1000) (hp : rv_my post c l t none) : wY_combine_212 post (nI t) (nI m) c l O :=
  ry_storeN hm hm2 (hp _ O)
/-! change: the loop over the cells -/
theorem ry_91 {post : Int32 → SY → Prop} {c l o : Nat → Int32} {t a L : Nat} {op k : Int32} (I : Nat → Int32 × (Nat → Int32) → Prop) (ha : a < 4) (hl : l a = nI L) (hL : L ≤ 64) (h0 : I 0 (0, o))
    (hs : ∀ (i : Nat) (s : Int32 × (Nat → Int32)) (P : SY → Prop), i < L → I i s → (∀ s', I (i + 1) s' → P (s'.1, c, l, s'.2)) → wpY_step P (s.1, c, l, s.2) op (nI a) k (nI i))
    (he : ∀ s, I L s → wY_change_118 post (nI t) s.1 c l s.2) : ∃ n, wY_change_91 post (nI t) op (nI a) k n 0 0 c l o := by
  refine loop_0 (fun n i (s : Int32 × (Nat → Int32)) => wY_change_91 post (nI t) op (nI a) k n (nI i) s.1 c l s.2) I L (0, o) h0 ?_ ?_
  · exact fun n s h => rv_lcT ha hl (by omega) (Nat.le_refl _) (he s h)
  · intro n i s hi h hk
    exact rv_lcF ha hl hL hi (hs i s _ hi h (fun s' h' => rv_inc (hk s' h')))
theorem ry_91A {post : Int32 → SY → Prop} {c l o : Nat → Int32} {t a L : Nat} {op k : Int32} (f : Nat → Int32) (ht : t < 4) (ha : a < 4) (hl : l a = nI L) (hL : L ≤ 64)
    (hs : ∀ (i : Nat) (O : Nat → Int32) (P : SY → Prop), i < L → rv_sg f i O → P (nI (i + 1), c, l, upd O i (f i)) → wpY_step P (nI i, c, l, O) op (nI a) k (nI i))
    (hp : rv_my post c l t (some (L, f))) : ∃ n, wY_change_91 post (nI t) op (nI a) k n 0 0 c l o := by
  refine ry_91 (fun i s => s.1 = nI i ∧ rv_sg f i s.2) ha hl hL ⟨rfl, rv_sg0 _ _⟩ ?_ ?_
  · intro i s P hi h hk
    obtain ⟨m, O⟩ := s
    obtain ⟨h1, h2⟩ := h
    dsimp only at h1 h2
    subst h1
    exact hs i O P hi h2 (hk (_, _) ⟨rfl, rv_sg1 h2 rfl⟩)
  · intro s h
    rw [h.1]
    exact ry_118 ht hL h.2 hp
theorem ry_91F {post : Int32 → SY → Prop} {c l o : Nat → Int32} {t a L : Nat} {op k : Int32} (p : Nat → Bool) (f : Nat → Int32) (ht : t < 4) (ha : a < 4) (hl : l a = nI L) (hL : L ≤ 64)
    (hs : ∀ (i m : Nat) (O : Nat → Int32) (P : SY → Prop), i < L → m ≤ i → (p i = true → P (nI (m + 1), c, l, upd O m (f i))) → (¬ p i = true → P (nI m, c, l, O)) → wpY_step P (nI m, c, l, O) op (nI a) k (nI i))
    (hp : rv_my post c l t (rv_ol (rv_fl p f L))) : ∃ n, wY_change_91 post (nI t) op (nI a) k n 0 0 c l o := by
  refine ry_91 (fun i s => rv_li (rv_fl p f i) s) ha hl hL (rv_li0 _) ?_ ?_
  · intro i s P hi h hk
    obtain ⟨m, O⟩ := s
    obtain ⟨h1, h2⟩ := h
    dsimp only at h1 h2
    subst h1
    exact hs i _ O P hi (rv_flL p f i) (fun e => hk (_, _) (rv_liT e h2)) (fun e => hk (_, _) (rv_liF e h2))
  · intro s h
    rw [h.1]
    exact ry_118 ht (Nat.le_trans (rv_flL p f L) hL) h.2 hp
/-! one step of Y's change -/
theorem ry_step {P : SY → Prop} {c l O : Nat → Int32} {a L i m : Nat} {op k : Int32} (ha : a < 4) (hl : l a = nI L) (hL : L ≤ 64) (hi : i < L) (hm : m ≤ 64)
    (h : ∀ bf last : Int32, (∀ q, i = q + 1 → bf = c (64 * a + q)) → (i = 0 → last = 0) → (∀ q w, i = q + 1 → m = w + 1 → last = O w) → wY_step_74 P op (nI a) k (nI i) (nI L) (c (64 * a + i)) bf last (nI m) c l O) : wpY_step P (nI m, c, l, O) op (nI a) k (nI i) := by
  refine ⟨rv_v4 ha, nm_r (rv_lv ha hl) ⟨ry_in ha (by omega), nm_r (ry_rd c ha (by omega)) ?_⟩⟩
  cases i with
  | zero => exact br_t (by decide) (br_t (by decide) (h 0 0 (fun q e => by omega) (fun _ => rfl) (fun q w e => by omega)))
  | succ q =>
    have hn : ¬ nI (q + 1) ≤ 0 := nI_nle (by omega) (by omega)
    refine br_f hn ⟨ry_in1 ha (by omega), ?_⟩
    rw [ry_rd1 c ha (by omega)]
    cases m with
    | zero => exact br_f hn (br_t (by decide) (h _ 0 (fun q' e => by cases e; rfl) (fun e => by omega) (fun q w e e2 => by omega)))
    | succ w =>
      refine br_f hn (br_f (nI_nle (by omega) (by omega)) ?_)
      rw [nI_pred, nI_clamp (by omega)]
      exact ⟨vp_in_nI (by omega) (by decide), h _ _ (fun q' e => by cases e; rfl) (fun e => by omega) (fun q w' e e2 => by cases e2; rfl)⟩
theorem ry_s0 {P : SY → Prop} {c l O : Nat → Int32} {a L i m : Nat} {k : Int32} (ha : a < 4) (hl : l a = nI L) (hL : L ≤ 64) (hi : i < L) (hm : m < 64) (h : P (nI (m + 1), c, l, upd O m (k + c (64 * a + i)))) : wpY_step P (nI m, c, l, O) (nI 0) (nI a) k (nI i) :=
  ry_step ha hl hL hi (by omega) fun bf last _ _ _ => br_t rfl (ry_give hm (br_f (by decide) (br_f (by decide) (br_f (by decide) (br_f (by decide) (br_f (by decide) (br_f (by decide) (br_f (by decide) (br_f (by decide) (br_f (by decide) h))))))))))
theorem ry_s1 {P : SY → Prop} {c l O : Nat → Int32} {a L i m : Nat} {k : Int32} (ha : a < 4) (hl : l a = nI L) (hL : L ≤ 64) (hi : i < L) (hm : m < 64) (h : P (nI (m + 1), c, l, upd O m (k * c (64 * a + i)))) : wpY_step P (nI m, c, l, O) (nI 1) (nI a) k (nI i) :=
  ry_step ha hl hL hi (by omega) fun bf last _ _ _ => br_f (by decide) (br_t rfl (ry_give hm (br_f (by decide) (br_f (by decide) (br_f (by decide) (br_f (by decide) (br_f (by decide) (br_f (by decide) (br_f (by decide) (br_f (by decide) h))))))))))
theorem ry_s2 {P : SY → Prop} {c l O : Nat → Int32} {a L i m : Nat} {k : Int32} (ha : a < 4) (hl : l a = nI L) (hL : L ≤ 64) (hi : i < L) (hm : m < 64) (h : P (nI (m + 1), c, l, upd O m (c (64 * a + (L - 1 - i))))) : wpY_step P (nI m, c, l, O) (nI 2) (nI a) k (nI i) := by
  refine ry_step ha hl hL hi (by omega) fun bf last _ _ _ => br_f (by decide) (br_f (by decide) (br_t rfl ?_))
  obtain ⟨w, rfl⟩ : ∃ w, L = w + 1 := ⟨L - 1, by omega⟩
  rw [rv_pi, pk_sub (by omega), nI_clamp (by omega)]
  rw [show w + 1 - 1 - i = w - i by omega, ← Nat.add_sub_assoc (by omega)] at h
  exact ⟨vp_in_nI (by omega) (by decide), ry_give hm (br_f (by decide) (br_f (by decide) (br_f (by decide) (br_f (by decide) (br_f (by decide) (br_f (by decide) (br_f (by decide) h)))))))⟩
theorem ry_s4 {P : SY → Prop} {c l O : Nat → Int32} {a L i m : Nat} (ha : a < 4) (hl : l a = nI L) (hL : L ≤ 64) (hi : i < L) {q : Nat} (hq : q ≤ 64) (hm : m < 64) (h : i < q → P (nI (m + 1), c, l, upd O m (c (64 * a + i)))) (hn : q ≤ i → P (nI m, c, l, O)) : wpY_step P (nI m, c, l, O) (nI 4) (nI a) (nI q) (nI i) :=
  ry_step ha hl hL hi (by omega) fun bf last _ _ _ => (br_f (by decide) (br_f (by decide) (br_f (by decide) (br_t rfl (pk_lt i q (fun e => ry_give hm (br_f (by decide) (br_f (by decide) (br_f (by decide) (br_f (by decide) (br_f (by decide) (h e))))))) (fun e => (br_f (by decide) (br_f (by decide) (br_f (by decide) (br_f (by decide) (br_f (by decide) (br_f (by decide) (hn e)))))))))))))
theorem ry_s5 {P : SY → Prop} {c l O : Nat → Int32} {a L i m : Nat} (ha : a < 4) (hl : l a = nI L) (hL : L ≤ 64) (hi : i < L) {q : Nat} (hq : q ≤ 64) (hm : m < 64) (h : q ≤ i → P (nI (m + 1), c, l, upd O m (c (64 * a + i)))) (hn : i < q → P (nI m, c, l, O)) : wpY_step P (nI m, c, l, O) (nI 5) (nI a) (nI q) (nI i) :=
  ry_step ha hl hL hi (by omega) fun bf last _ _ _ => (br_f (by decide) (br_f (by decide) (br_f (by decide) (br_f (by decide) (br_t rfl (pk_lt i q (fun e => (br_f (by decide) (br_f (by decide) (br_f (by decide) (br_f (by decide) (br_f (by decide) (hn e))))))) (fun e => ry_give hm (br_f (by decide) (br_f (by decide) (br_f (by decide) (br_f (by decide) (br_f (by decide) (h e)))))))))))))
theorem ry_s7 {P : SY → Prop} {c l O : Nat → Int32} {a L i m : Nat} {k : Int32} (ha : a < 4) (hl : l a = nI L) (hL : L ≤ 64) (hi : i < L) (hm : m < 64) (x : Int32) (h0 : i = 0 → x = 0) (h1 : ∀ q, i = q + 1 → ∃ w, m = w + 1 ∧ x = O w) (h : P (nI (m + 1), c, l, upd O m (x + c (64 * a + i)))) : wpY_step P (nI m, c, l, O) (nI 7) (nI a) k (nI i) := by
  refine ry_step ha hl hL hi (by omega) fun bf last _ k0 k1 => ?_
  have e : last = x := by
    cases i with
    | zero => rw [k0 rfl, h0 rfl]
    | succ q =>
      obtain ⟨w, e1, e2⟩ := h1 q rfl
      rw [k1 q w rfl e1, e2]
  subst e
  exact (br_f (by decide) (br_f (by decide) (br_f (by decide) (br_f (by decide) (br_f (by decide) (br_t rfl (ry_give hm (br_f (by decide) (br_f (by decide) (br_f (by decide) (br_f (by decide) h)))))))))))
theorem ry_189 {P : SY → Prop} {c l O : Nat → Int32} {m : Nat} {x1 x4 x6 x7 : Int32} (hm : m < 64) (h : wY_step_199 P x1 x4 x6 x7 (nI (m + 1)) c l (upd O m x6)) : wY_step_189 P x1 x4 x6 x7 (nI m) c l O := by
  unfold wY_step_189 wY_step_196
  exact ry_give hm h
theorem ry_s8 {P : SY → Prop} {c l O : Nat → Int32} {a L i m : Nat} {k : Int32} (ha : a < 4) (hl : l a = nI L) (hL : L ≤ 64) (hi : i < L) (hm : m < 64) (h0 : i = 0 → P (nI (m + 1), c, l, upd O m (c (64 * a + i)))) (h1 : ∀ q, i = q + 1 → ∃ w, m = w + 1 ∧ (c (64 * a + i) ≤ O w → P (nI (m + 1), c, l, upd O m (O w))) ∧ (¬ c (64 * a + i) ≤ O w → P (nI (m + 1), c, l, upd O m (c (64 * a + i))))) : wpY_step P (nI m, c, l, O) (nI 8) (nI a) k (nI i) := by
  refine ry_step ha hl hL hi (by omega) fun bf last _ k0 k1 => ?_
  cases i with
  | zero => exact (br_f (by decide) (br_f (by decide) (br_f (by decide) (br_f (by decide) (br_f (by decide) (br_f (by decide) (br_t rfl (br_t rfl (ry_189 hm (br_f (by decide) (br_f (by decide) (br_f (by decide) (h0 rfl)))))))))))))
  | succ q =>
    obtain ⟨w, e1, e2, e3⟩ := h1 q rfl
    have e := k1 q w rfl e1
    subst e
    exact (br_f (by decide) (br_f (by decide) (br_f (by decide) (br_f (by decide) (br_f (by decide) (br_f (by decide) (br_t rfl (br_f (nI_ne0 (by omega) (by omega)) (br_c (fun z => ry_give hm (br_f (by decide) (br_f (by decide) (br_f (by decide) (e2 z))))) (fun z => ry_189 hm (br_f (by decide) (br_f (by decide) (br_f (by decide) (e3 z))))))))))))))
theorem ry_s9 {P : SY → Prop} {c l O : Nat → Int32} {a L i m : Nat} {k : Int32} (ha : a < 4) (hl : l a = nI L) (hL : L ≤ 64) (hi : i < L) (hm : m < 64) (h : ¬ c (64 * a + i) = 0 → P (nI (m + 1), c, l, upd O m (nI i))) (hn : c (64 * a + i) = 0 → P (nI m, c, l, O)) : wpY_step P (nI m, c, l, O) (nI 9) (nI a) k (nI i) :=
  ry_step ha hl hL hi (by omega) fun bf last _ _ _ => (br_f (by decide) (br_f (by decide) (br_f (by decide) (br_f (by decide) (br_f (by decide) (br_f (by decide) (br_f (by decide) (br_t rfl (br_c (fun e => (br_f (by decide) (br_f (by decide) (hn e)))) (fun e => ry_give hm (br_f (by decide) (br_f (by decide) (h e)))))))))))))
theorem ry_s10 {P : SY → Prop} {c l O : Nat → Int32} {a L i m : Nat} {k : Int32} (ha : a < 4) (hl : l a = nI L) (hL : L ≤ 64) (hi : i < L) (hm : m < 64) (h0 : i = 0 → P (nI (m + 1), c, l, upd O m (c (64 * a + i)))) (h : ∀ q, i = q + 1 → ¬ c (64 * a + i) = c (64 * a + q) → P (nI (m + 1), c, l, upd O m (c (64 * a + i)))) (hn : ∀ q, i = q + 1 → c (64 * a + i) = c (64 * a + q) → P (nI m, c, l, O)) : wpY_step P (nI m, c, l, O) (nI 10) (nI a) k (nI i) := by
  refine ry_step ha hl hL hi (by omega) fun bf last kb _ _ => ?_
  cases i with
  | zero => exact (br_f (by decide) (br_f (by decide) (br_f (by decide) (br_f (by decide) (br_f (by decide) (br_f (by decide) (br_f (by decide) (br_f (by decide) (br_t rfl (br_t rfl (ry_give hm (br_f (by decide) (h0 rfl)))))))))))))
  | succ q =>
    have e := kb q rfl
    subst e
    exact (br_f (by decide) (br_f (by decide) (br_f (by decide) (br_f (by decide) (br_f (by decide) (br_f (by decide) (br_f (by decide) (br_f (by decide) (br_t rfl (br_f (nI_ne0 (by omega) (by omega)) (br_c (fun z => (br_f (by decide) (hn q rfl z))) (fun z => ry_give hm (br_f (by decide) (h q rfl z))))))))))))))
theorem ry_s11 {P : SY → Prop} {c l O : Nat → Int32} {a L i m : Nat} {k : Int32} (ha : a < 4) (hl : l a = nI L) (hL : L ≤ 64) (hi : i < L) (hm : m < 64) (h : P (nI (m + 1), c, l, upd O m (rv_df (fun i => c (64 * a + i)) i))) : wpY_step P (nI m, c, l, O) (nI 11) (nI a) k (nI i) := by
  refine ry_step ha hl hL hi (by omega) fun bf last kb _ _ => ?_
  cases i with
  | zero => exact (br_f (by decide) (br_f (by decide) (br_f (by decide) (br_f (by decide) (br_f (by decide) (br_f (by decide) (br_f (by decide) (br_f (by decide) (br_f (by decide) (br_t rfl (br_t rfl (ry_give hm h))))))))))))
  | succ q =>
    have e := kb q rfl
    subst e
    exact (br_f (by decide) (br_f (by decide) (br_f (by decide) (br_f (by decide) (br_f (by decide) (br_f (by decide) (br_f (by decide) (br_f (by decide) (br_f (by decide) (br_t rfl (br_f (nI_ne0 (by omega) (by omega)) (ry_give hm h))))))))))))
end
section
/-! Y: sorted, turned -/
theorem ry_rank {post : Int32 → Prop} {m : Int32} {c l O : Nat → Int32} {a L p : Nat} (ha : a < 4) (hl : l a = nI L) (hL : L ≤ 64) (hp : p < L)
    (h : post (nI (rs_cn (rs_bf (fun i => c (64 * a + i)) p) L))) : wpY_rank post (m, c, l, O) (nI a) (nI p) := by
  refine loop_0 (fun n j (s : Int32) => wY_rank_5 post (nI a) (nI p) m c l O n s (nI j)) (fun j s => s = nI (rs_cn (rs_bf (fun i => c (64 * a + i)) p) j)) L 0 rfl ?_ ?_
  · intro n s e
    subst e
    exact rv_lcT ha hl (by omega) (Nat.le_refl _) h
  · intro n j s hj e hk
    subst e
    refine rv_lcF ha hl hL hj ⟨ry_in ha (by omega), nm_r (ry_rd c ha (by omega)) ⟨ry_in ha (by omega), nm_r (ry_rd c ha (by omega)) ?_⟩⟩
    have ib := rs_bf1 (x := fun i => c (64 * a + i)) (p := p) (j := j)
    refine br_c (fun e1 => rv_inc (rv_inc (hk _ ?_))) (fun e1 => br_c (fun e2 => pk_le p j (fun e3 => rv_inc (hk _ ?_)) (fun e3 => rv_inc (rv_inc (hk _ ?_)))) (fun e2 => rv_inc (hk _ ?_)))
    · rw [rs_cnT (ib.mpr (Or.inl e1))]
    · rw [rs_cnF (fun z => by
        rcases ib.mp z with h1 | ⟨_, h2⟩
        · exact e1 h1
        · omega)]
    · rw [rs_cnT (ib.mpr (Or.inr ⟨e2, e3⟩))]
    · rw [rs_cnF (fun z => by
        rcases ib.mp z with h1 | ⟨h2, _⟩
        · exact e1 h1
        · exact e2 h2)]
theorem ry_sorted {P : SY → Prop} {m : Int32} {c l o : Nat → Int32} {a L : Nat} (ha : a < 4) (hl : l a = nI L) (hL : L ≤ 64)
    (hp : ∀ O, rv_sg (rs_so (fun i => c (64 * a + i)) L) L O → P (nI L, c, l, O)) : wpY_sorted P (m, c, l, o) (nI a) := by
  refine loop_0 (fun n i O => wY_sorted_2 P (nI a) m n (nI i) c l O) (fun i O => ∀ p, p < i → O (rs_cn (rs_bf (fun i => c (64 * a + i)) p) L) = c (64 * a + p)) L o (fun p h => absurd h (Nat.not_lt_zero p)) ?_ ?_
  · intro n O h
    refine rv_lcT ha hl (by omega) (Nat.le_refl _) ⟨rv_v4 ha, nm_r (rv_lv ha hl) (hp O fun q hq => ?_)⟩
    obtain ⟨p, hp1, e1, e2⟩ := rs_soP (fun i => c (64 * a + i)) L q hq
    rw [e2, ← e1]
    exact h p hp1
  · intro n i O hi h hk
    have hr := rs_lt (x := fun i => c (64 * a + i)) hi
    refine rv_lcF ha hl hL hi (ry_rank ha hl hL hi (br_f (nI_ge (b := 64) (by omega) (by decide)) ⟨ry_in ha (by omega), ?_⟩))
    rw [ry_rd c ha (by omega)]
    refine rv_st (by omega) (rv_inc (hk _ (fun p hp1 => ?_)))
    by_cases e : p = i
    · rw [e, pk_us]
    · rw [pk_un (fun z => e (rs_inj (by omega) hi z))]
      exact h p (by omega)
theorem ry_turned {P : SY → Prop} {c l o : Nat → Int32} {a L : Nat} {k : Int32} (ha : a < 4) (hl : l a = nI L) (hL : L ≤ 64)
    (hp : ∀ O, rv_sg (fun j => c (64 * a + (j + rv_sh k L) % L)) L O → P (nI L, c, l, O)) : wpY_turned P (0, c, l, o) (nI a) k := by
  refine ⟨rv_v4 ha, nm_r (rv_lv ha hl) ?_⟩
  refine loop_0 (fun n i (s : Int32 × (Nat → Int32)) => wY_turned_10 P (nI a) k (nI L) n (nI i) s.1 c l s.2) (fun i s => s.1 = nI i ∧ rv_sg (fun j => c (64 * a + (j + rv_sh k L) % L)) i s.2) L (0, o) ⟨rfl, rv_sg0 _ _⟩ ?_ ?_
  · intro n s h
    obtain ⟨m, O⟩ := s
    obtain ⟨h1, h2⟩ := h
    dsimp only at h1 h2
    subst h1
    exact br_t (Int32.le_refl _) (hp O h2)
  · intro n i s hi h hk
    obtain ⟨m, O⟩ := s
    obtain ⟨h1, h2⟩ := h
    dsimp only at h1 h2
    subst h1
    have hlt : (i + rv_sh k L) % L < L := Nat.mod_lt _ (by omega)
    have H : ∀ z : Int64, z.toInt32 = nI ((i + rv_sh k L) % L) → wY_turned_41 P (wY_turned_10 P (nI a) k (nI L) n) (nI a) k (nI L) (nI i) z (nI i) c l O := by
      intro z hz
      unfold wY_turned_41
      rw [hz, ry_rd c ha (by omega)]
      exact ⟨ry_in ha (by omega), ry_give (by omega) (rv_inc (hk (_, _) ⟨rfl, rv_sg1 h2 rfl⟩))⟩
    have hy := rt_y k hi hL
    refine br_f (nI_ge hi (by omega)) ⟨?_, nm_e (br_c (fun z => H _ (hy.1 z)) (fun z => nm_e (H _ (hy.2 z))))⟩
    rw [nI_l (by omega)]
    intro z
    have z2 := (lN_eq (a := L) (b := 0) (by omega) (by omega)).mp z
    omega
/-! Y's change, an operation each -/
theorem ry_chg {post : Int32 → SY → Prop} {c l o : Nat → Int32} {t a p : Nat} {mm k : Int32} (ht : t < 4) (ha : a < 4) (h11 : p ≤ 11) (h4 : p ≠ 4) (h5 : p ≠ 5) (h : wY_change_54 post (nI t) (nI p) (nI a) k mm c l o) : wpY_change post (mm, c, l, o) (nI t) (nI p) (nI a) k := by
  unfold wpY_change
  dsimp only
  exact ry_bad ht (br_t rfl (ry_bad ha (br_t rfl (br_f (nI_pos (by omega)) (br_t (nI_le (b := 11) h11 (by decide)) (pk_eq p 4 (fun e => absurd e h4) (fun _ => pk_eq p 5 (fun e => absurd e h5) (fun _ => h))))))))
theorem ry_chgN {post : Int32 → SY → Prop} {c l o : Nat → Int32} {t a : Nat} {mm op k : Int32} (ht : t < 4) (ha : a < 4) (hop : op < 0 ∨ ¬ op ≤ 11) (h : rv_my post c l t none) : wpY_change post (mm, c, l, o) (nI t) op (nI a) k := by
  unfold wpY_change
  dsimp only
  refine ry_bad ht (br_t rfl (ry_bad ha (br_t rfl ?_)))
  by_cases h0 : op < 0
  · exact br_t h0 (h _ _)
  · exact br_f h0 (br_f (hop.resolve_left h0) (h _ _))
theorem ry_36 {post : Int32 → SY → Prop} {c l o : Nat → Int32} {t a L q : Nat} {mm op : Int32} (ha : a < 4) (hl : l a = nI L) (hL : L ≤ 64) (hq : q ≤ L) (h : wY_change_54 post (nI t) op (nI a) (nI q) mm c l o) : wY_change_36 post (nI t) op (nI a) (nI q) mm c l o := by
  refine br_f (nI_pos (by omega)) ⟨rv_v4 ha, ?_⟩
  rw [rv_lv ha hl]
  exact br_t (nI_le hq (by omega)) h
theorem ry_36N {post : Int32 → SY → Prop} {c l o : Nat → Int32} {t a L : Nat} {mm op k : Int32} (ha : a < 4) (hl : l a = nI L) (hq : k < 0 ∨ ¬ k ≤ nI L) (h : rv_my post c l t none) : wY_change_36 post (nI t) op (nI a) k mm c l o := by
  by_cases h0 : k < 0
  · exact br_t h0 (h _ _)
  · refine br_f h0 ⟨rv_v4 ha, ?_⟩
    rw [rv_lv ha hl]
    exact br_f (hq.resolve_left h0) (h _ _)
theorem ry_chg4 {post : Int32 → SY → Prop} {c l o : Nat → Int32} {t a : Nat} {mm k : Int32} (ht : t < 4) (ha : a < 4) (h : wY_change_36 post (nI t) (nI 4) (nI a) k mm c l o) : wpY_change post (mm, c, l, o) (nI t) (nI 4) (nI a) k := by
  unfold wpY_change
  dsimp only
  exact ry_bad ht (br_t rfl (ry_bad ha (br_t rfl (br_f (by decide) (br_t (by decide) (br_t rfl h))))))
theorem ry_chg5 {post : Int32 → SY → Prop} {c l o : Nat → Int32} {t a : Nat} {mm k : Int32} (ht : t < 4) (ha : a < 4) (h : wY_change_36 post (nI t) (nI 5) (nI a) k mm c l o) : wpY_change post (mm, c, l, o) (nI t) (nI 5) (nI a) k := by
  unfold wpY_change
  dsimp only
  exact ry_bad ht (br_t rfl (ry_bad ha (br_t rfl (br_f (by decide) (br_t (by decide) (br_f (by decide) (br_t rfl h)))))))
theorem ry_c0 {post : Int32 → SY → Prop} {c l o : Nat → Int32} {t a L : Nat} {mm k : Int32} (ht : t < 4) (ha : a < 4) (hl : l a = nI L) (hL : L ≤ 64)
    (hp : rv_my post c l t (some (L, fun j => k + c (64 * a + j)))) : wpY_change post (mm, c, l, o) (nI t) (nI 0) (nI a) k := by
  refine ry_chg ht ha (by decide) (by decide) (by decide) (br_f (by decide) (br_f (by decide) ?_))
  exact ry_91A _ ht ha hl hL (fun i O P hi h hP => ry_s0 ha hl hL hi (by omega) hP) hp
theorem ry_c1 {post : Int32 → SY → Prop} {c l o : Nat → Int32} {t a L : Nat} {mm k : Int32} (ht : t < 4) (ha : a < 4) (hl : l a = nI L) (hL : L ≤ 64)
    (hp : rv_my post c l t (some (L, fun j => k * c (64 * a + j)))) : wpY_change post (mm, c, l, o) (nI t) (nI 1) (nI a) k := by
  refine ry_chg ht ha (by decide) (by decide) (by decide) (br_f (by decide) (br_f (by decide) ?_))
  exact ry_91A _ ht ha hl hL (fun i O P hi h hP => ry_s1 ha hl hL hi (by omega) hP) hp
theorem ry_c2 {post : Int32 → SY → Prop} {c l o : Nat → Int32} {t a L : Nat} {mm k : Int32} (ht : t < 4) (ha : a < 4) (hl : l a = nI L) (hL : L ≤ 64)
    (hp : rv_my post c l t (some (L, fun j => c (64 * a + (L - 1 - j))))) : wpY_change post (mm, c, l, o) (nI t) (nI 2) (nI a) k := by
  refine ry_chg ht ha (by decide) (by decide) (by decide) (br_f (by decide) (br_f (by decide) ?_))
  exact ry_91A _ ht ha hl hL (fun i O P hi h hP => ry_s2 ha hl hL hi (by omega) hP) hp
theorem ry_c11 {post : Int32 → SY → Prop} {c l o : Nat → Int32} {t a L : Nat} {mm k : Int32} (ht : t < 4) (ha : a < 4) (hl : l a = nI L) (hL : L ≤ 64)
    (hp : rv_my post c l t (some (L, rv_df (fun i => c (64 * a + i))))) : wpY_change post (mm, c, l, o) (nI t) (nI 11) (nI a) k := by
  refine ry_chg ht ha (by decide) (by decide) (by decide) (br_f (by decide) (br_f (by decide) ?_))
  exact ry_91A _ ht ha hl hL (fun i O P hi h hP => ry_s11 ha hl hL hi (by omega) hP) hp
theorem ry_c3 {post : Int32 → SY → Prop} {c l o : Nat → Int32} {t a L : Nat} {mm k : Int32} (ht : t < 4) (ha : a < 4) (hl : l a = nI L) (hL : L ≤ 64)
    (hp : rv_my post c l t (some (L, rs_so (fun i => c (64 * a + i)) L))) : wpY_change post (mm, c, l, o) (nI t) (nI 3) (nI a) k := by
  refine ry_chg ht ha (by decide) (by decide) (by decide) (br_t rfl ?_)
  exact ry_sorted ha hl hL (fun O h => ry_118 ht hL h hp)
theorem ry_c6 {post : Int32 → SY → Prop} {c l o : Nat → Int32} {t a L : Nat} {mm k : Int32} (ht : t < 4) (ha : a < 4) (hl : l a = nI L) (hL : L ≤ 64)
    (hp : rv_my post c l t (some (L, fun j => c (64 * a + (j + rv_sh k L) % L)))) : wpY_change post (mm, c, l, o) (nI t) (nI 6) (nI a) k := by
  refine ry_chg ht ha (by decide) (by decide) (by decide) (br_f (by decide) (br_t rfl ?_))
  exact ry_turned ha hl hL (fun O h => ry_118 ht hL h hp)
theorem ry_c7 {post : Int32 → SY → Prop} {c l o : Nat → Int32} {t a L : Nat} {mm k : Int32} (ht : t < 4) (ha : a < 4) (hl : l a = nI L) (hL : L ≤ 64)
    (hp : rv_my post c l t (some (L, fun j => rv_ps (fun i => c (64 * a + i)) (j + 1)))) : wpY_change post (mm, c, l, o) (nI t) (nI 7) (nI a) k := by
  refine ry_chg ht ha (by decide) (by decide) (by decide) (br_f (by decide) (br_f (by decide) ?_))
  refine ry_91A _ ht ha hl hL (fun i O P hi h hP => ry_s7 ha hl hL hi (by omega) (rv_ps (fun i => c (64 * a + i)) i) ?_ ?_ hP) hp
  · intro e
    rw [e]
    rfl
  · intro q e
    exact ⟨q, e, (by rw [h q (by omega), e]; rfl)⟩
theorem ry_c8 {post : Int32 → SY → Prop} {c l o : Nat → Int32} {t a L : Nat} {mm k : Int32} (ht : t < 4) (ha : a < 4) (hl : l a = nI L) (hL : L ≤ 64)
    (hp : rv_my post c l t (some (L, rv_gm (fun i => c (64 * a + i))))) : wpY_change post (mm, c, l, o) (nI t) (nI 8) (nI a) k := by
  refine ry_chg ht ha (by decide) (by decide) (by decide) (br_f (by decide) (br_f (by decide) ?_))
  refine ry_91A _ ht ha hl hL (fun i O P hi h hP => ry_s8 ha hl hL hi (by omega) ?_ ?_) hp
  · intro e
    subst e
    exact hP
  · intro q e
    subst e
    refine ⟨q, rfl, fun z => ?_, fun z => ?_⟩
    · rw [h q (by omega)] at z ⊢
      rwa [rv_gm, if_pos z] at hP
    · rw [h q (by omega)] at z
      rwa [rv_gm, if_neg z] at hP
theorem ry_c9 {post : Int32 → SY → Prop} {c l o : Nat → Int32} {t a L : Nat} {mm k : Int32} (ht : t < 4) (ha : a < 4) (hl : l a = nI L) (hL : L ≤ 64)
    (hp : rv_my post c l t (rv_ol (rv_fl (fun i => decide (¬ c (64 * a + i) = 0)) nI L))) : wpY_change post (mm, c, l, o) (nI t) (nI 9) (nI a) k := by
  refine ry_chg ht ha (by decide) (by decide) (by decide) (br_f (by decide) (br_f (by decide) ?_))
  refine ry_91F _ _ ht ha hl hL (fun i m O P hi hm h hn => ry_s9 ha hl hL hi (by omega) (fun e => h (by simp [e])) (fun e => hn (by simp [e]))) hp
theorem ry_c10 {post : Int32 → SY → Prop} {c l o : Nat → Int32} {t a L : Nat} {mm k : Int32} (ht : t < 4) (ha : a < 4) (hl : l a = nI L) (hL : L ≤ 64)
    (hp : rv_my post c l t (rv_ol (rv_fl (rv_sp (fun i => c (64 * a + i))) (fun i => c (64 * a + i)) L))) : wpY_change post (mm, c, l, o) (nI t) (nI 10) (nI a) k := by
  refine ry_chg ht ha (by decide) (by decide) (by decide) (br_f (by decide) (br_f (by decide) ?_))
  refine ry_91F _ _ ht ha hl hL (fun i m O P hi hm h hn => ry_s10 ha hl hL hi (by omega) (fun e => h (by rw [e]; rfl)) (fun q e z => h ?_) (fun q e z => hn ?_)) hp
  · subst e
    simp [rv_sp, z]
  · subst e
    simp [rv_sp, z]
theorem ry_c4 {post : Int32 → SY → Prop} {c l o : Nat → Int32} {t a L q : Nat} {mm : Int32} (ht : t < 4) (ha : a < 4) (hl : l a = nI L) (hL : L ≤ 64) (hq : q ≤ L)
    (hp : rv_my post c l t (some (q, fun j => c (64 * a + j)))) : wpY_change post (mm, c, l, o) (nI t) (nI 4) (nI a) (nI q) := by
  refine ry_chg4 ht ha (ry_36 ha hl hL hq (br_f (by decide) (br_f (by decide) ?_)))
  refine ry_91 (fun i s => s.1 = nI (min i q) ∧ rv_sg (fun j => c (64 * a + j)) (min i q) s.2) ha hl hL ⟨by rw [Nat.zero_min]; rfl, by rw [Nat.zero_min]; exact rv_sg0 _ _⟩ ?_ ?_
  · intro i s P hi h hk
    obtain ⟨m, O⟩ := s
    obtain ⟨h1, h2⟩ := h
    dsimp only at h1 h2
    subst h1
    refine ry_s4 ha hl hL hi (by omega) (by omega) (fun e => hk (_, _) ?_) (fun e => hk (_, _) ?_)
    · rw [Nat.min_eq_left (by omega)] at h2 ⊢
      rw [Nat.min_eq_left (by omega)]
      exact ⟨rfl, rv_sg1 h2 rfl⟩
    · rw [Nat.min_eq_right (by omega)] at h2 ⊢
      rw [Nat.min_eq_right (by omega)]
      exact ⟨rfl, h2⟩
  · intro s h
    rw [Nat.min_eq_right hq] at h
    rw [h.1]
    exact ry_118 ht (by omega) h.2 hp
theorem ry_c5 {post : Int32 → SY → Prop} {c l o : Nat → Int32} {t a L q : Nat} {mm : Int32} (ht : t < 4) (ha : a < 4) (hl : l a = nI L) (hL : L ≤ 64) (hq : q ≤ L)
    (hp : rv_my post c l t (some (L - q, fun j => c (64 * a + (q + j))))) : wpY_change post (mm, c, l, o) (nI t) (nI 5) (nI a) (nI q) := by
  refine ry_chg5 ht ha (ry_36 ha hl hL hq (br_f (by decide) (br_f (by decide) ?_)))
  refine ry_91 (fun i s => s.1 = nI (i - q) ∧ rv_sg (fun j => c (64 * a + (q + j))) (i - q) s.2) ha hl hL ⟨by rw [Nat.zero_sub]; rfl, by rw [Nat.zero_sub]; exact rv_sg0 _ _⟩ ?_ ?_
  · intro i s P hi h hk
    obtain ⟨m, O⟩ := s
    obtain ⟨h1, h2⟩ := h
    dsimp only at h1 h2
    subst h1
    refine ry_s5 ha hl hL hi (by omega) (by omega) (fun e => hk (_, _) ?_) (fun e => hk (_, _) ?_)
    · rw [show i + 1 - q = i - q + 1 by omega]
      refine ⟨rfl, rv_sg1 h2 ?_⟩
      rw [show q + (i - q) = i by omega]
    · rw [show i - q = i + 1 - q by omega] at h2 ⊢
      exact ⟨rfl, h2⟩
  · intro s h
    rw [h.1]
    exact ry_118 ht (show L - q ≤ 64 by omega) h.2 hp
/-! both sides -/
theorem rv_chg {k : Nat} {c l r o : Nat → Int32} {mm op kk : Int32} {L : Nat → Nat} {t a : Nat} (h : ∀ t, t < 4 → l t = nI (L t) ∧ L t ≤ 64) (ht : t < 4) (ha : a < 4) (e : Option (Nat × (Nat → Int32)))
    (hX : ∀ post, rv_mk post c l e → wpX_makeChanged post (c, l, r) op (nI a) kk) (hY : ∀ post, rv_my post c l t e → wpY_change post (mm, c, l, o) (nI t) op (nI a) kk) :
    wpX_change (fun r u' => wpY_change (fun r' v' => r' = r ∧ i_Rel (k + 5) u' v') (mm, c, l, o) (nI t) op (nI a) kk) (c, l, r) (nI t) op (nI a) kk := by
  unfold wpX_change
  dsimp only
  refine rx_isV ht (br_f (by decide) (rx_isV ha (br_f (by decide) (hX _ ?_))))
  cases e with
  | none => exact fun R => rx_storeN (hY _ (fun m O => ⟨rfl, rv_rel h⟩))
  | some e =>
    intro R h6 hR
    refine rx_store ht h6 ?_
    rw [rv_stcE hR]
    exact hY _ (fun O => ⟨rfl, rv_relU h h6⟩)
theorem rv_mkE {post : Int32 → SX → Prop} {c l : Nat → Int32} {e : Option (Nat × (Nat → Int32))} (h : rv_mk post c l e) : rv_mk (fun r u => match u with | (x, y, z) => post r (x, y, z)) c l e := by
  cases e with
  | none => exact h
  | some e => exact h
theorem rx_chgN {post : Int32 → SX → Prop} {c l r : Nat → Int32} {op x k : Int32} (hop : op < 0 ∨ ¬ op ≤ 11) (h : rv_mk post c l none) : wpX_makeChanged post (c, l, r) op x k := by
  by_cases h0 : op < 0
  · exact br_t h0 (h r)
  · exact br_f h0 (br_t (Int32.not_le.mp (hop.resolve_left h0)) (h r))
theorem i_vc_change {k : Nat} {u : SX} {v : SY} (I : i_Rel k u v) (hk : k + 5 ≤ 2560) (v1 : Int32) (v2 : Int32) (v3 : Int32) (v4 : Int32) : wpX_change (fun r u' => wpY_change (fun r' v' => r' = r ∧ i_Rel (k + 5) u' v') v v1 v2 v3 v4) u v1 v2 v3 v4 := by
  obtain ⟨c, l, r, o, m, L, rfl, rfl, h⟩ := I
  rcases rv_vec v1 with hb | ⟨t, ht, rfl⟩
  · unfold wpX_change wpY_change
    dsimp only
    exact rx_isVn hb (br_t rfl (ry_badn hb (br_f (by decide) ⟨rfl, rv_rel h⟩)))
  rcases rv_vec v3 with hb | ⟨a, ha, rfl⟩
  · unfold wpX_change wpY_change
    dsimp only
    exact rx_isV ht (br_f (by decide) (rx_isVn hb (br_t rfl (ry_bad ht (br_t rfl (ry_badn hb (br_f (by decide) ⟨rfl, rv_rel h⟩)))))))
  obtain ⟨hl, hL⟩ := h a ha
  by_cases hop : v2 < 0 ∨ ¬ v2 ≤ 11
  · exact rv_chg h ht ha none (fun post hp => rx_chgN hop hp) (fun post hp => ry_chgN ht ha hop hp)
  have hn0 : ¬ v2 < 0 := fun z => hop (Or.inl z)
  have hn1 : v2 ≤ 11 := by
    by_cases z : v2 ≤ 11
    · exact z
    · exact absurd (Or.inr z) hop
  obtain ⟨p, hp11, rfl⟩ := nI_of2 (n := 11) (by decide) hn0 hn1
  match p, hp11 with
  | 0, _ => exact rv_chg h ht ha _ (fun post hp => (br_f (by decide) (br_f (by decide) (br_t rfl (rx_makeRaised ha hl hL (rv_mkE hp)))))) (fun post hp => ry_c0 ht ha hl hL hp)
  | 1, _ => exact rv_chg h ht ha _ (fun post hp => (br_f (by decide) (br_f (by decide) (br_f (by decide) (br_t rfl (rx_makeMultiplied ha hl hL (rv_mkE hp))))))) (fun post hp => ry_c1 ht ha hl hL hp)
  | 2, _ => exact rv_chg h ht ha _ (fun post hp => (br_f (by decide) (br_f (by decide) (br_f (by decide) (br_f (by decide) (br_t rfl (rx_makeReversed ha hl hL (rv_mkE hp)))))))) (fun post hp => ry_c2 ht ha hl hL hp)
  | 3, _ => exact rv_chg h ht ha _ (fun post hp => (br_f (by decide) (br_f (by decide) (br_f (by decide) (br_f (by decide) (br_f (by decide) (br_t rfl (rx_makeSorted ha hl hL (rv_mkE hp))))))))) (fun post hp => ry_c3 ht ha hl hL hp)
  | 4, _ =>
    by_cases hq : v4 < 0 ∨ ¬ v4 ≤ nI (L a)
    · exact rv_chg h ht ha none (fun post hp => (br_f (by decide) (br_f (by decide) (br_f (by decide) (br_f (by decide) (br_f (by decide) (br_f (by decide) (br_t rfl (rx_makeFirstN ha hl hq (rv_mkE hp)))))))))) (fun post hp => ry_chg4 ht ha (ry_36N ha hl hq hp))
    · have hq0 : ¬ v4 < 0 := fun z => hq (Or.inl z)
      obtain ⟨q, hq1, rfl⟩ := nI_of hq0
      have hq2 : q ≤ L a := by
        by_cases z : q ≤ L a
        · exact z
        · exact absurd (Or.inr (nI_ge (by omega) hq1)) hq
      exact rv_chg h ht ha _ (fun post hp => (br_f (by decide) (br_f (by decide) (br_f (by decide) (br_f (by decide) (br_f (by decide) (br_f (by decide) (br_t rfl (rx_makeFirst ha hl hL hq2 (rv_mkE hp)))))))))) (fun post hp => ry_c4 ht ha hl hL hq2 hp)
  | 5, _ =>
    by_cases hq : v4 < 0 ∨ ¬ v4 ≤ nI (L a)
    · exact rv_chg h ht ha none (fun post hp => (br_f (by decide) (br_f (by decide) (br_f (by decide) (br_f (by decide) (br_f (by decide) (br_f (by decide) (br_f (by decide) (br_t rfl (rx_makeWithoutFirstN ha hl hq (rv_mkE hp))))))))))) (fun post hp => ry_chg5 ht ha (ry_36N ha hl hq hp))
    · have hq0 : ¬ v4 < 0 := fun z => hq (Or.inl z)
      obtain ⟨q, hq1, rfl⟩ := nI_of hq0
      have hq2 : q ≤ L a := by
        by_cases z : q ≤ L a
        · exact z
        · exact absurd (Or.inr (nI_ge (by omega) hq1)) hq
      exact rv_chg h ht ha _ (fun post hp => (br_f (by decide) (br_f (by decide) (br_f (by decide) (br_f (by decide) (br_f (by decide) (br_f (by decide) (br_f (by decide) (br_t rfl (rx_makeWithoutFirst ha hl hL hq2 (rv_mkE hp))))))))))) (fun post hp => ry_c5 ht ha hl hL hq2 hp)
  | 6, _ => exact rv_chg h ht ha _ (fun post hp => (br_f (by decide) (br_f (by decide) (br_f (by decide) (br_f (by decide) (br_f (by decide) (br_f (by decide) (br_f (by decide) (br_f (by decide) (br_t rfl (rx_makeTurned ha hl hL (rv_mkE hp)))))))))))) (fun post hp => ry_c6 ht ha hl hL hp)
  | 7, _ => exact rv_chg h ht ha _ (fun post hp => (br_f (by decide) (br_f (by decide) (br_f (by decide) (br_f (by decide) (br_f (by decide) (br_f (by decide) (br_f (by decide) (br_f (by decide) (br_f (by decide) (br_t rfl (rx_makeRunningSums ha hl hL (rv_mkE hp))))))))))))) (fun post hp => ry_c7 ht ha hl hL hp)
  | 8, _ => exact rv_chg h ht ha _ (fun post hp => (br_f (by decide) (br_f (by decide) (br_f (by decide) (br_f (by decide) (br_f (by decide) (br_f (by decide) (br_f (by decide) (br_f (by decide) (br_f (by decide) (br_f (by decide) (br_t rfl (rx_makeRunningGreatest ha hl hL (rv_mkE hp)))))))))))))) (fun post hp => ry_c8 ht ha hl hL hp)
  | 9, _ => exact rv_chg h ht ha _ (fun post hp => (br_f (by decide) (br_f (by decide) (br_f (by decide) (br_f (by decide) (br_f (by decide) (br_f (by decide) (br_f (by decide) (br_f (by decide) (br_f (by decide) (br_f (by decide) (br_f (by decide) (br_t rfl (rx_makePlaces ha hl hL (rv_mkE hp))))))))))))))) (fun post hp => ry_c9 ht ha hl hL hp)
  | 10, _ => exact rv_chg h ht ha _ (fun post hp => (br_f (by decide) (br_f (by decide) (br_f (by decide) (br_f (by decide) (br_f (by decide) (br_f (by decide) (br_f (by decide) (br_f (by decide) (br_f (by decide) (br_f (by decide) (br_f (by decide) (br_f (by decide) (br_t rfl (rx_makeSteps ha hl hL (rv_mkE hp)))))))))))))))) (fun post hp => ry_c10 ht ha hl hL hp)
  | 11, _ => exact rv_chg h ht ha _ (fun post hp => (br_f (by decide) (br_f (by decide) (br_f (by decide) (br_f (by decide) (br_f (by decide) (br_f (by decide) (br_f (by decide) (br_f (by decide) (br_f (by decide) (br_f (by decide) (br_f (by decide) (br_f (by decide) (br_f (by decide) (br_t rfl (rx_makeDifferences ha hl hL (rv_mkE hp))))))))))))))))) (fun post hp => ry_c11 ht ha hl hL hp)
end
section
/-! Y: the loop over pairs -/
theorem ry_66 {post : Int32 → SY → Prop} {c l o : Nat → Int32} {t a b L p : Nat} (I : Nat → Int32 × (Nat → Int32) → Prop) (hp8 : p ≤ 8) (ha : a < 4) (hb : b < 4) (hl : l a = nI L) (hL : L ≤ 64) (h0 : I 0 (0, o))
    (hs : ∀ (i : Nat) (s : Int32 × (Nat → Int32)) (P : SY → Prop), i < L → I i s → (∀ s', I (i + 1) s' → P (s'.1, c, l, s'.2)) → wpY_pair P (s.1, c, l, s.2) (nI p) (c (64 * a + i)) (c (64 * b + i)))
    (he : ∀ s, I L s → wY_combine_212 post (nI t) s.1 c l s.2) : ∃ n, wY_combine_66 post (nI t) (nI p) (nI a) (nI b) n 0 0 c l o := by
  have h9 : ¬ nI p = 9 := fun z => by
    have := (nI_eq (b := 9) (by omega) (by omega)).mp z; omega
  have h10 : ¬ nI p = 10 := fun z => by
    have := (nI_eq (b := 10) (by omega) (by omega)).mp z; omega
  refine loop_0 (fun n i (s : Int32 × (Nat → Int32)) => wY_combine_66 post (nI t) (nI p) (nI a) (nI b) n (nI i) s.1 c l s.2) I L (0, o) h0 ?_ ?_
  · intro n s h
    have H := he s h
    refine rv_lcT ha hl (by omega) (Nat.le_refl _) (br_f h9 ⟨1, rv_v4 hb, ?_⟩)
    exact br_c (fun _ => H) (fun _ => br_f h10 H)
  · intro n i s hi h hk
    refine rv_lcF ha hl hL hi (br_f (nI_nlt (a := 8) (by omega) (by decide)) ⟨ry_in ha (by omega), ry_in hb (by omega), ?_⟩)
    rw [ry_rd c ha (by omega), ry_rd c hb (by omega)]
    exact hs i s _ hi h (fun s' h' => rv_inc (hk s' h'))
theorem ry_53n {P : SY → Prop} {c l O : Nat → Int32} {m op x y : Int32} (h8 : ¬ op = 8) (h : P (m, c, l, O)) : wY_pair_35 P op x y m c l O := br_f h8 (br_f h8 h)
theorem ry_pairA {P : SY → Prop} {c l O : Nat → Int32} {m p : Nat} {x y : Int32} (hp6 : p ≤ 6) (hm : m < 64) (h : P (nI (m + 1), c, l, upd O m (rv_wk p x y))) : wpY_pair P (nI m, c, l, O) (nI p) x y := by
  have h7 : ¬ nI p = 7 := fun z => by
    have := (nI_eq (b := 7) (by omega) (by omega)).mp z; omega
  have h8 : ¬ nI p = 8 := fun z => by
    have := (nI_eq (b := 8) (by omega) (by omega)).mp z; omega
  unfold wpY_pair
  dsimp only
  exact br_f (nI_nlt (a := 6) hp6 (by decide)) (ry_worked hp6 (ry_give hm (br_f h7 (ry_53n h8 h))))
theorem ry_pair7 {P : SY → Prop} {c l O : Nat → Int32} {m : Nat} {x y : Int32} (hm : m < 64) (h : ¬ y = 0 → P (nI (m + 1), c, l, upd O m x)) (hn : y = 0 → P (nI m, c, l, O)) : wpY_pair P (nI m, c, l, O) (nI 7) x y := by
  unfold wpY_pair
  dsimp only
  exact br_t (by decide) (br_t rfl (br_c (fun e => ry_53n (by decide) (hn e)) (fun e => ry_give hm (ry_53n (by decide) (h e)))))
/-! gives beyond the 64th cell -/
theorem rv_gdA {ls : List Int32} {x : Int32} {j : Nat} (h : j < ls.length) : rv_gd (ls ++ [x]) j = rv_gd ls j := by
  simp [rv_gd, List.getD_eq_getElem?_getD, List.getElem?_append, h]
theorem rv_gdE {ls : List Int32} {x : Int32} : rv_gd (ls ++ [x]) ls.length = x := by
  simp [rv_gd, List.getD_eq_getElem?_getD]
theorem ry_giveG {P : SY → Prop} {c l O f : Nat → Int32} {m : Nat} {x : Int32} (hm : m < 1000) (h : rv_sg f (min m 64) O) (hx : x = f m) (hp : ∀ O', rv_sg f (min (m + 1) 64) O' → P (nI (m + 1), c, l, O')) : wpY_give P (nI m, c, l, O) x := by
  by_cases h6 : m < 64
  · refine ry_give h6 (hp _ ?_)
    rw [Nat.min_eq_left (by omega)] at h ⊢
    exact rv_sg1 h hx
  · refine ry_giveN (by omega) hm (hp _ ?_)
    rw [Nat.min_eq_right (by omega)] at h ⊢
    exact h
theorem ry_giveL {P : SY → Prop} {c l O : Nat → Int32} {ls : List Int32} {x : Int32} (hm : ls.length < 1000) (h : rv_sg (rv_gd ls) (min ls.length 64) O) (hp : ∀ O', rv_sg (rv_gd (ls ++ [x])) (min (ls.length + 1) 64) O' → P (nI (ls.length + 1), c, l, O')) : wpY_give P (nI ls.length, c, l, O) x :=
  ry_giveG hm (fun j hj => by rw [h j hj, rv_gdA (by omega)]) rv_gdE.symm hp
/-- Y's repeats of x -/
theorem ry_71 {P : SY → Prop} {c l O : Nat → Int32} {ls : List Int32} {x y : Int32} (hls : ls.length ≤ 64) (hy : y.toNatClampNeg ≤ 64) (h : rv_sg (rv_gd ls) ls.length O)
    (hp : ∀ O', rv_sg (rv_gd (ls ++ List.replicate y.toNatClampNeg x)) (min (ls.length + y.toNatClampNeg) 64) O' → P (nI (ls.length + y.toNatClampNeg), c, l, O')) : ∃ n, wY_pair_71 P x y n 0 (nI ls.length) c l O := by
  refine loop_0 (fun n j (s : Int32 × (Nat → Int32)) => wY_pair_71 P x y n (nI j) s.1 c l s.2) (fun j s => s.1 = nI (ls.length + j) ∧ rv_sg (rv_gd (ls ++ List.replicate j x)) (min (ls.length + j) 64) s.2) y.toNatClampNeg (nI ls.length, O) ⟨rfl, ?_⟩ ?_ ?_
  · rw [List.replicate_zero, List.append_nil, Nat.add_zero, Nat.min_eq_left hls]
    exact h
  · intro n s h
    obtain ⟨m, R⟩ := s
    obtain ⟨h1, h2⟩ := h
    dsimp only at h1 h2
    subst h1
    exact br_t ((rv_cle _ (by omega)).mpr (Nat.le_refl _)) (hp R h2)
  · intro n j s hj h hk
    obtain ⟨m, R⟩ := s
    obtain ⟨h1, h2⟩ := h
    dsimp only at h1 h2
    subst h1
    refine br_f (fun z => ?_) ?_
    · rw [rv_cle _ (by omega)] at z; omega
    · have hlen := rv_rpl (ls := ls) (x := x) (j := j)
      rw [← hlen] at h2 ⊢
      refine ry_giveL (by omega) h2 (fun O' h' => rv_inc (hk (_, O') ⟨?_, ?_⟩))
      · rw [hlen]; rfl
      · rw [rv_rps, ← Nat.add_assoc, ← hlen]
        exact h'
theorem ry_pair8 {P : SY → Prop} {c l O : Nat → Int32} {ls : List Int32} {x y : Int32} (hls : ls.length ≤ 64) (h : rv_sg (rv_gd ls) ls.length O)
    (hp : ls.length + y.toNatClampNeg ≤ 64 → ∀ O', rv_sg (rv_gd (ls ++ List.replicate y.toNatClampNeg x)) (ls.length + y.toNatClampNeg) O' → P (nI (ls.length + y.toNatClampNeg), c, l, O'))
    (hn : 64 < ls.length + y.toNatClampNeg → ∀ w O', 64 < w → w < 1000 → P (nI w, c, l, O')) : wpY_pair P (nI ls.length, c, l, O) (nI 8) x y := by
  unfold wpY_pair
  dsimp only
  refine br_t (by decide) (br_f (by decide) (br_t rfl (br_c (fun e => ?_) (fun e => ?_))))
  · have e' := (rv_cle y (b := 64) (by decide)).mp e
    refine br_t rfl (br_f (nI_nlt (a := 64) hls (by decide)) (ry_71 hls e' h (fun O' h' => ?_)))
    by_cases z : ls.length + y.toNatClampNeg ≤ 64
    · rw [Nat.min_eq_left z] at h'
      exact hp z O' h'
    · exact hn (by omega) _ O' (by omega) (by omega)
  · have e' : ¬ y.toNatClampNeg ≤ 64 := fun z => e ((rv_cle y (b := 64) (by decide)).mpr z)
    exact br_t rfl (br_t (by decide) (hn (by omega) 65 O (by decide) (by decide)))
theorem ry_pair8o {P : SY → Prop} {c l O : Nat → Int32} {w : Nat} {x y : Int32} (hw : 64 < w) (hw2 : w < 1000) (hn : ∀ w O', 64 < w → w < 1000 → P (nI w, c, l, O')) : wpY_pair P (nI w, c, l, O) (nI 8) x y := by
  unfold wpY_pair
  dsimp only
  refine br_t (by decide) (br_f (by decide) (br_t rfl (br_c (fun e => ?_) (fun e => ?_))))
  · exact br_t rfl (br_t (nI_lt (a := 64) hw (by omega)) (hn w O hw hw2))
  · exact br_t rfl (br_t (by decide) (hn 65 O (by decide) (by decide)))
/-! Y: join -/
theorem ry_join {P : SY → Prop} {c l O f : Nat → Int32} {a L m : Nat} (ha : a < 4) (hl : l a = nI L) (hL : L ≤ 64) (hm : m ≤ 64) (hf : ∀ i, i < L → c (64 * a + i) = f (m + i)) (h : rv_sg f (min m 64) O)
    (hp : ∀ O', rv_sg f (min (m + L) 64) O' → P (nI (m + L), c, l, O')) : wpY_join P (nI m, c, l, O) (nI a) := by
  refine loop_0 (fun n i (s : Int32 × (Nat → Int32)) => wY_join_2 P (nI a) n (nI i) s.1 c l s.2) (fun i s => s.1 = nI (m + i) ∧ rv_sg f (min (m + i) 64) s.2) L (nI m, O) ⟨rfl, h⟩ ?_ ?_
  · intro n s h
    obtain ⟨q, R⟩ := s
    obtain ⟨h1, h2⟩ := h
    dsimp only at h1 h2
    subst h1
    exact rv_lcT ha hl (by omega) (Nat.le_refl _) (hp R h2)
  · intro n i s hi h hk
    obtain ⟨q, R⟩ := s
    obtain ⟨h1, h2⟩ := h
    dsimp only at h1 h2
    subst h1
    refine rv_lcF ha hl hL hi ⟨ry_in ha (by omega), ?_⟩
    rw [ry_rd c ha (by omega)]
    exact ry_giveG (by omega) h2 (hf i hi) (fun O' h' => rv_inc (hk (_, O') ⟨rfl, h'⟩))
end
section
/-! Y's combine, an operation each -/
theorem ry_cmbN {post : Int32 → SY → Prop} {c l o : Nat → Int32} {t a b : Nat} {mm op : Int32} (ht : t < 4) (ha : a < 4) (hb : b < 4) (hop : op < 0 ∨ ¬ op ≤ 10) (h : rv_my post c l t none) : wpY_combine post (mm, c, l, o) (nI t) op (nI a) (nI b) := by
  unfold wpY_combine
  dsimp only
  refine ry_bad ht (br_t rfl (ry_bad ha (br_t rfl (ry_bad hb (br_t rfl ?_)))))
  by_cases h0 : op < 0
  · exact br_t h0 (h _ _)
  · exact br_f h0 (br_f (hop.resolve_left h0) (h _ _))
theorem ry_cmbL {post : Int32 → SY → Prop} {c l o : Nat → Int32} {t a b p : Nat} {mm : Int32} (ht : t < 4) (ha : a < 4) (hb : b < 4) (hp8 : p ≤ 8) (he : l a = l b → ∃ n, wY_combine_66 post (nI t) (nI p) (nI a) (nI b) n 0 0 c l o) (hn : ¬ l a = l b → rv_my post c l t none) : wpY_combine post (mm, c, l, o) (nI t) (nI p) (nI a) (nI b) := by
  unfold wpY_combine
  dsimp only
  refine ry_bad ht (br_t rfl (ry_bad ha (br_t rfl (ry_bad hb (br_t rfl (br_f (nI_pos (by omega)) (br_t (nI_le (b := 10) (by omega) (by decide)) (br_f (nI_nlt (a := 8) hp8 (by decide)) ⟨rv_v4 ha, rv_v4 hb, ?_⟩))))))))
  rw [nI_clamp (by omega), nI_clamp (by omega)]
  exact br_c he (fun z => hn z _ _)
theorem ry_cmbH {post : Int32 → SY → Prop} {c l o : Nat → Int32} {t a b A p : Nat} {mm : Int32} (ht : t < 4) (ha : a < 4) (hb : b < 4) (hl : l a = nI A) (hA : A ≤ 64) (hp8 : 8 < p) (hp10 : p ≤ 10) (h : wY_combine_119 post (nI t) (nI p) (nI a) (nI b) 0 c l o) : wpY_combine post (mm, c, l, o) (nI t) (nI p) (nI a) (nI b) := by
  unfold wpY_combine
  dsimp only
  refine ry_bad ht (br_t rfl (ry_bad ha (br_t rfl (ry_bad hb (br_t rfl (br_f (nI_pos (by omega)) (br_t (nI_le (b := 10) (by omega) (by decide)) (br_t (nI_lt (a := 8) hp8 (by omega)) ⟨1, ?_⟩))))))))
  exact ⟨rv_v4 ha, br_c (fun _ => h) (fun _ => br_t (nI_lt (a := 8) hp8 (by omega)) h)⟩
theorem ry_dA {post : Int32 → SY → Prop} {c l o : Nat → Int32} {t a b A p : Nat} {mm : Int32} (hp6 : p ≤ 6) (ht : t < 4) (ha : a < 4) (hb : b < 4) (hl : l a = nI A) (hA : A ≤ 64) (hm : l b = nI A)
    (hp : rv_my post c l t (some (A, fun j => rv_wk p (c (64 * a + j)) (c (64 * b + j))))) : wpY_combine post (mm, c, l, o) (nI t) (nI p) (nI a) (nI b) := by
  refine ry_cmbL ht ha hb (by omega) (fun _ => ?_) (fun z => absurd (hl.trans hm.symm) z)
  refine ry_66 (fun i s => s.1 = nI i ∧ rv_sg (fun j => rv_wk p (c (64 * a + j)) (c (64 * b + j))) i s.2) (by omega) ha hb hl hA ⟨rfl, rv_sg0 _ _⟩ ?_ ?_
  · intro i s P hi h hk
    obtain ⟨m, O⟩ := s
    obtain ⟨h1, h2⟩ := h
    dsimp only at h1 h2
    subst h1
    exact ry_pairA hp6 (by omega) (hk (_, _) ⟨rfl, rv_sg1 h2 rfl⟩)
  · intro s h
    rw [h.1]
    exact ry_212 ht hA h.2 hp
theorem ry_d7 {post : Int32 → SY → Prop} {c l o : Nat → Int32} {t a b A : Nat} {mm : Int32} (ht : t < 4) (ha : a < 4) (hb : b < 4) (hl : l a = nI A) (hA : A ≤ 64) (hm : l b = nI A)
    (hp : rv_my post c l t (rv_ol (rv_fl (fun i => decide (¬ c (64 * b + i) = 0)) (fun i => c (64 * a + i)) A))) : wpY_combine post (mm, c, l, o) (nI t) (nI 7) (nI a) (nI b) := by
  refine ry_cmbL ht ha hb (by decide) (fun _ => ?_) (fun z => absurd (hl.trans hm.symm) z)
  refine ry_66 (fun i s => rv_li (rv_fl (fun i => decide (¬ c (64 * b + i) = 0)) (fun i => c (64 * a + i)) i) s) (by decide) ha hb hl hA (rv_li0 _) ?_ ?_
  · intro i s P hi h hk
    obtain ⟨m, O⟩ := s
    obtain ⟨h1, h2⟩ := h
    dsimp only at h1 h2
    subst h1
    have hlen := rv_flL (fun i => decide (¬ c (64 * b + i) = 0)) (fun i => c (64 * a + i)) i
    exact ry_pair7 (by omega) (fun e => hk (_, _) (rv_liT (by simp [e]) h2)) (fun e => hk (_, _) (rv_liF (by simp [e]) h2))
  · intro s h
    rw [h.1]
    exact ry_212 ht (Nat.le_trans (rv_flL _ _ _) hA) h.2 hp
theorem ry_d8 {post : Int32 → SY → Prop} {c l o : Nat → Int32} {t a b A : Nat} {mm : Int32} (ht : t < 4) (ha : a < 4) (hb : b < 4) (hl : l a = nI A) (hA : A ≤ 64) (hm : l b = nI A)
    (hp : (rv_rp (fun i => (c (64 * b + i)).toNatClampNeg) (fun i => c (64 * a + i)) A).length ≤ 64 → rv_my post c l t (rv_ol (rv_rp (fun i => (c (64 * b + i)).toNatClampNeg) (fun i => c (64 * a + i)) A)))
    (hn : 64 < (rv_rp (fun i => (c (64 * b + i)).toNatClampNeg) (fun i => c (64 * a + i)) A).length → rv_my post c l t none) : wpY_combine post (mm, c, l, o) (nI t) (nI 8) (nI a) (nI b) := by
  refine ry_cmbL ht ha hb (by decide) (fun _ => ?_) (fun z => absurd (hl.trans hm.symm) z)
  refine ry_66 (fun i s => ((rv_rp (fun i => (c (64 * b + i)).toNatClampNeg) (fun i => c (64 * a + i)) i).length ≤ 64 ∧ rv_li (rv_rp (fun i => (c (64 * b + i)).toNatClampNeg) (fun i => c (64 * a + i)) i) s) ∨ (64 < (rv_rp (fun i => (c (64 * b + i)).toNatClampNeg) (fun i => c (64 * a + i)) i).length ∧ ∃ w, 64 < w ∧ w < 1000 ∧ s.1 = nI w)) (by decide) ha hb hl hA (Or.inl ⟨Nat.zero_le 64, rv_li0 _⟩) ?_ ?_
  · intro i s P hi h hk
    obtain ⟨m, O⟩ := s
    have e1 := rv_rp1 (fun i => (c (64 * b + i)).toNatClampNeg) (fun i => c (64 * a + i)) i
    have e2 : rv_rp (fun i => (c (64 * b + i)).toNatClampNeg) (fun i => c (64 * a + i)) (i + 1) = rv_rp (fun i => (c (64 * b + i)).toNatClampNeg) (fun i => c (64 * a + i)) i ++ List.replicate (c (64 * b + i)).toNatClampNeg (c (64 * a + i)) := rfl
    rcases h with ⟨h6, h1, h2⟩ | ⟨h6, w, hw, hw2, h1⟩
    · dsimp only at h1 h2
      subst h1
      refine ry_pair8 h6 h2 (fun z O' h' => hk (_, O') (Or.inl ⟨by omega, ?_⟩)) (fun z w O' hw hw2 => hk (_, O') (Or.inr ⟨by omega, w, hw, hw2, rfl⟩))
      rw [e2]
      refine ⟨by rw [rv_rpl]; rfl, ?_⟩
      rw [rv_rpl]
      exact h'
    · dsimp only at h1
      subst h1
      exact ry_pair8o hw hw2 (fun w O' hw hw2 => hk (_, O') (Or.inr ⟨by omega, w, hw, hw2, rfl⟩))
  · intro s h
    rcases h with ⟨h6, h1, h2⟩ | ⟨h6, w, hw, hw2, h1⟩
    · rw [h1]
      exact ry_212 ht h6 h2 (hp h6)
    · rw [h1]
      exact ry_212N hw hw2 (hn h6)
theorem ry_d9 {post : Int32 → SY → Prop} {c l o : Nat → Int32} {t a b A B : Nat} {mm : Int32} (ht : t < 4) (ha : a < 4) (hb : b < 4) (hl : l a = nI A) (hA : A ≤ 64) (hm : l b = nI B) (hB : B ≤ 64)
    (hp : A + B ≤ 64 → rv_my post c l t (some (A + B, fun j => if j < A then c (64 * a + j) else c (64 * b + (j - A)))))
    (hn : 64 < A + B → rv_my post c l t none) : wpY_combine post (mm, c, l, o) (nI t) (nI 9) (nI a) (nI b) := by
  refine ry_cmbH ht ha hb hl hA (by decide) (by decide) (br_t rfl ?_)
  refine ry_join (m := 0) (f := fun j => if j < A then c (64 * a + j) else c (64 * b + (j - A))) ha hl hA (by decide) (fun i hi => ?_) (rv_sg0 _ _) (fun O1 h1 => ?_)
  · rw [Nat.zero_add, if_pos hi]
  rw [Nat.zero_add] at h1 ⊢
  refine ry_join (m := A) (f := fun j => if j < A then c (64 * a + j) else c (64 * b + (j - A))) hb hm hB hA (fun i hi => ?_) h1 (fun O2 h2 => ?_)
  · rw [if_neg (by omega), Nat.add_sub_cancel_left]
  have H : wY_combine_212 post (nI t) (nI (A + B)) c l O2 := by
    by_cases z : A + B ≤ 64
    · rw [Nat.min_eq_left z] at h2
      exact ry_212 ht z h2 (hp z)
    · exact ry_212N (by omega) (by omega) (hn (by omega))
  exact ⟨1, rv_v4 hb, br_c (fun _ => H) (fun _ => br_f (by decide) H)⟩
theorem ry_d10 {post : Int32 → SY → Prop} {c l o : Nat → Int32} {t a b A B : Nat} {mm : Int32} (ht : t < 4) (ha : a < 4) (hb : b < 4) (hl : l a = nI A) (hA : A ≤ 64) (hm : l b = nI B) (hB : B ≤ 64)
    (hp : (∀ j, j < B → rv_ok A (c (64 * b + j))) → rv_my post c l t (some (B, fun j => c (64 * a + (c (64 * b + j)).toNatClampNeg))))
    (hn : (¬ ∀ j, j < B → rv_ok A (c (64 * b + j))) → rv_my post c l t none) : wpY_combine post (mm, c, l, o) (nI t) (nI 10) (nI a) (nI b) := by
  refine ry_cmbH ht ha hb hl hA (by decide) (by decide) (br_f (by decide) ?_)
  refine loop_0 (fun n i (s : Int32 × (Nat → Int32)) => wY_combine_139 post (nI t) (nI 10) (nI a) (nI b) n (nI i) s.1 c l s.2) (fun i s => (∀ j, j < i → rv_ok A (c (64 * b + j))) ∧ s.1 = nI i ∧ rv_sg (fun j => c (64 * a + (c (64 * b + j)).toNatClampNeg)) i s.2) B (0, o) ⟨fun j h => absurd h (Nat.not_lt_zero j), rfl, rv_sg0 _ _⟩ ?_ ?_
  · intro n s h
    obtain ⟨m, O⟩ := s
    obtain ⟨h0, h1, h2⟩ := h
    dsimp only at h1 h2
    subst h1
    exact rv_lcT hb hm (by omega) (Nat.le_refl _) (ry_212 ht hB h2 (hp h0))
  · intro n i s hi h hk
    obtain ⟨m, O⟩ := s
    obtain ⟨h0, h1, h2⟩ := h
    dsimp only at h1 h2
    subst h1
    refine rv_lcF hb hm hB hi (br_t rfl ⟨ry_in hb (by omega), nm_r (ry_rd c hb (by omega)) ?_⟩)
    by_cases ok : rv_ok A (c (64 * b + i))
    · have hk' := hk (nI (i + 1), upd O i (c (64 * a + (c (64 * b + i)).toNatClampNeg))) ⟨lt_s h0 ok, rfl, rv_sg1 h2 rfl⟩
      obtain ⟨j, hj, e⟩ := ok
      rw [e] at hk' ⊢
      rw [nI_clamp (by omega)] at hk'
      rw [rv_lv ha hl]
      refine br_f (nI_pos (by omega)) ⟨rv_v4 ha, br_t (nI_lt hj (by omega)) ⟨ry_in ha (by omega), ?_⟩⟩
      rw [ry_rd c ha (by omega)]
      exact ry_give (by omega) (rv_inc hk')
    · have hno := hn (fun z => ok (z i hi)) (nI i) O
      rw [rv_lv ha hl]
      refine br_c (fun _ => hno) (fun z => ⟨rv_v4 ha, br_c (fun w => ?_) (fun _ => hno)⟩)
      exfalso
      obtain ⟨j, hj, e⟩ := nI_of z
      rw [e, nI_ltI hj (by omega)] at w
      exact ok ⟨j, w, e⟩
/-! both sides -/
theorem rv_cmb {k : Nat} {c l r o : Nat → Int32} {mm op : Int32} {L : Nat → Nat} {t a b : Nat} (h : ∀ t, t < 4 → l t = nI (L t) ∧ L t ≤ 64) (ht : t < 4) (ha : a < 4) (hb : b < 4) (e : Option (Nat × (Nat → Int32)))
    (hX : ∀ post, rv_mk post c l e → wpX_makeCombined post (c, l, r) op (nI a) (nI b)) (hY : ∀ post, rv_my post c l t e → wpY_combine post (mm, c, l, o) (nI t) op (nI a) (nI b)) :
    wpX_combine (fun r u' => wpY_combine (fun r' v' => r' = r ∧ i_Rel (k + 5) u' v') (mm, c, l, o) (nI t) op (nI a) (nI b)) (c, l, r) (nI t) op (nI a) (nI b) := by
  unfold wpX_combine
  dsimp only
  refine rx_isV ht (br_f (by decide) (rx_isV ha (br_f (by decide) (rx_isV hb (br_f (by decide) (hX _ ?_))))))
  cases e with
  | none => exact fun R => rx_storeN (hY _ (fun m O => ⟨rfl, rv_rel h⟩))
  | some e =>
    intro R h6 hR
    refine rx_store ht h6 ?_
    rw [rv_stcE hR]
    exact hY _ (fun O => ⟨rfl, rv_relU h h6⟩)
theorem rx_cmbN {post : Int32 → SX → Prop} {c l r : Nat → Int32} {op x y : Int32} (hop : op < 0 ∨ ¬ op ≤ 10) (h : rv_mk post c l none) : wpX_makeCombined post (c, l, r) op x y := by
  by_cases h0 : op < 0
  · exact br_t h0 (h r)
  · exact br_f h0 (br_f (hop.resolve_left h0) (h r))
theorem rx_cmbL {post : Int32 → SX → Prop} {c l r : Nat → Int32} {a b p : Nat} (ha : a < 4) (hb : b < 4) (hp8 : p ≤ 8)
    (h7 : p = 7 → l a = l b → wpX_makeKept (fun r u => match u with | (x, y, z) => post r (x, y, z)) (c, l, r) (nI a) (nI b))
    (h8 : p = 8 → l a = l b → wpX_makeRepeated (fun r u => match u with | (x, y, z) => post r (x, y, z)) (c, l, r) (nI a) (nI b))
    (h6 : p ≤ 6 → l a = l b → wpX_makePaired (fun r u => match u with | (x, y, z) => post r (x, y, z)) (c, l, r) (nI p) (nI a) (nI b))
    (hn : ¬ l a = l b → rv_mk post c l none) : wpX_makeCombined post (c, l, r) (nI p) (nI a) (nI b) := by
  unfold wpX_makeCombined
  dsimp only
  rw [nI_clamp (show a < 2 ^ 31 by omega), nI_clamp (show b < 2 ^ 31 by omega)]
  refine br_f (nI_pos (by omega)) (br_t (nI_le (b := 10) (by omega) (by decide)) (pk_eq p 9 (fun e => by omega) (fun _ => pk_eq p 10 (fun e => by omega) (fun _ => ⟨rv_v4 ha, rv_v4 hb, br_c (fun e => ?_) (fun e => hn e r)⟩))))
  exact pk_eq p 7 (fun e7 => h7 e7 e) (fun n7 => pk_eq p 8 (fun e8 => h8 e8 e) (fun n8 => h6 (by omega) e))
theorem rx_cmb9 {post : Int32 → SX → Prop} {c l r : Nat → Int32} {a b : Nat} (h : wpX_makeJoined (fun r u => match u with | (x, y, z) => post r (x, y, z)) (c, l, r) (nI a) (nI b)) : wpX_makeCombined post (c, l, r) (nI 9) (nI a) (nI b) :=
  br_f (by decide) (br_t (by decide) (br_t rfl h))
theorem rx_cmb10 {post : Int32 → SX → Prop} {c l r : Nat → Int32} {a b : Nat} (h : wpX_makeFetched (fun r u => match u with | (x, y, z) => post r (x, y, z)) (c, l, r) (nI a) (nI b)) : wpX_makeCombined post (c, l, r) (nI 10) (nI a) (nI b) :=
  br_f (by decide) (br_t (by decide) (br_f (by decide) (br_t rfl h)))
theorem i_vc_combine {k : Nat} {u : SX} {v : SY} (I : i_Rel k u v) (hk : k + 5 ≤ 2560) (v1 : Int32) (v2 : Int32) (v3 : Int32) (v4 : Int32) : wpX_combine (fun r u' => wpY_combine (fun r' v' => r' = r ∧ i_Rel (k + 5) u' v') v v1 v2 v3 v4) u v1 v2 v3 v4 := by
  obtain ⟨c, l, r, o, m, L, rfl, rfl, h⟩ := I
  rcases rv_vec v1 with hb | ⟨t, ht, rfl⟩
  · unfold wpX_combine wpY_combine
    dsimp only
    exact rx_isVn hb (br_t rfl (ry_badn hb (br_f (by decide) ⟨rfl, rv_rel h⟩)))
  rcases rv_vec v3 with hb | ⟨a, ha, rfl⟩
  · unfold wpX_combine wpY_combine
    dsimp only
    exact rx_isV ht (br_f (by decide) (rx_isVn hb (br_t rfl (ry_bad ht (br_t rfl (ry_badn hb (br_f (by decide) ⟨rfl, rv_rel h⟩)))))))
  rcases rv_vec v4 with hb | ⟨b, hb, rfl⟩
  · unfold wpX_combine wpY_combine
    dsimp only
    exact rx_isV ht (br_f (by decide) (rx_isV ha (br_f (by decide) (rx_isVn hb (br_t rfl (ry_bad ht (br_t rfl (ry_bad ha (br_t rfl (ry_badn hb (br_f (by decide) ⟨rfl, rv_rel h⟩)))))))))))
  obtain ⟨hl, hL⟩ := h a ha
  obtain ⟨hm, hM⟩ := h b hb
  by_cases hop : v2 < 0 ∨ ¬ v2 ≤ 10
  · exact rv_cmb h ht ha hb none (fun post hp => rx_cmbN hop hp) (fun post hp => ry_cmbN ht ha hb hop hp)
  have hn0 : ¬ v2 < 0 := fun z => hop (Or.inl z)
  have hn1 : v2 ≤ 10 := by
    by_cases z : v2 ≤ 10
    · exact z
    · exact absurd (Or.inr z) hop
  obtain ⟨p, hp10, rfl⟩ := nI_of2 (n := 10) (by decide) hn0 hn1
  by_cases e9 : p = 9
  · subst e9
    by_cases z : L a + L b ≤ 64
    · exact rv_cmb h ht ha hb _ (fun post hp => rx_cmb9 (rx_makeJoined ha hb hl hL hm hM z (rv_mkE hp))) (fun post hp => ry_d9 ht ha hb hl hL hm hM (fun _ => hp) (fun z2 => by omega))
    · exact rv_cmb h ht ha hb none (fun post hp => rx_cmb9 (rx_makeJoinedN ha hb hl hL hm hM (by omega) (rv_mkE hp))) (fun post hp => ry_d9 ht ha hb hl hL hm hM (fun z2 => absurd z2 z) (fun _ => hp))
  by_cases e10 : p = 10
  · subst e10
    by_cases z : ∀ j, j < L b → rv_ok (L a) (c (64 * b + j))
    · exact rv_cmb h ht ha hb _ (fun post hp => rx_cmb10 (rx_makeFetched ha hb hl hL hm hM (fun _ => rv_mkE hp) (fun z2 => absurd z z2))) (fun post hp => ry_d10 ht ha hb hl hL hm hM (fun _ => hp) (fun z2 => absurd z z2))
    · exact rv_cmb h ht ha hb none (fun post hp => rx_cmb10 (rx_makeFetched ha hb hl hL hm hM (fun z2 => absurd z2 z) (fun _ => rv_mkE hp))) (fun post hp => ry_d10 ht ha hb hl hL hm hM (fun z2 => absurd z2 z) (fun _ => hp))
  have hp8 : p ≤ 8 := by omega
  by_cases eL : l a = l b
  · have hm2 : l b = nI (L a) := eL.symm.trans hl
    by_cases e7 : p = 7
    · subst e7
      exact rv_cmb h ht ha hb _ (fun post hp => rx_cmbL ha hb hp8 (fun _ _ => rx_makeKept ha hb hl hL (rv_mkE hp)) (fun e => by omega) (fun e => by omega) (fun z => absurd eL z)) (fun post hp => ry_d7 ht ha hb hl hL hm2 hp)
    by_cases e8 : p = 8
    · subst e8
      by_cases z : (rv_rp (fun i => (c (64 * b + i)).toNatClampNeg) (fun i => c (64 * a + i)) (L a)).length ≤ 64
      · exact rv_cmb h ht ha hb _ (fun post hp => rx_cmbL ha hb hp8 (fun e => by omega) (fun _ _ => rx_makeRepeated ha hb hl hL (fun _ => rv_mkE hp) (fun z2 => by omega)) (fun e => by omega) (fun z => absurd eL z)) (fun post hp => ry_d8 ht ha hb hl hL hm2 (fun _ => hp) (fun z2 => by omega))
      · exact rv_cmb h ht ha hb none (fun post hp => rx_cmbL ha hb hp8 (fun e => by omega) (fun _ _ => rx_makeRepeated ha hb hl hL (fun z2 => absurd z2 z) (fun _ => rv_mkE hp)) (fun e => by omega) (fun z => absurd eL z)) (fun post hp => ry_d8 ht ha hb hl hL hm2 (fun z2 => absurd z2 z) (fun _ => hp))
    · have hp6 : p ≤ 6 := by omega
      exact rv_cmb h ht ha hb _ (fun post hp => rx_cmbL ha hb hp8 (fun e => absurd e e7) (fun e => absurd e e8) (fun _ _ => rx_makePaired hp6 ha hb hl hL (rv_mkE hp)) (fun z => absurd eL z)) (fun post hp => ry_dA hp6 ht ha hb hl hL hm2 hp)
  · exact rv_cmb h ht ha hb none (fun post hp => rx_cmbL ha hb hp8 (fun _ z => absurd z eL) (fun _ z => absurd z eL) (fun _ z => absurd z eL) (fun _ => hp)) (fun post hp => ry_cmbL ht ha hb hp8 (fun z => absurd z eL) (fun _ => hp))
end
