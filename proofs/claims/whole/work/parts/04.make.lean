/-! what a result holds: its first m cells are f's -/
def rv_sg (f : Nat → Int32) (m : Nat) (R : Nat → Int32) : Prop := ∀ j, j < m → R j = f j
theorem rv_sg0 (f R : Nat → Int32) : rv_sg f 0 R := fun j h => absurd h (Nat.not_lt_zero j)
theorem rv_sg1 {f R : Nat → Int32} {i : Nat} {x : Int32} (h : rv_sg f i R) (e : x = f i) : rv_sg f (i + 1) (upd R i x) := by
  intro j hj
  by_cases h2 : j = i
  · rw [h2, pk_us, e]
  · rw [pk_un h2]; exact h j (by omega)
/-- the outcome of an operation, as X's makers answer it -/
def rv_mk (post : Int32 → SX → Prop) (c l : Nat → Int32) : Option (Nat × (Nat → Int32)) → Prop
  | none => ∀ R, post (-1) (c, l, R)
  | some e => ∀ R, e.1 ≤ 64 → rv_sg e.2 e.1 R → post (nI e.1) (c, l, R)
theorem rx_makeRaised {post : Int32 → SX → Prop} {c l r : Nat → Int32} {a L : Nat} {k : Int32} (ha : a < 4) (hl : l a = nI L) (hL : L ≤ 64)
    (hp : rv_mk post c l (some (L, fun j => k + c (64 * a + j)))) : wpX_makeRaised post (c, l, r) (nI a) k := by
  refine loop_0 (fun n i R => wX_makeRaised_2 post (nI a) k n (nI i) c l R) (fun i R => rv_sg (fun j => k + c (64 * a + j)) i R) L r (rv_sg0 _ _) ?_ ?_
  · exact fun n R h => rv_lcT ha hl (by omega) (Nat.le_refl _) (rv_en ha hl (hp R hL h))
  · exact fun n i R hi h hk => rv_lcF ha hl hL hi (rx_cell ha (by omega) (rv_st (by omega) (rv_inc (hk _ (rv_sg1 h rfl)))))
theorem rx_makeMultiplied {post : Int32 → SX → Prop} {c l r : Nat → Int32} {a L : Nat} {k : Int32} (ha : a < 4) (hl : l a = nI L) (hL : L ≤ 64)
    (hp : rv_mk post c l (some (L, fun j => k * c (64 * a + j)))) : wpX_makeMultiplied post (c, l, r) (nI a) k := by
  refine loop_0 (fun n i R => wX_makeMultiplied_2 post (nI a) k n (nI i) c l R) (fun i R => rv_sg (fun j => k * c (64 * a + j)) i R) L r (rv_sg0 _ _) ?_ ?_
  · exact fun n R h => rv_lcT ha hl (by omega) (Nat.le_refl _) (rv_en ha hl (hp R hL h))
  · exact fun n i R hi h hk => rv_lcF ha hl hL hi (rx_cell ha (by omega) (rv_st (by omega) (rv_inc (hk _ (rv_sg1 h rfl)))))
theorem rx_makeReversed {post : Int32 → SX → Prop} {c l r : Nat → Int32} {a L : Nat} (ha : a < 4) (hl : l a = nI L) (hL : L ≤ 64)
    (hp : rv_mk post c l (some (L, fun j => c (64 * a + (L - 1 - j))))) : wpX_makeReversed post (c, l, r) (nI a) := by
  refine ⟨rv_v4 ha, ?_⟩
  rw [rv_lv ha hl]
  cases L with
  | zero =>
    refine nm_e ⟨1, br_t (by decide) (rv_en ha hl (hp r hL (rv_sg0 _ _)))⟩
  | succ q =>
    refine nm_r (nI_pred q) (loop_0 (fun n i R => wX_makeReversed_11 post (nI a) (nI q) n (nI i) c l R) (fun i R => rv_sg (fun j => c (64 * a + (q + 1 - 1 - j))) i R) (q + 1) r (rv_sg0 _ _) ?_ ?_)
    · exact fun n R h => br_t (nI_lt (by omega) (by omega)) (rv_en ha hl (hp R hL h))
    · intro n i R hi h hk
      refine br_f (nI_nlt (by omega) (by omega)) ?_
      rw [pk_sub (by omega)]
      exact rx_cell ha (by omega) (rv_st (by omega) (rv_inc (hk _ (rv_sg1 h rfl))))
theorem rx_makeFirst {post : Int32 → SX → Prop} {c l r : Nat → Int32} {a L q : Nat} (ha : a < 4) (hl : l a = nI L) (hL : L ≤ 64) (hq : q ≤ L)
    (hp : rv_mk post c l (some (q, fun j => c (64 * a + j)))) : wpX_makeFirst post (c, l, r) (nI a) (nI q) := by
  refine br_f (nI_pos (by omega)) ⟨rv_v4 ha, ?_⟩
  rw [rv_lv ha hl]
  refine br_t (nI_le hq (by omega)) (loop_0 (fun n i R => wX_makeFirst_18 post (nI a) (nI q) n (nI i) c l R) (fun i R => rv_sg (fun j => c (64 * a + j)) i R) q r (rv_sg0 _ _) ?_ ?_)
  · exact fun n R h => br_t (Int32.le_refl _) (hp R (by omega) h)
  · exact fun n i R hi h hk => br_f (nI_ge hi (by omega)) (rx_cell ha (by omega) (rv_st (by omega) (rv_inc (hk _ (rv_sg1 h rfl)))))
theorem rx_makeFirstN {post : Int32 → SX → Prop} {c l r : Nat → Int32} {a L : Nat} {k : Int32} (ha : a < 4) (hl : l a = nI L) (hq : k < 0 ∨ ¬ k ≤ nI L)
    (hp : rv_mk post c l none) : wpX_makeFirst post (c, l, r) (nI a) k := by
  by_cases h0 : k < 0
  · exact br_t h0 (hp r)
  · refine br_f h0 ⟨rv_v4 ha, ?_⟩
    rw [rv_lv ha hl]
    exact br_f (hq.resolve_left h0) (hp r)
theorem rx_makeWithoutFirst {post : Int32 → SX → Prop} {c l r : Nat → Int32} {a L q : Nat} (ha : a < 4) (hl : l a = nI L) (hL : L ≤ 64) (hq : q ≤ L)
    (hp : rv_mk post c l (some (L - q, fun j => c (64 * a + (q + j))))) : wpX_makeWithoutFirst post (c, l, r) (nI a) (nI q) := by
  refine br_f (nI_pos (by omega)) ⟨rv_v4 ha, ?_⟩
  rw [rv_lv ha hl]
  refine br_t (nI_le hq (by omega)) ⟨rv_v4 ha, nm_r (pk_sub hq) (loop_0 (fun n i R => wX_makeWithoutFirst_28 post (nI a) (nI q) (nI (L - q)) n (nI i) c l R) (fun i R => rv_sg (fun j => c (64 * a + (q + j))) i R) (L - q) r (rv_sg0 _ _) ?_ ?_)⟩
  · exact fun n R h => br_t (Int32.le_refl _) (hp R (show L - q ≤ 64 by omega) h)
  · intro n i R hi h hk
    refine br_f (nI_ge hi (by omega)) ?_
    rw [nI_add]
    exact rx_cell ha (by omega) (rv_st (by omega) (rv_inc (hk _ (rv_sg1 h rfl))))
theorem rx_makeWithoutFirstN {post : Int32 → SX → Prop} {c l r : Nat → Int32} {a L : Nat} {k : Int32} (ha : a < 4) (hl : l a = nI L) (hq : k < 0 ∨ ¬ k ≤ nI L)
    (hp : rv_mk post c l none) : wpX_makeWithoutFirst post (c, l, r) (nI a) k := by
  by_cases h0 : k < 0
  · exact br_t h0 (hp r)
  · refine br_f h0 ⟨rv_v4 ha, ?_⟩
    rw [rv_lv ha hl]
    exact br_f (hq.resolve_left h0) (hp r)
/-! running sums, running greatest, differences -/
def rv_ps (x : Nat → Int32) : Nat → Int32
  | 0 => 0
  | i + 1 => rv_ps x i + x i
theorem rx_makeRunningSums {post : Int32 → SX → Prop} {c l r : Nat → Int32} {a L : Nat} (ha : a < 4) (hl : l a = nI L) (hL : L ≤ 64)
    (hp : rv_mk post c l (some (L, fun j => rv_ps (fun i => c (64 * a + i)) (j + 1)))) : wpX_makeRunningSums post (c, l, r) (nI a) := by
  refine loop_0 (fun n i (s : Int32 × (Nat → Int32)) => wX_makeRunningSums_4 post (nI a) n s.1 (nI i) c l s.2) (fun i s => s.1 = rv_ps (fun i => c (64 * a + i)) i ∧ rv_sg (fun j => rv_ps (fun i => c (64 * a + i)) (j + 1)) i s.2) L (0, r) ⟨rfl, rv_sg0 _ _⟩ ?_ ?_
  · exact fun n s h => rv_lcT ha hl (by omega) (Nat.le_refl _) (rv_en ha hl (hp s.2 hL h.2))
  · intro n i s hi h hk
    obtain ⟨g, R⟩ := s
    obtain ⟨h1, h2⟩ := h
    dsimp only at h1 h2
    subst h1
    exact rv_lcF ha hl hL hi (rx_cell ha (by omega) (nm_e (rv_st (by omega) (rv_inc (hk (_, _) ⟨rfl, rv_sg1 h2 rfl⟩)))))
def rv_gm (x : Nat → Int32) : Nat → Int32
  | 0 => x 0
  | i + 1 => if x (i + 1) ≤ rv_gm x i then rv_gm x i else x (i + 1)
theorem rx_makeRunningGreatest {post : Int32 → SX → Prop} {c l r : Nat → Int32} {a L : Nat} (ha : a < 4) (hl : l a = nI L) (hL : L ≤ 64)
    (hp : rv_mk post c l (some (L, rv_gm (fun i => c (64 * a + i))))) : wpX_makeRunningGreatest post (c, l, r) (nI a) := by
  refine loop_0 (fun n i (s : Int32 × (Nat → Int32)) => wX_makeRunningGreatest_4 post (nI a) n s.1 (nI i) c l s.2) (fun i s => (∀ q, i = q + 1 → s.1 = rv_gm (fun i => c (64 * a + i)) q) ∧ rv_sg (rv_gm (fun i => c (64 * a + i))) i s.2) L (0, r) ⟨fun q hq => absurd hq (by omega), rv_sg0 _ _⟩ ?_ ?_
  · exact fun n s h => rv_lcT ha hl (by omega) (Nat.le_refl _) (rv_en ha hl (hp s.2 hL h.2))
  · intro n i s hi h hk
    obtain ⟨g, R⟩ := s
    obtain ⟨h1, h2⟩ := h
    dsimp only at h1 h2
    refine rv_lcF ha hl hL hi (rx_cell ha (by omega) ?_)
    cases i with
    | zero =>
      exact br_t rfl (rv_st (by omega) (rv_inc (hk (_, _) ⟨fun q hq => by cases hq; rfl, rv_sg1 h2 rfl⟩)))
    | succ q =>
      have hg := h1 q rfl
      subst hg
      refine br_f (nI_ne0 (by omega) (by omega)) (br_c (fun e => ?_) (fun e => ?_))
      · have hv : rv_gm (fun i => c (64 * a + i)) q = rv_gm (fun i => c (64 * a + i)) (q + 1) := by rw [rv_gm, if_pos e]
        exact rv_st (by omega) (rv_inc (hk (_, _) ⟨fun q' hq => by cases hq; exact hv, rv_sg1 h2 hv⟩))
      · have hv : c (64 * a + (q + 1)) = rv_gm (fun i => c (64 * a + i)) (q + 1) := by rw [rv_gm, if_neg e]
        exact rv_st (by omega) (rv_inc (hk (_, _) ⟨fun q' hq => by cases hq; exact hv, rv_sg1 h2 hv⟩))
def rv_df (x : Nat → Int32) : Nat → Int32
  | 0 => x 0
  | i + 1 => x (i + 1) - x i
theorem rx_makeDifferences {post : Int32 → SX → Prop} {c l r : Nat → Int32} {a L : Nat} (ha : a < 4) (hl : l a = nI L) (hL : L ≤ 64)
    (hp : rv_mk post c l (some (L, rv_df (fun i => c (64 * a + i))))) : wpX_makeDifferences post (c, l, r) (nI a) := by
  refine loop_0 (fun n i (s : Int32 × (Nat → Int32)) => wX_makeDifferences_4 post (nI a) n s.1 (nI i) c l s.2) (fun i s => (c (64 * a + i) - s.1 = rv_df (fun i => c (64 * a + i)) i) ∧ rv_sg (rv_df (fun i => c (64 * a + i))) i s.2) L (0, r) ⟨Int32.sub_zero _, rv_sg0 _ _⟩ ?_ ?_
  · exact fun n s h => rv_lcT ha hl (by omega) (Nat.le_refl _) (rv_en ha hl (hp s.2 hL h.2))
  · intro n i s hi h hk
    obtain ⟨g, R⟩ := s
    obtain ⟨h1, h2⟩ := h
    exact rv_lcF ha hl hL hi (rx_cell ha (by omega) (rv_st (by omega) (rv_inc (hk (_, _) ⟨rfl, rv_sg1 h2 h1⟩))))
/-! joined, fetched, paired -/
theorem rx_makeJoined {post : Int32 → SX → Prop} {c l r : Nat → Int32} {a b A B : Nat} (ha : a < 4) (hb : b < 4) (hl : l a = nI A) (hA : A ≤ 64) (hm : l b = nI B) (hB : B ≤ 64) (hAB : A + B ≤ 64)
    (hp : rv_mk post c l (some (A + B, fun j => if j < A then c (64 * a + j) else c (64 * b + (j - A))))) : wpX_makeJoined post (c, l, r) (nI a) (nI b) := by
  unfold wpX_makeJoined
  dsimp only
  rw [rv_lv ha hl, rv_lv hb hm]
  refine ⟨rv_v4 ha, nm_e ⟨rv_v4 hb, nm_r (nI_add A B) (br_t (nI_le (b := 64) hAB (by decide)) ?_)⟩⟩
  refine loop_0 (fun n i R => wX_makeJoined_29 post (nI a) (nI b) (nI A) (nI (A + B)) n (nI i) c l R) (fun i R => rv_sg (fun j => if j < A then c (64 * a + j) else c (64 * b + (j - A))) i R) A r (rv_sg0 _ _) ?_ ?_
  · intro n R h
    refine br_t (Int32.le_refl _) (pk_loop (fun n i R => wX_makeJoined_58 post (nI b) (nI A) (nI (A + B)) n (nI i) c l R) (fun i R => A ≤ i ∧ rv_sg (fun j => if j < A then c (64 * a + j) else c (64 * b + (j - A))) i R) (A + B) A R (by omega) ⟨Nat.le_refl _, h⟩ ?_ ?_)
    · exact fun n R h => br_t (Int32.le_refl _) (hp R hAB h.2)
    · intro n i R hi h hk
      refine br_f (nI_ge hi (by omega)) ?_
      rw [pk_sub h.1]
      exact rx_cell hb (by omega) (rv_st (by omega) (rv_inc (hk _ ⟨by omega, rv_sg1 h.2 (if_neg (by omega)).symm⟩)))
  · exact fun n i R hi h hk => br_f (nI_ge hi (by omega)) (rx_cell ha (by omega) (rv_st (by omega) (rv_inc (hk _ (rv_sg1 h (if_pos hi).symm)))))
theorem rx_makeJoinedN {post : Int32 → SX → Prop} {c l r : Nat → Int32} {a b A B : Nat} (ha : a < 4) (hb : b < 4) (hl : l a = nI A) (hA : A ≤ 64) (hm : l b = nI B) (hB : B ≤ 64) (hAB : 64 < A + B)
    (hp : rv_mk post c l none) : wpX_makeJoined post (c, l, r) (nI a) (nI b) := by
  unfold wpX_makeJoined
  dsimp only
  rw [rv_lv ha hl, rv_lv hb hm]
  exact ⟨rv_v4 ha, nm_e ⟨rv_v4 hb, nm_r (nI_add A B) (br_f (nI_ge (a := 64) hAB (by omega)) (hp r))⟩⟩
def rv_ok (A : Nat) (x : Int32) : Prop := ∃ j, j < A ∧ x = nI j
theorem rx_isPlace {post : Int32 → Prop} {c l r : Nat → Int32} {a A : Nat} {x : Int32} (ha : a < 4) (hl : l a = nI A) (hA : A ≤ 64) (h1 : rv_ok A x → post 1) (h0 : ¬ rv_ok A x → post 0) : wpX_isPlace post (c, l, r) (nI a) x := by
  unfold wpX_isPlace
  dsimp only
  rw [rv_lv ha hl]
  refine br_c (fun z => h0 ?_) (fun z => ⟨rv_v4 ha, br_c (fun w => h0 ?_) (fun w => h1 ?_)⟩)
  · rintro ⟨j, hj, rfl⟩
    exact nI_pos (by omega) z
  · rintro ⟨j, hj, rfl⟩
    exact nI_ge hj (by omega) w
  · obtain ⟨j, hj, rfl⟩ := nI_of z
    rw [nI_leI (by omega) hj] at w
    exact ⟨j, by omega, rfl⟩
theorem rx_makeFetched {post : Int32 → SX → Prop} {c l r : Nat → Int32} {a b A B : Nat} (ha : a < 4) (hb : b < 4) (hl : l a = nI A) (hA : A ≤ 64) (hm : l b = nI B) (hB : B ≤ 64)
    (hp : (∀ j, j < B → rv_ok A (c (64 * b + j))) → rv_mk post c l (some (B, fun j => c (64 * a + (c (64 * b + j)).toNatClampNeg))))
    (hn : (¬ ∀ j, j < B → rv_ok A (c (64 * b + j))) → rv_mk post c l none) : wpX_makeFetched post (c, l, r) (nI a) (nI b) := by
  refine loop_0 (fun n i R => wX_makeFetched_2 post (nI a) (nI b) n (nI i) c l R) (fun i R => (∀ j, j < i → rv_ok A (c (64 * b + j))) ∧ rv_sg (fun j => c (64 * a + (c (64 * b + j)).toNatClampNeg)) i R) B r ⟨fun j h => absurd h (Nat.not_lt_zero j), rv_sg0 _ _⟩ ?_ ?_
  · exact fun n R h => rv_lcT hb hm (by omega) (Nat.le_refl _) (rv_en hb hm (hp h.1 R hB h.2))
  · intro n i R hi h hk
    refine rv_lcF hb hm hB hi (rx_cell hb (by omega) (rx_isPlace ha hl hA (fun ok => br_f (by decide) ?_) (fun ok => br_t rfl (hn (fun z => ok (z i hi)) R))))
    have hk' := hk (upd R i (c (64 * a + (c (64 * b + i)).toNatClampNeg))) ⟨lt_s h.1 ok, rv_sg1 h.2 rfl⟩
    obtain ⟨j, hj, e⟩ := ok
    rw [e] at hk' ⊢
    rw [nI_clamp (by omega)] at hk'
    exact rx_cell ha (by omega) (rv_st (by omega) (rv_inc hk'))
def rv_wk (p : Nat) (x y : Int32) : Int32 := match p with
  | 0 => x + y
  | 1 => x - y
  | 2 => x * y
  | 3 => if y ≤ x then y else x
  | 4 => if x ≤ y then y else x
  | 5 => if y ≤ x then 0 else 1
  | _ => if x = y then 1 else 0
theorem rv_pif {post : Int32 → Prop} {q : Prop} (d : Decidable q) {x y : Int32} (h : post (@ite _ q d x y)) : (q → post x) ∧ (¬ q → post y) :=
  ⟨fun z => by rwa [if_pos z] at h, fun z => by rwa [if_neg z] at h⟩
theorem rx_pair {post : Int32 → Prop} {u : SX} {x y : Int32} {p : Nat} (hp6 : p ≤ 6) (h : post (rv_wk p x y)) : wpX_pair post u (nI p) x y := by
  obtain ⟨c, l, r⟩ := u
  match p, hp6, h with
  | 0, _, h => exact br_f (by decide) (br_f (by decide) (br_t rfl h))
  | 1, _, h => exact br_f (by decide) (br_f (by decide) (br_f (by decide) (br_t rfl h)))
  | 2, _, h => exact br_f (by decide) (br_f (by decide) (br_f (by decide) (br_f (by decide) (br_t rfl h))))
  | 3, _, h => exact br_f (by decide) (br_f (by decide) (br_f (by decide) (br_f (by decide) (br_f (by decide) (br_t rfl (rv_pif _ h))))))
  | 4, _, h => exact br_f (by decide) (br_f (by decide) (br_f (by decide) (br_f (by decide) (br_f (by decide) (br_f (by decide) (br_t rfl (rv_pif _ h)))))))
  | 5, _, h => exact br_f (by decide) (br_f (by decide) (br_f (by decide) (br_f (by decide) (br_f (by decide) (br_f (by decide) (br_f (by decide) (br_t rfl (rv_pif _ h))))))))
  | 6, _, h => exact br_f (by decide) (br_t (by decide) (rv_pif _ h))
theorem ry_worked {post : Int32 → Prop} {x y : Int32} {p : Nat} (hp6 : p ≤ 6) (h : post (rv_wk p x y)) : wpY_worked post (nI p) x y := by
  match p, hp6, h with
  | 0, _, h => exact br_t rfl h
  | 1, _, h => exact br_f (by decide) (br_t rfl h)
  | 2, _, h => exact br_f (by decide) (br_f (by decide) (br_t rfl h))
  | 3, _, h => exact br_f (by decide) (br_f (by decide) (br_f (by decide) (br_t rfl (rv_pif _ h))))
  | 4, _, h => exact br_f (by decide) (br_f (by decide) (br_f (by decide) (br_f (by decide) (br_t rfl (rv_pif _ h)))))
  | 5, _, h => exact br_f (by decide) (br_f (by decide) (br_f (by decide) (br_f (by decide) (br_f (by decide) (br_t rfl (rv_pif _ h))))))
  | 6, _, h => exact br_f (by decide) (br_f (by decide) (br_f (by decide) (br_f (by decide) (br_f (by decide) (br_f (by decide) (rv_pif _ h))))))
theorem rx_makePaired {post : Int32 → SX → Prop} {c l r : Nat → Int32} {a b A p : Nat} (hp6 : p ≤ 6) (ha : a < 4) (hb : b < 4) (hl : l a = nI A) (hA : A ≤ 64)
    (hp : rv_mk post c l (some (A, fun j => rv_wk p (c (64 * a + j)) (c (64 * b + j))))) : wpX_makePaired post (c, l, r) (nI p) (nI a) (nI b) := by
  refine loop_0 (fun n i R => wX_makePaired_3 post (nI p) (nI a) (nI b) n (nI i) c l R) (fun i R => rv_sg (fun j => rv_wk p (c (64 * a + j)) (c (64 * b + j))) i R) A r (rv_sg0 _ _) ?_ ?_
  · exact fun n R h => rv_lcT ha hl (by omega) (Nat.le_refl _) (rv_en ha hl (hp R hA h))
  · exact fun n i R hi h hk => rv_lcF ha hl hA hi (rx_cell ha (by omega) (rx_cell hb (by omega) (rx_pair hp6 (rv_st (by omega) (rv_inc (hk _ (rv_sg1 h rfl)))))))
