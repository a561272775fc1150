/-! Y: sorted, turned -/
theorem ry_rank {post : Int32 → Prop} {m : Int32} {c l O : Nat → Int32} {a L p : Nat} (ha : a < 4) (hl : l a = nI L) (hL : L ≤ 64) (hp : p < L)
    (h : post (nI (rs_cn (rs_bf (fun i => c (64 * a + i)) p) L))) : wpY_rank post (m, c, l, O) (nI a) (nI p) := by
  refine loop_0 (fun n j (s : Int32) => wY_rank_5 post (nI a) (nI p) m c l O n s (nI j)) (fun j s => s = nI (rs_cn (rs_bf (fun i => c (64 * a + i)) p) j)) L 0 rfl ?_ ?_
  · intro n s e
    subst e
    exact rv_lcT ha hl (by omega) (Nat.le_refl _) h
  · intro n j s hj e hk
    subst e
    refine rv_lcF ha hl hL hj ⟨ry_in ha (by omega), nm_r (ry_rd c ha (by omega)) ⟨ry_in ha (by omega), nm_r (ry_rd c ha (by omega)) ?_⟩⟩
    have ib := rs_bf1 (x := fun i => c (64 * a + i)) (p := p) (j := j)
    refine br_c (fun e1 => rv_inc (rv_inc (hk _ ?_))) (fun e1 => br_c (fun e2 => pk_le p j (fun e3 => rv_inc (hk _ ?_)) (fun e3 => rv_inc (rv_inc (hk _ ?_)))) (fun e2 => rv_inc (hk _ ?_)))
    · rw [rs_cnT (ib.mpr (Or.inl e1))]
    · rw [rs_cnF (fun z => by
        rcases ib.mp z with h1 | ⟨_, h2⟩
        · exact e1 h1
        · omega)]
    · rw [rs_cnT (ib.mpr (Or.inr ⟨e2, e3⟩))]
    · rw [rs_cnF (fun z => by
        rcases ib.mp z with h1 | ⟨h2, _⟩
        · exact e1 h1
        · exact e2 h2)]
theorem ry_sorted {P : SY → Prop} {m : Int32} {c l o : Nat → Int32} {a L : Nat} (ha : a < 4) (hl : l a = nI L) (hL : L ≤ 64)
    (hp : ∀ O, rv_sg (rs_so (fun i => c (64 * a + i)) L) L O → P (nI L, c, l, O)) : wpY_sorted P (m, c, l, o) (nI a) := by
  refine loop_0 (fun n i O => wY_sorted_2 P (nI a) m n (nI i) c l O) (fun i O => ∀ p, p < i → O (rs_cn (rs_bf (fun i => c (64 * a + i)) p) L) = c (64 * a + p)) L o (fun p h => absurd h (Nat.not_lt_zero p)) ?_ ?_
  · intro n O h
    refine rv_lcT ha hl (by omega) (Nat.le_refl _) ⟨rv_v4 ha, nm_r (rv_lv ha hl) (hp O fun q hq => ?_)⟩
    obtain ⟨p, hp1, e1, e2⟩ := rs_soP (fun i => c (64 * a + i)) L q hq
    rw [e2, ← e1]
    exact h p hp1
  · intro n i O hi h hk
    have hr := rs_lt (x := fun i => c (64 * a + i)) hi
    refine rv_lcF ha hl hL hi (ry_rank ha hl hL hi (br_f (nI_ge (b := 64) (by omega) (by decide)) ⟨ry_in ha (by omega), ?_⟩))
    rw [ry_rd c ha (by omega)]
    refine rv_st (by omega) (rv_inc (hk _ (fun p hp1 => ?_)))
    by_cases e : p = i
    · rw [e, pk_us]
    · rw [pk_un (fun z => e (rs_inj (by omega) hi z))]
      exact h p (by omega)
theorem ry_turned {P : SY → Prop} {c l o : Nat → Int32} {a L : Nat} {k : Int32} (ha : a < 4) (hl : l a = nI L) (hL : L ≤ 64)
    (hp : ∀ O, rv_sg (fun j => c (64 * a + (j + rv_sh k L) % L)) L O → P (nI L, c, l, O)) : wpY_turned P (0, c, l, o) (nI a) k := by
  refine ⟨rv_v4 ha, nm_r (rv_lv ha hl) ?_⟩
  refine loop_0 (fun n i (s : Int32 × (Nat → Int32)) => wY_turned_10 P (nI a) k (nI L) n (nI i) s.1 c l s.2) (fun i s => s.1 = nI i ∧ rv_sg (fun j => c (64 * a + (j + rv_sh k L) % L)) i s.2) L (0, o) ⟨rfl, rv_sg0 _ _⟩ ?_ ?_
  · intro n s h
    obtain ⟨m, O⟩ := s
    obtain ⟨h1, h2⟩ := h
    dsimp only at h1 h2
    subst h1
    exact br_t (Int32.le_refl _) (hp O h2)
  · intro n i s hi h hk
    obtain ⟨m, O⟩ := s
    obtain ⟨h1, h2⟩ := h
    dsimp only at h1 h2
    subst h1
    have hlt : (i + rv_sh k L) % L < L := Nat.mod_lt _ (by omega)
    have H : ∀ z : Int64, z.toInt32 = nI ((i + rv_sh k L) % L) → wY_turned_41 P (wY_turned_10 P (nI a) k (nI L) n) (nI a) k (nI L) (nI i) z (nI i) c l O := by
      intro z hz
      unfold wY_turned_41
      rw [hz, ry_rd c ha (by omega)]
      exact ⟨ry_in ha (by omega), ry_give (by omega) (rv_inc (hk (_, _) ⟨rfl, rv_sg1 h2 rfl⟩))⟩
    have hy := rt_y k hi hL
    refine br_f (nI_ge hi (by omega)) ⟨?_, nm_e (br_c (fun z => H _ (hy.1 z)) (fun z => nm_e (H _ (hy.2 z))))⟩
    rw [nI_l (by omega)]
    intro z
    have z2 := (lN_eq (a := L) (b := 0) (by omega) (by omega)).mp z
    omega
/-! Y's change, an operation each -/
theorem ry_chg {post : Int32 → SY → Prop} {c l o : Nat → Int32} {t a p : Nat} {mm k : Int32} (ht : t < 4) (ha : a < 4) (h11 : p ≤ 11) (h4 : p ≠ 4) (h5 : p ≠ 5) (h : wY_change_54 post (nI t) (nI p) (nI a) k mm c l o) : wpY_change post (mm, c, l, o) (nI t) (nI p) (nI a) k := by
  unfold wpY_change
  dsimp only
  exact ry_bad ht (br_t rfl (ry_bad ha (br_t rfl (br_f (nI_pos (by omega)) (br_t (nI_le (b := 11) h11 (by decide)) (pk_eq p 4 (fun e => absurd e h4) (fun _ => pk_eq p 5 (fun e => absurd e h5) (fun _ => h))))))))
theorem ry_chgN {post : Int32 → SY → Prop} {c l o : Nat → Int32} {t a : Nat} {mm op k : Int32} (ht : t < 4) (ha : a < 4) (hop : op < 0 ∨ ¬ op ≤ 11) (h : rv_my post c l t none) : wpY_change post (mm, c, l, o) (nI t) op (nI a) k := by
  unfold wpY_change
  dsimp only
  refine ry_bad ht (br_t rfl (ry_bad ha (br_t rfl ?_)))
  by_cases h0 : op < 0
  · exact br_t h0 (h _ _)
  · exact br_f h0 (br_f (hop.resolve_left h0) (h _ _))
theorem ry_36 {post : Int32 → SY → Prop} {c l o : Nat → Int32} {t a L q : Nat} {mm op : Int32} (ha : a < 4) (hl : l a = nI L) (hL : L ≤ 64) (hq : q ≤ L) (h : wY_change_54 post (nI t) op (nI a) (nI q) mm c l o) : wY_change_36 post (nI t) op (nI a) (nI q) mm c l o := by
  refine br_f (nI_pos (by omega)) ⟨rv_v4 ha, ?_⟩
  rw [rv_lv ha hl]
  exact br_t (nI_le hq (by omega)) h
theorem ry_36N {post : Int32 → SY → Prop} {c l o : Nat → Int32} {t a L : Nat} {mm op k : Int32} (ha : a < 4) (hl : l a = nI L) (hq : k < 0 ∨ ¬ k ≤ nI L) (h : rv_my post c l t none) : wY_change_36 post (nI t) op (nI a) k mm c l o := by
  by_cases h0 : k < 0
  · exact br_t h0 (h _ _)
  · refine br_f h0 ⟨rv_v4 ha, ?_⟩
    rw [rv_lv ha hl]
    exact br_f (hq.resolve_left h0) (h _ _)
theorem ry_chg4 {post : Int32 → SY → Prop} {c l o : Nat → Int32} {t a : Nat} {mm k : Int32} (ht : t < 4) (ha : a < 4) (h : wY_change_36 post (nI t) (nI 4) (nI a) k mm c l o) : wpY_change post (mm, c, l, o) (nI t) (nI 4) (nI a) k := by
  unfold wpY_change
  dsimp only
  exact ry_bad ht (br_t rfl (ry_bad ha (br_t rfl (br_f (by decide) (br_t (by decide) (br_t rfl h))))))
theorem ry_chg5 {post : Int32 → SY → Prop} {c l o : Nat → Int32} {t a : Nat} {mm k : Int32} (ht : t < 4) (ha : a < 4) (h : wY_change_36 post (nI t) (nI 5) (nI a) k mm c l o) : wpY_change post (mm, c, l, o) (nI t) (nI 5) (nI a) k := by
  unfold wpY_change
  dsimp only
  exact ry_bad ht (br_t rfl (ry_bad ha (br_t rfl (br_f (by decide) (br_t (by decide) (br_f (by decide) (br_t rfl h)))))))
theorem ry_c0 {post : Int32 → SY → Prop} {c l o : Nat → Int32} {t a L : Nat} {mm k : Int32} (ht : t < 4) (ha : a < 4) (hl : l a = nI L) (hL : L ≤ 64)
    (hp : rv_my post c l t (some (L, fun j => k + c (64 * a + j)))) : wpY_change post (mm, c, l, o) (nI t) (nI 0) (nI a) k := by
  refine ry_chg ht ha (by decide) (by decide) (by decide) (br_f (by decide) (br_f (by decide) ?_))
  exact ry_91A _ ht ha hl hL (fun i O P hi h hP => ry_s0 ha hl hL hi (by omega) hP) hp
theorem ry_c1 {post : Int32 → SY → Prop} {c l o : Nat → Int32} {t a L : Nat} {mm k : Int32} (ht : t < 4) (ha : a < 4) (hl : l a = nI L) (hL : L ≤ 64)
    (hp : rv_my post c l t (some (L, fun j => k * c (64 * a + j)))) : wpY_change post (mm, c, l, o) (nI t) (nI 1) (nI a) k := by
  refine ry_chg ht ha (by decide) (by decide) (by decide) (br_f (by decide) (br_f (by decide) ?_))
  exact ry_91A _ ht ha hl hL (fun i O P hi h hP => ry_s1 ha hl hL hi (by omega) hP) hp
theorem ry_c2 {post : Int32 → SY → Prop} {c l o : Nat → Int32} {t a L : Nat} {mm k : Int32} (ht : t < 4) (ha : a < 4) (hl : l a = nI L) (hL : L ≤ 64)
    (hp : rv_my post c l t (some (L, fun j => c (64 * a + (L - 1 - j))))) : wpY_change post (mm, c, l, o) (nI t) (nI 2) (nI a) k := by
  refine ry_chg ht ha (by decide) (by decide) (by decide) (br_f (by decide) (br_f (by decide) ?_))
  exact ry_91A _ ht ha hl hL (fun i O P hi h hP => ry_s2 ha hl hL hi (by omega) hP) hp
theorem ry_c11 {post : Int32 → SY → Prop} {c l o : Nat → Int32} {t a L : Nat} {mm k : Int32} (ht : t < 4) (ha : a < 4) (hl : l a = nI L) (hL : L ≤ 64)
    (hp : rv_my post c l t (some (L, rv_df (fun i => c (64 * a + i))))) : wpY_change post (mm, c, l, o) (nI t) (nI 11) (nI a) k := by
  refine ry_chg ht ha (by decide) (by decide) (by decide) (br_f (by decide) (br_f (by decide) ?_))
  exact ry_91A _ ht ha hl hL (fun i O P hi h hP => ry_s11 ha hl hL hi (by omega) hP) hp
theorem ry_c3 {post : Int32 → SY → Prop} {c l o : Nat → Int32} {t a L : Nat} {mm k : Int32} (ht : t < 4) (ha : a < 4) (hl : l a = nI L) (hL : L ≤ 64)
    (hp : rv_my post c l t (some (L, rs_so (fun i => c (64 * a + i)) L))) : wpY_change post (mm, c, l, o) (nI t) (nI 3) (nI a) k := by
  refine ry_chg ht ha (by decide) (by decide) (by decide) (br_t rfl ?_)
  exact ry_sorted ha hl hL (fun O h => ry_118 ht hL h hp)
theorem ry_c6 {post : Int32 → SY → Prop} {c l o : Nat → Int32} {t a L : Nat} {mm k : Int32} (ht : t < 4) (ha : a < 4) (hl : l a = nI L) (hL : L ≤ 64)
    (hp : rv_my post c l t (some (L, fun j => c (64 * a + (j + rv_sh k L) % L)))) : wpY_change post (mm, c, l, o) (nI t) (nI 6) (nI a) k := by
  refine ry_chg ht ha (by decide) (by decide) (by decide) (br_f (by decide) (br_t rfl ?_))
  exact ry_turned ha hl hL (fun O h => ry_118 ht hL h hp)
theorem ry_c7 {post : Int32 → SY → Prop} {c l o : Nat → Int32} {t a L : Nat} {mm k : Int32} (ht : t < 4) (ha : a < 4) (hl : l a = nI L) (hL : L ≤ 64)
    (hp : rv_my post c l t (some (L, fun j => rv_ps (fun i => c (64 * a + i)) (j + 1)))) : wpY_change post (mm, c, l, o) (nI t) (nI 7) (nI a) k := by
  refine ry_chg ht ha (by decide) (by decide) (by decide) (br_f (by decide) (br_f (by decide) ?_))
  refine ry_91A _ ht ha hl hL (fun i O P hi h hP => ry_s7 ha hl hL hi (by omega) (rv_ps (fun i => c (64 * a + i)) i) ?_ ?_ hP) hp
  · intro e
    rw [e]
    rfl
  · intro q e
    exact ⟨q, e, (by rw [h q (by omega), e]; rfl)⟩
theorem ry_c8 {post : Int32 → SY → Prop} {c l o : Nat → Int32} {t a L : Nat} {mm k : Int32} (ht : t < 4) (ha : a < 4) (hl : l a = nI L) (hL : L ≤ 64)
    (hp : rv_my post c l t (some (L, rv_gm (fun i => c (64 * a + i))))) : wpY_change post (mm, c, l, o) (nI t) (nI 8) (nI a) k := by
  refine ry_chg ht ha (by decide) (by decide) (by decide) (br_f (by decide) (br_f (by decide) ?_))
  refine ry_91A _ ht ha hl hL (fun i O P hi h hP => ry_s8 ha hl hL hi (by omega) ?_ ?_) hp
  · intro e
    subst e
    exact hP
  · intro q e
    subst e
    refine ⟨q, rfl, fun z => ?_, fun z => ?_⟩
    · rw [h q (by omega)] at z ⊢
      rwa [rv_gm, if_pos z] at hP
    · rw [h q (by omega)] at z
      rwa [rv_gm, if_neg z] at hP
theorem ry_c9 {post : Int32 → SY → Prop} {c l o : Nat → Int32} {t a L : Nat} {mm k : Int32} (ht : t < 4) (ha : a < 4) (hl : l a = nI L) (hL : L ≤ 64)
    (hp : rv_my post c l t (rv_ol (rv_fl (fun i => decide (¬ c (64 * a + i) = 0)) nI L))) : wpY_change post (mm, c, l, o) (nI t) (nI 9) (nI a) k := by
  refine ry_chg ht ha (by decide) (by decide) (by decide) (br_f (by decide) (br_f (by decide) ?_))
  refine ry_91F _ _ ht ha hl hL (fun i m O P hi hm h hn => ry_s9 ha hl hL hi (by omega) (fun e => h (by simp [e])) (fun e => hn (by simp [e]))) hp
theorem ry_c10 {post : Int32 → SY → Prop} {c l o : Nat → Int32} {t a L : Nat} {mm k : Int32} (ht : t < 4) (ha : a < 4) (hl : l a = nI L) (hL : L ≤ 64)
    (hp : rv_my post c l t (rv_ol (rv_fl (rv_sp (fun i => c (64 * a + i))) (fun i => c (64 * a + i)) L))) : wpY_change post (mm, c, l, o) (nI t) (nI 10) (nI a) k := by
  refine ry_chg ht ha (by decide) (by decide) (by decide) (br_f (by decide) (br_f (by decide) ?_))
  refine ry_91F _ _ ht ha hl hL (fun i m O P hi hm h hn => ry_s10 ha hl hL hi (by omega) (fun e => h (by rw [e]; rfl)) (fun q e z => h ?_) (fun q e z => hn ?_)) hp
  · subst e
    simp [rv_sp, z]
  · subst e
    simp [rv_sp, z]
theorem ry_c4 {post : Int32 → SY → Prop} {c l o : Nat → Int32} {t a L q : Nat} {mm : Int32} (ht : t < 4) (ha : a < 4) (hl : l a = nI L) (hL : L ≤ 64) (hq : q ≤ L)
    (hp : rv_my post c l t (some (q, fun j => c (64 * a + j)))) : wpY_change post (mm, c, l, o) (nI t) (nI 4) (nI a) (nI q) := by
  refine ry_chg4 ht ha (ry_36 ha hl hL hq (br_f (by decide) (br_f (by decide) ?_)))
  refine ry_91 (fun i s => s.1 = nI (min i q) ∧ rv_sg (fun j => c (64 * a + j)) (min i q) s.2) ha hl hL ⟨by rw [Nat.zero_min]; rfl, by rw [Nat.zero_min]; exact rv_sg0 _ _⟩ ?_ ?_
  · intro i s P hi h hk
    obtain ⟨m, O⟩ := s
    obtain ⟨h1, h2⟩ := h
    dsimp only at h1 h2
    subst h1
    refine ry_s4 ha hl hL hi (by omega) (by omega) (fun e => hk (_, _) ?_) (fun e => hk (_, _) ?_)
    · rw [Nat.min_eq_left (by omega)] at h2 ⊢
      rw [Nat.min_eq_left (by omega)]
      exact ⟨rfl, rv_sg1 h2 rfl⟩
    · rw [Nat.min_eq_right (by omega)] at h2 ⊢
      rw [Nat.min_eq_right (by omega)]
      exact ⟨rfl, h2⟩
  · intro s h
    rw [Nat.min_eq_right hq] at h
    rw [h.1]
    exact ry_118 ht (by omega) h.2 hp
theorem ry_c5 {post : Int32 → SY → Prop} {c l o : Nat → Int32} {t a L q : Nat} {mm : Int32} (ht : t < 4) (ha : a < 4) (hl : l a = nI L) (hL : L ≤ 64) (hq : q ≤ L)
    (hp : rv_my post c l t (some (L - q, fun j => c (64 * a + (q + j))))) : wpY_change post (mm, c, l, o) (nI t) (nI 5) (nI a) (nI q) := by
  refine ry_chg5 ht ha (ry_36 ha hl hL hq (br_f (by decide) (br_f (by decide) ?_)))
  refine ry_91 (fun i s => s.1 = nI (i - q) ∧ rv_sg (fun j => c (64 * a + (q + j))) (i - q) s.2) ha hl hL ⟨by rw [Nat.zero_sub]; rfl, by rw [Nat.zero_sub]; exact rv_sg0 _ _⟩ ?_ ?_
  · intro i s P hi h hk
    obtain ⟨m, O⟩ := s
    obtain ⟨h1, h2⟩ := h
    dsimp only at h1 h2
    subst h1
    refine ry_s5 ha hl hL hi (by omega) (by omega) (fun e => hk (_, _) ?_) (fun e => hk (_, _) ?_)
    · rw [show i + 1 - q = i - q + 1 by omega]
      refine ⟨rfl, rv_sg1 h2 ?_⟩
      rw [show q + (i - q) = i by omega]
    · rw [show i - q = i + 1 - q by omega] at h2 ⊢
      exact ⟨rfl, h2⟩
  · intro s h
    rw [h.1]
    exact ry_118 ht (show L - q ≤ 64 by omega) h.2 hp
/-! both sides -/
theorem rv_chg {k : Nat} {c l r o : Nat → Int32} {mm op kk : Int32} {L : Nat → Nat} {t a : Nat} (h : ∀ t, t < 4 → l t = nI (L t) ∧ L t ≤ 64) (ht : t < 4) (ha : a < 4) (e : Option (Nat × (Nat → Int32)))
    (hX : ∀ post, rv_mk post c l e → wpX_makeChanged post (c, l, r) op (nI a) kk) (hY : ∀ post, rv_my post c l t e → wpY_change post (mm, c, l, o) (nI t) op (nI a) kk) :
    wpX_change (fun r u' => wpY_change (fun r' v' => r' = r ∧ i_Rel (k + 5) u' v') (mm, c, l, o) (nI t) op (nI a) kk) (c, l, r) (nI t) op (nI a) kk := by
  unfold wpX_change
  dsimp only
  refine rx_isV ht (br_f (by decide) (rx_isV ha (br_f (by decide) (hX _ ?_))))
  cases e with
  | none => exact fun R => rx_storeN (hY _ (fun m O => ⟨rfl, rv_rel h⟩))
  | some e =>
    intro R h6 hR
    refine rx_store ht h6 ?_
    rw [rv_stcE hR]
    exact hY _ (fun O => ⟨rfl, rv_relU h h6⟩)
theorem rv_mkE {post : Int32 → SX → Prop} {c l : Nat → Int32} {e : Option (Nat × (Nat → Int32))} (h : rv_mk post c l e) : rv_mk (fun r u => match u with | (x, y, z) => post r (x, y, z)) c l e := by
  cases e with
  | none => exact h
  | some e => exact h
theorem rx_chgN {post : Int32 → SX → Prop} {c l r : Nat → Int32} {op x k : Int32} (hop : op < 0 ∨ ¬ op ≤ 11) (h : rv_mk post c l none) : wpX_makeChanged post (c, l, r) op x k := by
  by_cases h0 : op < 0
  · exact br_t h0 (h r)
  · exact br_f h0 (br_t (Int32.not_le.mp (hop.resolve_left h0)) (h r))
theorem i_vc_change {k : Nat} {u : SX} {v : SY} (I : i_Rel k u v) (hk : k + 5 ≤ 2560) (v1 : Int32) (v2 : Int32) (v3 : Int32) (v4 : Int32) : wpX_change (fun r u' => wpY_change (fun r' v' => r' = r ∧ i_Rel (k + 5) u' v') v v1 v2 v3 v4) u v1 v2 v3 v4 := by
  obtain ⟨c, l, r, o, m, L, rfl, rfl, h⟩ := I
  rcases rv_vec v1 with hb | ⟨t, ht, rfl⟩
  · unfold wpX_change wpY_change
    dsimp only
    exact rx_isVn hb (br_t rfl (ry_badn hb (br_f (by decide) ⟨rfl, rv_rel h⟩)))
  rcases rv_vec v3 with hb | ⟨a, ha, rfl⟩
  · unfold wpX_change wpY_change
    dsimp only
    exact rx_isV ht (br_f (by decide) (rx_isVn hb (br_t rfl (ry_bad ht (br_t rfl (ry_badn hb (br_f (by decide) ⟨rfl, rv_rel h⟩)))))))
  obtain ⟨hl, hL⟩ := h a ha
  by_cases hop : v2 < 0 ∨ ¬ v2 ≤ 11
  · exact rv_chg h ht ha none (fun post hp => rx_chgN hop hp) (fun post hp => ry_chgN ht ha hop hp)
  have hn0 : ¬ v2 < 0 := fun z => hop (Or.inl z)
  have hn1 : v2 ≤ 11 := by
    by_cases z : v2 ≤ 11
    · exact z
    · exact absurd (Or.inr z) hop
  obtain ⟨p, hp11, rfl⟩ := nI_of2 (n := 11) (by decide) hn0 hn1
  match p, hp11 with
  | 0, _ => exact rv_chg h ht ha _ (fun post hp => (br_f (by decide) (br_f (by decide) (br_t rfl (rx_makeRaised ha hl hL (rv_mkE hp)))))) (fun post hp => ry_c0 ht ha hl hL hp)
  | 1, _ => exact rv_chg h ht ha _ (fun post hp => (br_f (by decide) (br_f (by decide) (br_f (by decide) (br_t rfl (rx_makeMultiplied ha hl hL (rv_mkE hp))))))) (fun post hp => ry_c1 ht ha hl hL hp)
  | 2, _ => exact rv_chg h ht ha _ (fun post hp => (br_f (by decide) (br_f (by decide) (br_f (by decide) (br_f (by decide) (br_t rfl (rx_makeReversed ha hl hL (rv_mkE hp)))))))) (fun post hp => ry_c2 ht ha hl hL hp)
  | 3, _ => exact rv_chg h ht ha _ (fun post hp => (br_f (by decide) (br_f (by decide) (br_f (by decide) (br_f (by decide) (br_f (by decide) (br_t rfl (rx_makeSorted ha hl hL (rv_mkE hp))))))))) (fun post hp => ry_c3 ht ha hl hL hp)
  | 4, _ =>
    by_cases hq : v4 < 0 ∨ ¬ v4 ≤ nI (L a)
    · exact rv_chg h ht ha none (fun post hp => (br_f (by decide) (br_f (by decide) (br_f (by decide) (br_f (by decide) (br_f (by decide) (br_f (by decide) (br_t rfl (rx_makeFirstN ha hl hq (rv_mkE hp)))))))))) (fun post hp => ry_chg4 ht ha (ry_36N ha hl hq hp))
    · have hq0 : ¬ v4 < 0 := fun z => hq (Or.inl z)
      obtain ⟨q, hq1, rfl⟩ := nI_of hq0
      have hq2 : q ≤ L a := by
        by_cases z : q ≤ L a
        · exact z
        · exact absurd (Or.inr (nI_ge (by omega) hq1)) hq
      exact rv_chg h ht ha _ (fun post hp => (br_f (by decide) (br_f (by decide) (br_f (by decide) (br_f (by decide) (br_f (by decide) (br_f (by decide) (br_t rfl (rx_makeFirst ha hl hL hq2 (rv_mkE hp)))))))))) (fun post hp => ry_c4 ht ha hl hL hq2 hp)
  | 5, _ =>
    by_cases hq : v4 < 0 ∨ ¬ v4 ≤ nI (L a)
    · exact rv_chg h ht ha none (fun post hp => (br_f (by decide) (br_f (by decide) (br_f (by decide) (br_f (by decide) (br_f (by decide) (br_f (by decide) (br_f (by decide) (br_t rfl (rx_makeWithoutFirstN ha hl hq (rv_mkE hp))))))))))) (fun post hp => ry_chg5 ht ha (ry_36N ha hl hq hp))
    · have hq0 : ¬ v4 < 0 := fun z => hq (Or.inl z)
      obtain ⟨q, hq1, rfl⟩ := nI_of hq0
      have hq2 : q ≤ L a := by
        by_cases z : q ≤ L a
        · exact z
        · exact absurd (Or.inr (nI_ge (by omega) hq1)) hq
      exact rv_chg h ht ha _ (fun post hp => (br_f (by decide) (br_f (by decide) (br_f (by decide) (br_f (by decide) (br_f (by decide) (br_f (by decide) (br_f (by decide) (br_t rfl (rx_makeWithoutFirst ha hl hL hq2 (rv_mkE hp))))))))))) (fun post hp => ry_c5 ht ha hl hL hq2 hp)
  | 6, _ => exact rv_chg h ht ha _ (fun post hp => (br_f (by decide) (br_f (by decide) (br_f (by decide) (br_f (by decide) (br_f (by decide) (br_f (by decide) (br_f (by decide) (br_f (by decide) (br_t rfl (rx_makeTurned ha hl hL (rv_mkE hp)))))))))))) (fun post hp => ry_c6 ht ha hl hL hp)
  | 7, _ => exact rv_chg h ht ha _ (fun post hp => (br_f (by decide) (br_f (by decide) (br_f (by decide) (br_f (by decide) (br_f (by decide) (br_f (by decide) (br_f (by decide) (br_f (by decide) (br_f (by decide) (br_t rfl (rx_makeRunningSums ha hl hL (rv_mkE hp))))))))))))) (fun post hp => ry_c7 ht ha hl hL hp)
  | 8, _ => exact rv_chg h ht ha _ (fun post hp => (br_f (by decide) (br_f (by decide) (br_f (by decide) (br_f (by decide) (br_f (by decide) (br_f (by decide) (br_f (by decide) (br_f (by decide) (br_f (by decide) (br_f (by decide) (br_t rfl (rx_makeRunningGreatest ha hl hL (rv_mkE hp)))))))))))))) (fun post hp => ry_c8 ht ha hl hL hp)
  | 9, _ => exact rv_chg h ht ha _ (fun post hp => (br_f (by decide) (br_f (by decide) (br_f (by decide) (br_f (by decide) (br_f (by decide) (br_f (by decide) (br_f (by decide) (br_f (by decide) (br_f (by decide) (br_f (by decide) (br_f (by decide) (br_t rfl (rx_makePlaces ha hl hL (rv_mkE hp))))))))))))))) (fun post hp => ry_c9 ht ha hl hL hp)
  | 10, _ => exact rv_chg h ht ha _ (fun post hp => (br_f (by decide) (br_f (by decide) (br_f (by decide) (br_f (by decide) (br_f (by decide) (br_f (by decide) (br_f (by decide) (br_f (by decide) (br_f (by decide) (br_f (by decide) (br_f (by decide) (br_f (by decide) (br_t rfl (rx_makeSteps ha hl hL (rv_mkE hp)))))))))))))))) (fun post hp => ry_c10 ht ha hl hL hp)
  | 11, _ => exact rv_chg h ht ha _ (fun post hp => (br_f (by decide) (br_f (by decide) (br_f (by decide) (br_f (by decide) (br_f (by decide) (br_f (by decide) (br_f (by decide) (br_f (by decide) (br_f (by decide) (br_f (by decide) (br_f (by decide) (br_f (by decide) (br_f (by decide) (br_t rfl (rx_makeDifferences ha hl hL (rv_mkE hp))))))))))))))))) (fun post hp => ry_c11 ht ha hl hL hp)
