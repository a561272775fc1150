theorem rv_lcT {A B : Prop} {l : Nat → Int32} {a L i : Nat} (ha : a < 4) (hl : l a = nI L) (hi : i < 2 ^ 31) (h : L ≤ i) (f : A) :
    vp_in (nI a) 4 ∧ ((l (nI a).toNatClampNeg ≤ nI i → A) ∧ (¬ l (nI a).toNatClampNeg ≤ nI i → B)) := by
  rw [rv_lv ha hl]
  exact ⟨rv_v4 ha, br_t (nI_le h hi) f⟩
theorem rv_lcF {A B : Prop} {l : Nat → Int32} {a L i : Nat} (ha : a < 4) (hl : l a = nI L) (hL : L ≤ 64) (h : i < L) (g : B) :
    vp_in (nI a) 4 ∧ ((l (nI a).toNatClampNeg ≤ nI i → A) ∧ (¬ l (nI a).toNatClampNeg ≤ nI i → B)) := by
  rw [rv_lv ha hl]
  exact ⟨rv_v4 ha, br_f (nI_ge h (by omega)) g⟩
theorem rv_pi (a i : Nat) : 64 * nI a + nI (i + 1) - 1 = nI (64 * a + i) := by
  rw [rv_ay, ← Nat.add_assoc, nI_pred]
theorem ry_in1 {a i : Nat} (ha : a < 4) (hi : i < 64) : vp_in (64 * nI a + nI (i + 1) - 1) 256 := by
  rw [rv_pi]; exact vp_in_nI (by omega) (by decide)
theorem ry_rd1 {a i : Nat} (c : Nat → Int32) (ha : a < 4) (hi : i < 64) : c (64 * nI a + nI (i + 1) - 1).toNatClampNeg = c (64 * a + i) := by
  rw [rv_pi, nI_clamp (by omega)]
/-! stretches -/
theorem rx_ss0 {post : Int32 → Prop} {u : SX} {x : Int32} (h : post 1) : wpX_startsStretch post u x (nI 0) := by
  obtain ⟨c, l, r⟩ := u
  exact br_t rfl h
theorem rx_ss1 {post : Int32 → Prop} {c l r : Nat → Int32} {a i : Nat} (ha : a < 4) (hi : i + 1 < 64) (h0 : c (64 * a + (i + 1)) = c (64 * a + i) → post 0) (h1 : ¬ c (64 * a + (i + 1)) = c (64 * a + i) → post 1) : wpX_startsStretch post (c, l, r) (nI a) (nI (i + 1)) := by
  unfold wpX_startsStretch
  dsimp only
  rw [nI_pred]
  exact br_f (nI_ne0 (by omega) (by omega)) (rx_cell ha hi (rx_cell ha (by omega) (br_c h0 h1)))
theorem rq_str {c l r o : Nat → Int32} {m : Int32} {a L : Nat} (ha : a < 4) (hl : l a = nI L) (hL : L ≤ 64) : ∀ d i : Nat, ∀ x : Int32, i + d = L →
    ∃ z : Int32, (∀ post : Int32 → Prop, post z → wX_stretches_14 post (nI a) c l r (d + 1) x (nI i)) ∧ (∀ post : Int32 → Prop, post z → wY_stretches_13 post (nI a) m c l o (d + 1) x (nI i)) := by
  intro d
  induction d with
  | zero =>
    intro i x hi
    exact ⟨x, fun _ hp => rv_lcT ha hl (by omega) (by omega) hp, fun _ hp => rv_lcT ha hl (by omega) (by omega) hp⟩
  | succ d ih =>
    intro i x hi
    obtain ⟨zt, tX, tY⟩ := ih (i + 1) (x + 1) (by omega)
    obtain ⟨zf, fX, fY⟩ := ih (i + 1) x (by omega)
    have hiL : i < L := by omega
    cases i with
    | zero =>
      exact ⟨zt, fun post hp => rv_lcF ha hl hL hiL (rx_ss0 (br_f (by decide) (nm_e (rv_inc (tX post hp))))), fun post hp => rv_lcF ha hl hL hiL (br_t rfl (nm_e (rv_inc (tY post hp))))⟩
    | succ i =>
      have n0 : ¬ nI (i + 1) = 0 := nI_ne0 (by omega) (by omega)
      by_cases e : c (64 * a + (i + 1)) = c (64 * a + i)
      · refine ⟨zf, fun post hp => rv_lcF ha hl hL hiL (rx_ss1 ha (by omega) (fun _ => br_t rfl (rv_inc (fX post hp))) (fun h => absurd e h)), fun post hp => rv_lcF ha hl hL hiL (br_f n0 ⟨ry_in ha (by omega), ry_in1 ha (by omega), ?_⟩)⟩
        rw [ry_rd c ha (by omega), ry_rd1 c ha (by omega)]
        exact br_t e (rv_inc (fY post hp))
      · refine ⟨zt, fun post hp => rv_lcF ha hl hL hiL (rx_ss1 ha (by omega) (fun h => absurd h e) (fun _ => br_f (by decide) (nm_e (rv_inc (tX post hp))))), fun post hp => rv_lcF ha hl hL hiL (br_f n0 ⟨ry_in ha (by omega), ry_in1 ha (by omega), ?_⟩)⟩
        rw [ry_rd c ha (by omega), ry_rd1 c ha (by omega)]
        exact br_f e (nm_e (rv_inc (tY post hp)))
theorem i_vc_stretches {k : Nat} {u : SX} {v : SY} (I : i_Rel k u v) (hk : k + 5 ≤ 2560) (v1 : Int32) : wpX_stretches (fun r => wpY_stretches (fun r' => r' = r ∧ i_Rel (k + 5) u v) v v1) u v1 := by
  obtain ⟨c, l, r, o, m, L, rfl, rfl, h⟩ := I
  unfold wpX_stretches wpY_stretches
  dsimp only
  rcases rv_vec v1 with hb | ⟨t, ht, rfl⟩
  · exact rx_isVn hb (br_t rfl (ry_badn hb (br_f (by decide) ⟨rfl, rv_rel h⟩)))
  · obtain ⟨hl, hL⟩ := h t ht
    obtain ⟨z, hX, hY⟩ := rq_str (c := c) (r := r) (o := o) (m := m) ht hl hL (L t) 0 0 (by omega)
    exact rx_isV ht (br_f (by decide) ⟨_, hX _ (ry_bad ht (br_t rfl ⟨_, hY _ ⟨rfl, rv_rel h⟩⟩))⟩)
/-! sum -/
theorem rq_sum {c l r o : Nat → Int32} {m : Int32} {a L : Nat} (ha : a < 4) (hl : l a = nI L) (hL : L ≤ 64) : ∀ d i : Nat, ∀ x : Int64, i + d = L →
    ∃ z : Int64, (∀ post : Int64 → Prop, post z → wX_sum_15 post (nI a) c l r (d + 1) x (nI i)) ∧ (∀ post : Int64 → Prop, post z → wY_sum_5 post (nI a) m c l o (d + 1) x (nI i)) := by
  intro d
  induction d with
  | zero =>
    intro i x hi
    refine ⟨x, fun _ hp => rv_lcT ha hl (by omega) (by omega) hp, fun _ hp => ?_⟩
    unfold wY_sum_5
    exact ry_bad ha (br_t rfl (rv_lcT ha hl (by omega) (by omega) hp))
  | succ d ih =>
    intro i x hi
    obtain ⟨z, hX, hY⟩ := ih (i + 1) (x + (c (64 * a + i)).toInt64) (by omega)
    have hiL : i < L := by omega
    refine ⟨z, fun post hp => rv_lcF ha hl hL hiL (rx_cell ha (by omega) (nm_e (rv_inc (hX post hp)))), fun post hp => ?_⟩
    unfold wY_sum_5
    refine ry_bad ha (br_t rfl (rv_lcF ha hl hL hiL ⟨ry_in ha (by omega), ?_⟩))
    rw [ry_rd c ha (by omega)]
    exact nm_e (rv_inc (hY post hp))
theorem i_vc_sum {k : Nat} {u : SX} {v : SY} (I : i_Rel k u v) (hk : k + 5 ≤ 2560) (v1 : Int32) : wpX_sum (fun r => wpY_sum (fun r' => r' = r ∧ i_Rel (k + 5) u v) v v1) u v1 := by
  obtain ⟨c, l, r, o, m, L, rfl, rfl, h⟩ := I
  unfold wpX_sum wpY_sum
  dsimp only
  rcases rv_vec v1 with hb | ⟨t, ht, rfl⟩
  · refine rx_isVn hb (br_t rfl ⟨1, ?_⟩)
    unfold wY_sum_5
    exact ry_badn hb (br_f (by decide) ⟨rfl, rv_rel h⟩)
  · obtain ⟨hl, hL⟩ := h t ht
    obtain ⟨z, hX, hY⟩ := rq_sum (c := c) (r := r) (o := o) (m := m) ht hl hL (L t) 0 0 (by omega)
    exact rx_isV ht (br_f (by decide) ⟨_, hX _ ⟨_, hY _ ⟨rfl, rv_rel h⟩⟩⟩)
/-! find -/
theorem rq_find {c l r o : Nat → Int32} {m x f : Int32} {a L : Nat} (ha : a < 4) (hl : l a = nI L) (hL : L ≤ 64) : ∀ d i : Nat, i + d = L → (∀ q, i ≤ q → q < 64 → ¬ nI q < f) →
    ∃ z : Int32, (∀ post : Int32 → Prop, post z → wX_find_25 post (nI a) x c l r (d + 1) (nI i)) ∧ (∀ post : Int32 → Prop, post z → wY_find_12 post (nI a) x f m c l o (d + 1) (nI i)) := by
  intro d
  induction d with
  | zero =>
    intro i hi hf
    exact ⟨-1, fun _ hp => rv_lcT ha hl (by omega) (by omega) hp, fun _ hp => rv_lcT ha hl (by omega) (by omega) hp⟩
  | succ d ih =>
    intro i hi hf
    obtain ⟨z, hX, hY⟩ := ih (i + 1) (by omega) (fun q h1 h2 => hf q (by omega) h2)
    have hiL : i < L := by omega
    have hif := hf i (Nat.le_refl _) (by omega)
    by_cases e : c (64 * a + i) = x
    · refine ⟨nI i, fun post hp => rv_lcF ha hl hL hiL (rx_cell ha (by omega) (br_t e hp)), fun post hp => rv_lcF ha hl hL hiL (br_f hif ⟨ry_in ha (by omega), ?_⟩)⟩
      rw [ry_rd c ha (by omega)]
      exact br_t e hp
    · refine ⟨z, fun post hp => rv_lcF ha hl hL hiL (rx_cell ha (by omega) (br_f e (rv_inc (hX post hp)))), fun post hp => rv_lcF ha hl hL hiL (br_f hif ⟨ry_in ha (by omega), ?_⟩)⟩
      rw [ry_rd c ha (by omega)]
      exact br_f e (rv_inc (hY post hp))
theorem rq_skip {c l o : Nat → Int32} {m x : Int32} {a L f : Nat} (ha : a < 4) (hl : l a = nI L) (hL : L ≤ 64) (hf : f < 2 ^ 31) (post : Int32 → Prop) (n : Nat) : ∀ d i : Nat, i + d ≤ f → i + d ≤ L →
    wY_find_12 post (nI a) x (nI f) m c l o n (nI (i + d)) → wY_find_12 post (nI a) x (nI f) m c l o (n + d) (nI i) := by
  intro d
  induction d with
  | zero => exact fun i _ _ h => h
  | succ d ih =>
    intro i h1 h2 h
    refine rv_lcF ha hl hL (by omega) (br_t (nI_lt (by omega) hf) (rv_inc (ih (i + 1) (by omega) (by omega) ?_)))
    rw [show i + 1 + d = i + (d + 1) by omega]
    exact h
theorem i_vc_find {k : Nat} {u : SX} {v : SY} (I : i_Rel k u v) (hk : k + 5 ≤ 2560) (v1 : Int32) (v2 : Int32) (v3 : Int32) : wpX_find (fun r => wpY_find (fun r' => r' = r ∧ i_Rel (k + 5) u v) v v1 v2 v3) u v1 v2 v3 := by
  obtain ⟨c, l, r, o, m, L, rfl, rfl, h⟩ := I
  unfold wpX_find wpY_find
  dsimp only
  rcases rv_vec v1 with hb | ⟨t, ht, rfl⟩
  · exact rx_isVn hb (br_t rfl (ry_badn hb (br_f (by decide) ⟨rfl, rv_rel h⟩)))
  · obtain ⟨hl, hL⟩ := h t ht
    refine rx_isV ht (br_f (by decide) ?_)
    by_cases h0 : v3 < 0
    · obtain ⟨z, hX, hY⟩ := rq_find (c := c) (r := r) (o := o) (m := m) (x := v2) (f := v3) ht hl hL (L t) 0 (by omega) (fun q _ h2 h3 => nI_pos (n := q) (by omega) (Int32.lt_trans h3 h0))
      exact br_f (Int32.not_le.mpr h0) ⟨_, hX _ (ry_bad ht (br_t rfl ⟨_, hY _ ⟨rfl, rv_rel h⟩⟩))⟩
    · refine br_t (Int32.not_lt.mp h0) ?_
      obtain ⟨f, hf, rfl⟩ := nI_of h0
      by_cases hfL : f < L t
      · obtain ⟨z, hX, hY⟩ := rq_find (c := c) (r := r) (o := o) (m := m) (x := v2) (f := nI f) ht hl hL (L t - f) f (by omega) (fun q h1 h2 => nI_nlt h1 (by omega))
        refine ⟨_, hX _ (ry_bad ht (br_t rfl ⟨_, rq_skip (f := f) ht hl hL hf _ (L t - f + 1) f 0 (by omega) (by omega) ?_⟩))⟩
        rw [Nat.zero_add]
        exact hY _ ⟨rfl, rv_rel h⟩
      · refine ⟨1, rv_lcT ht hl hf (by omega) (ry_bad ht (br_t rfl ⟨_, rq_skip (f := f) ht hl hL hf _ 1 (L t) 0 (by omega) (by omega) ?_⟩))⟩
        rw [Nat.zero_add]
        exact rv_lcT ht hl (by omega) (Nat.le_refl _) ⟨rfl, rv_rel h⟩
/-! between -/
theorem rq_btw {c l r o : Nat → Int32} {m p q : Int32} {a L : Nat} (ha : a < 4) (hl : l a = nI L) (hL : L ≤ 64) : ∀ d i : Nat, ∀ x : Int32, i + d = L →
    ∃ z : Int32, (∀ post : Int32 → Prop, post z → wX_between_16 post (nI a) p q c l r (d + 1) x (nI i)) ∧ (∀ post : Int32 → Prop, post z → wY_between_15 post (nI a) p q m c l o (d + 1) x (nI i)) := by
  intro d
  induction d with
  | zero =>
    intro i x hi
    exact ⟨x, fun _ hp => rv_lcT ha hl (by omega) (by omega) hp, fun _ hp => rv_lcT ha hl (by omega) (by omega) hp⟩
  | succ d ih =>
    intro i x hi
    obtain ⟨zt, tX, tY⟩ := ih (i + 1) (x + 1) (by omega)
    obtain ⟨zf, fX, fY⟩ := ih (i + 1) x (by omega)
    have hiL : i < L := by omega
    have hr := ry_rd c ha (show i < 64 by omega)
    by_cases e1 : c (64 * a + i) < p
    · exact ⟨zf, fun post hp => rv_lcF ha hl hL hiL (rx_cell ha (by omega) (br_t e1 (rv_inc (fX post hp)))), fun post hp => rv_lcF ha hl hL hiL ⟨ry_in ha (by omega), nm_r hr (br_t e1 (rv_inc (fY post hp)))⟩⟩
    · by_cases e2 : q < c (64 * a + i)
      · exact ⟨zf, fun post hp => rv_lcF ha hl hL hiL (rx_cell ha (by omega) (br_f e1 (br_t e2 (rv_inc (fX post hp))))), fun post hp => rv_lcF ha hl hL hiL ⟨ry_in ha (by omega), nm_r hr (br_f e1 (br_t e2 (rv_inc (fY post hp))))⟩⟩
      · exact ⟨zt, fun post hp => rv_lcF ha hl hL hiL (rx_cell ha (by omega) (br_f e1 (br_f e2 (nm_e (rv_inc (tX post hp)))))), fun post hp => rv_lcF ha hl hL hiL ⟨ry_in ha (by omega), nm_r hr (br_f e1 (br_f e2 (nm_e (rv_inc (tY post hp)))))⟩⟩
theorem i_vc_between {k : Nat} {u : SX} {v : SY} (I : i_Rel k u v) (hk : k + 5 ≤ 2560) (v1 : Int32) (v2 : Int32) (v3 : Int32) : wpX_between (fun r => wpY_between (fun r' => r' = r ∧ i_Rel (k + 5) u v) v v1 v2 v3) u v1 v2 v3 := by
  obtain ⟨c, l, r, o, m, L, rfl, rfl, h⟩ := I
  unfold wpX_between wpY_between
  dsimp only
  rcases rv_vec v1 with hb | ⟨t, ht, rfl⟩
  · exact rx_isVn hb (br_t rfl (ry_badn hb (br_f (by decide) ⟨rfl, rv_rel h⟩)))
  · obtain ⟨hl, hL⟩ := h t ht
    obtain ⟨z, hX, hY⟩ := rq_btw (c := c) (r := r) (o := o) (m := m) (p := v2) (q := v3) ht hl hL (L t) 0 0 (by omega)
    exact rx_isV ht (br_f (by decide) ⟨_, hX _ (ry_bad ht (br_t rfl ⟨_, hY _ ⟨rfl, rv_rel h⟩⟩))⟩)
/-! compare -/
def rv_cmp (A B : Nat) : Int32 := if A = B then 0 else if B ≤ A then 2 else -2
theorem rx_83 {post : Int32 → Prop} {c l r : Nat → Int32} {a b A B : Nat} (ha : a < 4) (hb : b < 4) (hl : l a = nI A) (hA : A ≤ 64) (hm : l b = nI B) (hB : B ≤ 64) (h : post (rv_cmp A B)) : wX_compare_83 post (nI a) (nI b) c l r := by
  unfold wX_compare_83
  rw [rv_lv ha hl, rv_lv hb hm]
  refine ⟨rv_v4 ha, rv_v4 hb, pk_eq A B (fun e => ?_) (fun e => ⟨rv_v4 ha, rv_v4 hb, pk_le B A (fun e2 => ?_) (fun e2 => ?_)⟩)⟩
  · rwa [rv_cmp, if_pos e] at h
  · rwa [rv_cmp, if_neg e, if_pos e2] at h
  · rwa [rv_cmp, if_neg e, if_neg (by omega)] at h
theorem ry_44 {post : Int32 → Prop} {m : Int32} {c l o : Nat → Int32} {a b A B : Nat} (ha : a < 4) (hb : b < 4) (hl : l a = nI A) (hA : A ≤ 64) (hm : l b = nI B) (hB : B ≤ 64) (h : post (rv_cmp A B)) : wY_compare_44 post (nI a) (nI b) m c l o := by
  unfold wY_compare_44
  rw [rv_lv ha hl, rv_lv hb hm]
  refine ⟨rv_v4 ha, rv_v4 hb, pk_le B A (fun e => ⟨rv_v4 ha, rv_v4 hb, pk_le A B (fun e2 => ?_) (fun e2 => ?_)⟩) (fun e => ?_)⟩
  · rwa [rv_cmp, if_pos (by omega)] at h
  · rwa [rv_cmp, if_neg (by omega), if_pos e] at h
  · rwa [rv_cmp, if_neg (by omega), if_neg (by omega)] at h
theorem rq_cmp {c l r o : Nat → Int32} {m : Int32} {a b A B : Nat} (ha : a < 4) (hb : b < 4) (hl : l a = nI A) (hA : A ≤ 64) (hm : l b = nI B) (hB : B ≤ 64) : ∀ d i : Nat, i + d = 64 → i ≤ A → i ≤ B →
    ∃ z : Int32, (∀ post : Int32 → Prop, post z → wX_compare_20 post (nI a) (nI b) c l r (d + 1) (nI i)) ∧ (∀ post : Int32 → Prop, post z → wY_compare_18 post (nI a) (nI b) m c l o (d + 1) (nI i)) := by
  intro d
  induction d with
  | zero =>
    intro i hi h1 h2
    refine ⟨rv_cmp A B, fun _ hp => rv_lcT ha hl (by omega) (by omega) (rx_83 ha hb hl hA hm hB hp), fun _ hp => br_t (nI_le (a := 64) (by omega) (by omega)) ?_⟩
    rwa [rv_cmp, if_pos (by omega)] at hp
  | succ d ih =>
    intro i hi h1 h2
    have h6 : ¬ (64 : Int32) ≤ nI i := nI_ge (b := 64) (by omega) (by decide)
    by_cases hiA : i < A
    · by_cases hiB : i < B
      · have hY : ∀ {P Q : Prop}, P → vp_in (nI b) 4 ∧ ((nI i < l (nI b).toNatClampNeg → P) ∧ (¬ nI i < l (nI b).toNatClampNeg → Q)) := by
          intro P Q p
          rw [rv_lv hb hm]
          exact ⟨rv_v4 hb, br_t (nI_lt hiB (by omega)) p⟩
        have ra := ry_rd c ha (show i < 64 by omega)
        have rb := ry_rd c hb (show i < 64 by omega)
        by_cases e : c (64 * a + i) = c (64 * b + i)
        · obtain ⟨z, zX, zY⟩ := ih (i + 1) (by omega) (by omega) (by omega)
          exact ⟨z, fun post hp => rv_lcF ha hl hA hiA (rv_lcF hb hm hB hiB (rx_cell ha (by omega) (rx_cell hb (by omega) (br_t e (rv_inc (zX post hp)))))),
            fun post hp => br_f h6 (rv_lcF ha hl hA hiA (hY ⟨ry_in ha (by omega), nm_r ra ⟨ry_in hb (by omega), nm_r rb (br_t e (rv_inc (zY post hp)))⟩⟩))⟩
        · by_cases e2 : c (64 * b + i) ≤ c (64 * a + i)
          · exact ⟨2, fun post hp => rv_lcF ha hl hA hiA (rv_lcF hb hm hB hiB (rx_cell ha (by omega) (rx_cell hb (by omega) (br_f e (br_t e2 hp))))),
              fun post hp => br_f h6 (rv_lcF ha hl hA hiA (hY ⟨ry_in ha (by omega), nm_r ra ⟨ry_in hb (by omega), nm_r rb (br_f e (br_t e2 hp))⟩⟩))⟩
          · exact ⟨-2, fun post hp => rv_lcF ha hl hA hiA (rv_lcF hb hm hB hiB (rx_cell ha (by omega) (rx_cell hb (by omega) (br_f e (br_f e2 hp))))),
              fun post hp => br_f h6 (rv_lcF ha hl hA hiA (hY ⟨ry_in ha (by omega), nm_r ra ⟨ry_in hb (by omega), nm_r rb (br_f e (br_f e2 hp))⟩⟩))⟩
      · refine ⟨rv_cmp A B, fun post hp => rv_lcF ha hl hA hiA (rv_lcT hb hm (by omega) (by omega) (rx_83 ha hb hl hA hm hB hp)), fun post hp => br_f h6 (rv_lcF ha hl hA hiA ⟨rv_v4 hb, br_f ?_ (ry_44 ha hb hl hA hm hB hp)⟩)⟩
        rw [rv_lv hb hm]
        exact nI_nlt (by omega) (by omega)
    · exact ⟨rv_cmp A B, fun post hp => rv_lcT ha hl (by omega) (by omega) (rx_83 ha hb hl hA hm hB hp), fun post hp => br_f h6 (rv_lcT ha hl (by omega) (by omega) (ry_44 ha hb hl hA hm hB hp))⟩
theorem i_vc_compare {k : Nat} {u : SX} {v : SY} (I : i_Rel k u v) (hk : k + 5 ≤ 2560) (v1 : Int32) (v2 : Int32) : wpX_compare (fun r => wpY_compare (fun r' => r' = r ∧ i_Rel (k + 5) u v) v v1 v2) u v1 v2 := by
  obtain ⟨c, l, r, o, m, L, rfl, rfl, h⟩ := I
  unfold wpX_compare wpY_compare
  dsimp only
  rcases rv_vec v1 with hb | ⟨a, ha, rfl⟩
  · exact rx_isVn hb (br_t rfl (ry_badn hb (br_f (by decide) ⟨rfl, rv_rel h⟩)))
  · refine rx_isV ha (br_f (by decide) ?_)
    rcases rv_vec v2 with hb | ⟨b, hb, rfl⟩
    · exact rx_isVn hb (br_t rfl (ry_bad ha (br_t rfl (ry_badn hb (br_f (by decide) ⟨rfl, rv_rel h⟩)))))
    · obtain ⟨hl, hL⟩ := h a ha
      obtain ⟨hm, hM⟩ := h b hb
      obtain ⟨z, hX, hY⟩ := rq_cmp (c := c) (r := r) (o := o) (m := m) ha hb hl hL hm hM 64 0 (by omega) (by omega) (by omega)
      exact rx_isV hb (br_f (by decide) ⟨_, hX _ (ry_bad ha (br_t rfl (ry_bad hb (br_t rfl ⟨_, hY _ ⟨rfl, rv_rel h⟩⟩))))⟩)
