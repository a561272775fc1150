/-! length, at, push -/
theorem i_vc_length {k : Nat} {u : SX} {v : SY} (I : i_Rel k u v) (hk : k + 5 ≤ 2560) (v1 : Int32) : wpX_length (fun r => wpY_length (fun r' => r' = r ∧ i_Rel (k + 5) u v) v v1) u v1 := by
  obtain ⟨c, l, r, o, m, L, rfl, rfl, h⟩ := I
  unfold wpX_length wpY_length
  dsimp only
  rcases rv_vec v1 with hb | ⟨t, ht, rfl⟩
  · exact rx_isVn hb (br_t rfl (ry_badn hb (br_f (by decide) ⟨rfl, rv_rel h⟩)))
  · exact rx_isV ht (br_f (by decide) ⟨rv_v4 ht, ry_bad ht (br_t rfl ⟨rv_v4 ht, rfl, rv_rel h⟩)⟩)
theorem i_vc_at {k : Nat} {u : SX} {v : SY} (I : i_Rel k u v) (hk : k + 5 ≤ 2560) (v1 : Int32) (v2 : Int32) : wpX_at (fun r => wpY_at (fun r' => r' = r ∧ i_Rel (k + 5) u v) v v1 v2) u v1 v2 := by
  obtain ⟨c, l, r, o, m, L, rfl, rfl, h⟩ := I
  unfold wpX_at wpY_at
  dsimp only
  rcases rv_vec v1 with hb | ⟨t, ht, rfl⟩
  · exact rx_isVn hb (br_t rfl (ry_badn hb (br_f (by decide) ⟨rfl, rv_rel h⟩)))
  · obtain ⟨hl, hL⟩ := h t ht
    refine rx_isV ht (br_f (by decide) ?_)
    by_cases h0 : v2 < 0
    · exact br_t h0 (br_t rfl (ry_bad ht (br_t rfl (br_t h0 ⟨rfl, rv_rel h⟩))))
    · by_cases h1 : nI (L t) ≤ v2
      · have h2 : l (nI t).toNatClampNeg ≤ v2 := by rw [rv_lv ht hl]; exact h1
        exact br_f h0 ⟨rv_v4 ht, br_t h2 (br_t rfl (ry_bad ht (br_t rfl (br_f h0 ⟨rv_v4 ht, br_f (Int32.not_lt.mpr h2) ⟨rfl, rv_rel h⟩⟩))))⟩
      · have h2 : ¬ l (nI t).toNatClampNeg ≤ v2 := by rw [rv_lv ht hl]; exact h1
        obtain ⟨j, hj, rfl⟩ := nI_of h0
        rw [nI_leI (by omega) hj] at h1
        have hj6 : j < 64 := by omega
        refine br_f h0 ⟨rv_v4 ht, br_f h2 (br_f (by decide) (rx_cell ht hj6 (ry_bad ht (br_t rfl (br_f h0 ⟨rv_v4 ht, br_t (Int32.not_le.mp h2) ⟨ry_in ht hj6, ?_⟩⟩)))))⟩
        exact ⟨ry_rd c ht hj6, rv_rel h⟩
/-! push -/
def rv_fil (c : Nat → Int32) (p n : Nat) (x : Int32) : Nat → Int32 := fun j => if p ≤ j ∧ j < p + n then x else c j
theorem rv_fil0 (c : Nat → Int32) (p : Nat) (x : Int32) : rv_fil c p 0 x = c := by
  funext j
  exact if_neg (by omega)
theorem rv_fil1 (c : Nat → Int32) (p n : Nat) (x : Int32) : upd (rv_fil c p n x) (p + n) x = rv_fil c p (n + 1) x := by
  funext j
  unfold upd rv_fil
  by_cases h : j = p + n
  · rw [if_pos h, if_pos (by omega)]
  · rw [if_neg h]
    by_cases h2 : p ≤ j ∧ j < p + n
    · rw [if_pos h2, if_pos (by omega)]
    · rw [if_neg h2, if_neg (by omega)]
theorem rv_upu (l : Nat → Int32) (t : Nat) (x y : Int32) : upd (upd l t x) t y = upd l t y := by
  funext j
  unfold upd
  by_cases h : j = t
  · rw [if_pos h, if_pos h]
  · rw [if_neg h, if_neg h, if_neg h]
theorem rv_ups {l : Nat → Int32} {t : Nat} {x : Int32} (h : l t = x) : upd l t x = l := by
  funext j
  unfold upd
  by_cases e : j = t
  · rw [if_pos e, e, h]
  · rw [if_neg e]
theorem rx_push {post : Int32 → SX → Prop} {c l r : Nat → Int32} {t b n : Nat} {x : Int32} (ht : t < 4) (hbn : b + n ≤ 64) (hp : post (nI (b + n)) (rv_fil c (64 * t + b) n x, upd l t (nI (b + n)), r)) :
    ∃ n52, wX_push_52 post (nI t) x (nI n) (nI b) (nI (64 * t + b)) n52 0 c l r := by
  refine loop_0 (fun n52 i C => wX_push_52 post (nI t) x (nI n) (nI b) (nI (64 * t + b)) n52 (nI i) C l r) (fun i C => C = rv_fil c (64 * t + b) i x) n c (rv_fil0 c _ x).symm ?_ ?_
  · intro q C hC
    subst hC
    refine br_t (Int32.le_refl _) ⟨rv_v4 ht, ?_⟩
    rw [nI_add]
    exact nm_r (by rw [nI_clamp (by omega)]) hp
  · intro q i C hi hC hk
    subst hC
    refine br_f (nI_ge hi (by omega)) ?_
    rw [nI_add]
    exact ⟨vp_in_nI (by omega) (by decide), nm_r (by rw [nI_clamp (by omega), rv_fil1]) (rv_inc (hk _ rfl))⟩
theorem ry_push {post : Int32 → SY → Prop} {c l o : Nat → Int32} {t b n : Nat} {x m : Int32} (ht : t < 4) (hl : l t = nI b) (hbn : b + n ≤ 64) (hp : post (nI (b + n)) (m, rv_fil c (64 * t + b) n x, upd l t (nI (b + n)), o)) :
    ∃ n36, wY_push_36 post (nI t) x (nI n) m n36 0 c l o := by
  refine loop_0 (fun n36 i (s : (Nat → Int32) × (Nat → Int32)) => wY_push_36 post (nI t) x (nI n) m n36 (nI i) s.1 s.2 o) (fun i s => s = (rv_fil c (64 * t + b) i x, upd l t (nI (b + i)))) n (c, l) ?_ ?_ ?_
  · rw [rv_fil0, Nat.add_zero, rv_ups hl]
  · intro q s hs
    subst hs
    refine br_t (Int32.le_refl _) ⟨rv_v4 ht, ?_⟩
    rw [nI_clamp (by omega)]
    dsimp only
    rw [pk_us]
    exact hp
  · intro q i s hi hs hk
    subst hs
    refine br_f (nI_ge hi (by omega)) ⟨rv_v4 ht, ?_⟩
    rw [nI_clamp (by omega)]
    dsimp only
    rw [pk_us, rv_ay, nI_1]
    refine ⟨vp_in_nI (by omega) (by decide), nm_r (e' := rv_fil c (64 * t + b) (i + 1) x) (by rw [nI_clamp (by omega), ← rv_fil1, Nat.add_assoc]) ⟨rv_v4 ht, rv_v4 ht, nm_r (rv_upu l t _ _) (rv_inc (hk (_, _) rfl))⟩⟩
theorem i_vc_push {k : Nat} {u : SX} {v : SY} (I : i_Rel k u v) (hk : k + 5 ≤ 2560) (v1 : Int32) (v2 : Int32) (v3 : Int32) : wpX_push (fun r u' => wpY_push (fun r' v' => r' = r ∧ i_Rel (k + 5) u' v') v v1 v2 v3) u v1 v2 v3 := by
  obtain ⟨c, l, r, o, m, L, rfl, rfl, h⟩ := I
  unfold wpX_push wpY_push
  dsimp only
  rcases rv_vec v1 with hb | ⟨t, ht, rfl⟩
  · exact rx_isVn hb (br_t rfl (ry_badn hb (br_f (by decide) ⟨rfl, rv_rel h⟩)))
  · obtain ⟨hl, hL⟩ := h t ht
    refine rx_isV ht (br_f (by decide) ?_)
    by_cases h1 : v3 < 1
    · exact br_t h1 (ry_bad ht (br_t rfl (br_t h1 ⟨rfl, rv_rel h⟩)))
    · have h0 : ¬ v3 < 0 := fun z => h1 (Int32.lt_trans z (by decide))
      obtain ⟨n, hn, rfl⟩ := nI_of h0
      refine br_f h1 (pk_le n 64 (fun hn6 => ⟨rv_v4 ht, ?_⟩) (fun hn6 => ry_bad ht (br_t rfl (br_f h1 (br_t (nI_lt (a := 64) hn6 hn) ⟨rfl, rv_rel h⟩)))))
      refine nm_r (rv_lv ht hl) ?_
      have hy6 : ¬ (64 : Int32) < nI n := nI_nlt (a := 64) hn6 (by decide)
      refine pk_le n (64 - L t) (fun hn2 => ?_) (fun hn2 => ?_) rfl (by rw [rv_64, pk_sub hL])
      · refine nm_r (rv_ax t (L t)) (rx_push ht (by omega) (ry_bad ht (br_t rfl (br_f h1 (br_f hy6 ⟨rv_v4 ht, ?_⟩)))))
        refine br_t ?_ (ry_push ht hl (by omega) ⟨rfl, rv_relU h (by omega)⟩)
        rw [rv_lv ht hl, nI_add]
        exact nI_le (b := 64) (by omega) (by decide)
      · refine ry_bad ht (br_t rfl (br_f h1 (br_f hy6 ⟨rv_v4 ht, br_f ?_ ⟨rfl, rv_rel h⟩⟩)))
        rw [rv_lv ht hl, nI_add]
        exact nI_ge (a := 64) (by omega) (by omega)
