/-! Y's combine, an operation each -/
theorem ry_cmbN {post : Int32 → SY → Prop} {c l o : Nat → Int32} {t a b : Nat} {mm op : Int32} (ht : t < 4) (ha : a < 4) (hb : b < 4) (hop : op < 0 ∨ ¬ op ≤ 10) (h : rv_my post c l t none) : wpY_combine post (mm, c, l, o) (nI t) op (nI a) (nI b) := by
  unfold wpY_combine
  dsimp only
  refine ry_bad ht (br_t rfl (ry_bad ha (br_t rfl (ry_bad hb (br_t rfl ?_)))))
  by_cases h0 : op < 0
  · exact br_t h0 (h _ _)
  · exact br_f h0 (br_f (hop.resolve_left h0) (h _ _))
theorem ry_cmbL {post : Int32 → SY → Prop} {c l o : Nat → Int32} {t a b p : Nat} {mm : Int32} (ht : t < 4) (ha : a < 4) (hb : b < 4) (hp8 : p ≤ 8) (he : l a = l b → ∃ n, wY_combine_66 post (nI t) (nI p) (nI a) (nI b) n 0 0 c l o) (hn : ¬ l a = l b → rv_my post c l t none) : wpY_combine post (mm, c, l, o) (nI t) (nI p) (nI a) (nI b) := by
  unfold wpY_combine
  dsimp only
  refine ry_bad ht (br_t rfl (ry_bad ha (br_t rfl (ry_bad hb (br_t rfl (br_f (nI_pos (by omega)) (br_t (nI_le (b := 10) (by omega) (by decide)) (br_f (nI_nlt (a := 8) hp8 (by decide)) ⟨rv_v4 ha, rv_v4 hb, ?_⟩))))))))
  rw [nI_clamp (by omega), nI_clamp (by omega)]
  exact br_c he (fun z => hn z _ _)
theorem ry_cmbH {post : Int32 → SY → Prop} {c l o : Nat → Int32} {t a b A p : Nat} {mm : Int32} (ht : t < 4) (ha : a < 4) (hb : b < 4) (hl : l a = nI A) (hA : A ≤ 64) (hp8 : 8 < p) (hp10 : p ≤ 10) (h : wY_combine_119 post (nI t) (nI p) (nI a) (nI b) 0 c l o) : wpY_combine post (mm, c, l, o) (nI t) (nI p) (nI a) (nI b) := by
  unfold wpY_combine
  dsimp only
  refine ry_bad ht (br_t rfl (ry_bad ha (br_t rfl (ry_bad hb (br_t rfl (br_f (nI_pos (by omega)) (br_t (nI_le (b := 10) (by omega) (by decide)) (br_t (nI_lt (a := 8) hp8 (by omega)) ⟨1, ?_⟩))))))))
  exact ⟨rv_v4 ha, br_c (fun _ => h) (fun _ => br_t (nI_lt (a := 8) hp8 (by omega)) h)⟩
theorem ry_dA {post : Int32 → SY → Prop} {c l o : Nat → Int32} {t a b A p : Nat} {mm : Int32} (hp6 : p ≤ 6) (ht : t < 4) (ha : a < 4) (hb : b < 4) (hl : l a = nI A) (hA : A ≤ 64) (hm : l b = nI A)
    (hp : rv_my post c l t (some (A, fun j => rv_wk p (c (64 * a + j)) (c (64 * b + j))))) : wpY_combine post (mm, c, l, o) (nI t) (nI p) (nI a) (nI b) := by
  refine ry_cmbL ht ha hb (by omega) (fun _ => ?_) (fun z => absurd (hl.trans hm.symm) z)
  refine ry_66 (fun i s => s.1 = nI i ∧ rv_sg (fun j => rv_wk p (c (64 * a + j)) (c (64 * b + j))) i s.2) (by omega) ha hb hl hA ⟨rfl, rv_sg0 _ _⟩ ?_ ?_
  · intro i s P hi h hk
    obtain ⟨m, O⟩ := s
    obtain ⟨h1, h2⟩ := h
    dsimp only at h1 h2
    subst h1
    exact ry_pairA hp6 (by omega) (hk (_, _) ⟨rfl, rv_sg1 h2 rfl⟩)
  · intro s h
    rw [h.1]
    exact ry_212 ht hA h.2 hp
theorem ry_d7 {post : Int32 → SY → Prop} {c l o : Nat → Int32} {t a b A : Nat} {mm : Int32} (ht : t < 4) (ha : a < 4) (hb : b < 4) (hl : l a = nI A) (hA : A ≤ 64) (hm : l b = nI A)
    (hp : rv_my post c l t (rv_ol (rv_fl (fun i => decide (¬ c (64 * b + i) = 0)) (fun i => c (64 * a + i)) A))) : wpY_combine post (mm, c, l, o) (nI t) (nI 7) (nI a) (nI b) := by
  refine ry_cmbL ht ha hb (by decide) (fun _ => ?_) (fun z => absurd (hl.trans hm.symm) z)
  refine ry_66 (fun i s => rv_li (rv_fl (fun i => decide (¬ c (64 * b + i) = 0)) (fun i => c (64 * a + i)) i) s) (by decide) ha hb hl hA (rv_li0 _) ?_ ?_
  · intro i s P hi h hk
    obtain ⟨m, O⟩ := s
    obtain ⟨h1, h2⟩ := h
    dsimp only at h1 h2
    subst h1
    have hlen := rv_flL (fun i => decide (¬ c (64 * b + i) = 0)) (fun i => c (64 * a + i)) i
    exact ry_pair7 (by omega) (fun e => hk (_, _) (rv_liT (by simp [e]) h2)) (fun e => hk (_, _) (rv_liF (by simp [e]) h2))
  · intro s h
    rw [h.1]
    exact ry_212 ht (Nat.le_trans (rv_flL _ _ _) hA) h.2 hp
theorem ry_d8 {post : Int32 → SY → Prop} {c l o : Nat → Int32} {t a b A : Nat} {mm : Int32} (ht : t < 4) (ha : a < 4) (hb : b < 4) (hl : l a = nI A) (hA : A ≤ 64) (hm : l b = nI A)
    (hp : (rv_rp (fun i => (c (64 * b + i)).toNatClampNeg) (fun i => c (64 * a + i)) A).length ≤ 64 → rv_my post c l t (rv_ol (rv_rp (fun i => (c (64 * b + i)).toNatClampNeg) (fun i => c (64 * a + i)) A)))
    (hn : 64 < (rv_rp (fun i => (c (64 * b + i)).toNatClampNeg) (fun i => c (64 * a + i)) A).length → rv_my post c l t none) : wpY_combine post (mm, c, l, o) (nI t) (nI 8) (nI a) (nI b) := by
  refine ry_cmbL ht ha hb (by decide) (fun _ => ?_) (fun z => absurd (hl.trans hm.symm) z)
  refine ry_66 (fun i s => ((rv_rp (fun i => (c (64 * b + i)).toNatClampNeg) (fun i => c (64 * a + i)) i).length ≤ 64 ∧ rv_li (rv_rp (fun i => (c (64 * b + i)).toNatClampNeg) (fun i => c (64 * a + i)) i) s) ∨ (64 < (rv_rp (fun i => (c (64 * b + i)).toNatClampNeg) (fun i => c (64 * a + i)) i).length ∧ ∃ w, 64 < w ∧ w < 1000 ∧ s.1 = nI w)) (by decide) ha hb hl hA (Or.inl ⟨Nat.zero_le 64, rv_li0 _⟩) ?_ ?_
  · intro i s P hi h hk
    obtain ⟨m, O⟩ := s
    have e1 := rv_rp1 (fun i => (c (64 * b + i)).toNatClampNeg) (fun i => c (64 * a + i)) i
    have e2 : rv_rp (fun i => (c (64 * b + i)).toNatClampNeg) (fun i => c (64 * a + i)) (i + 1) = rv_rp (fun i => (c (64 * b + i)).toNatClampNeg) (fun i => c (64 * a + i)) i ++ List.replicate (c (64 * b + i)).toNatClampNeg (c (64 * a + i)) := rfl
    rcases h with ⟨h6, h1, h2⟩ | ⟨h6, w, hw, hw2, h1⟩
    · dsimp only at h1 h2
      subst h1
      refine ry_pair8 h6 h2 (fun z O' h' => hk (_, O') (Or.inl ⟨by omega, ?_⟩)) (fun z w O' hw hw2 => hk (_, O') (Or.inr ⟨by omega, w, hw, hw2, rfl⟩))
      rw [e2]
      refine ⟨by rw [rv_rpl]; rfl, ?_⟩
      rw [rv_rpl]
      exact h'
    · dsimp only at h1
      subst h1
      exact ry_pair8o hw hw2 (fun w O' hw hw2 => hk (_, O') (Or.inr ⟨by omega, w, hw, hw2, rfl⟩))
  · intro s h
    rcases h with ⟨h6, h1, h2⟩ | ⟨h6, w, hw, hw2, h1⟩
    · rw [h1]
      exact ry_212 ht h6 h2 (hp h6)
    · rw [h1]
      exact ry_212N hw hw2 (hn h6)
theorem ry_d9 {post : Int32 → SY → Prop} {c l o : Nat → Int32} {t a b A B : Nat} {mm : Int32} (ht : t < 4) (ha : a < 4) (hb : b < 4) (hl : l a = nI A) (hA : A ≤ 64) (hm : l b = nI B) (hB : B ≤ 64)
    (hp : A + B ≤ 64 → rv_my post c l t (some (A + B, fun j => if j < A then c (64 * a + j) else c (64 * b + (j - A)))))
    (hn : 64 < A + B → rv_my post c l t none) : wpY_combine post (mm, c, l, o) (nI t) (nI 9) (nI a) (nI b) := by
  refine ry_cmbH ht ha hb hl hA (by decide) (by decide) (br_t rfl ?_)
  refine ry_join (m := 0) (f := fun j => if j < A then c (64 * a + j) else c (64 * b + (j - A))) ha hl hA (by decide) (fun i hi => ?_) (rv_sg0 _ _) (fun O1 h1 => ?_)
  · rw [Nat.zero_add, if_pos hi]
  rw [Nat.zero_add] at h1 ⊢
  refine ry_join (m := A) (f := fun j => if j < A then c (64 * a + j) else c (64 * b + (j - A))) hb hm hB hA (fun i hi => ?_) h1 (fun O2 h2 => ?_)
  · rw [if_neg (by omega), Nat.add_sub_cancel_left]
  have H : wY_combine_212 post (nI t) (nI (A + B)) c l O2 := by
    by_cases z : A + B ≤ 64
    · rw [Nat.min_eq_left z] at h2
      exact ry_212 ht z h2 (hp z)
    · exact ry_212N (by omega) (by omega) (hn (by omega))
  exact ⟨1, rv_v4 hb, br_c (fun _ => H) (fun _ => br_f (by decide) H)⟩
theorem ry_d10 {post : Int32 → SY → Prop} {c l o : Nat → Int32} {t a b A B : Nat} {mm : Int32} (ht : t < 4) (ha : a < 4) (hb : b < 4) (hl : l a = nI A) (hA : A ≤ 64) (hm : l b = nI B) (hB : B ≤ 64)
    (hp : (∀ j, j < B → rv_ok A (c (64 * b + j))) → rv_my post c l t (some (B, fun j => c (64 * a + (c (64 * b + j)).toNatClampNeg))))
    (hn : (¬ ∀ j, j < B → rv_ok A (c (64 * b + j))) → rv_my post c l t none) : wpY_combine post (mm, c, l, o) (nI t) (nI 10) (nI a) (nI b) := by
  refine ry_cmbH ht ha hb hl hA (by decide) (by decide) (br_f (by decide) ?_)
  refine loop_0 (fun n i (s : Int32 × (Nat → Int32)) => wY_combine_139 post (nI t) (nI 10) (nI a) (nI b) n (nI i) s.1 c l s.2) (fun i s => (∀ j, j < i → rv_ok A (c (64 * b + j))) ∧ s.1 = nI i ∧ rv_sg (fun j => c (64 * a + (c (64 * b + j)).toNatClampNeg)) i s.2) B (0, o) ⟨fun j h => absurd h (Nat.not_lt_zero j), rfl, rv_sg0 _ _⟩ ?_ ?_
  · intro n s h
    obtain ⟨m, O⟩ := s
    obtain ⟨h0, h1, h2⟩ := h
    dsimp only at h1 h2
    subst h1
    exact rv_lcT hb hm (by omega) (Nat.le_refl _) (ry_212 ht hB h2 (hp h0))
  · intro n i s hi h hk
    obtain ⟨m, O⟩ := s
    obtain ⟨h0, h1, h2⟩ := h
    dsimp only at h1 h2
    subst h1
    refine rv_lcF hb hm hB hi (br_t rfl ⟨ry_in hb (by omega), nm_r (ry_rd c hb (by omega)) ?_⟩)
    by_cases ok : rv_ok A (c (64 * b + i))
    · have hk' := hk (nI (i + 1), upd O i (c (64 * a + (c (64 * b + i)).toNatClampNeg))) ⟨lt_s h0 ok, rfl, rv_sg1 h2 rfl⟩
      obtain ⟨j, hj, e⟩ := ok
      rw [e] at hk' ⊢
      rw [nI_clamp (by omega)] at hk'
      rw [rv_lv ha hl]
      refine br_f (nI_pos (by omega)) ⟨rv_v4 ha, br_t (nI_lt hj (by omega)) ⟨ry_in ha (by omega), ?_⟩⟩
      rw [ry_rd c ha (by omega)]
      exact ry_give (by omega) (rv_inc hk')
    · have hno := hn (fun z => ok (z i hi)) (nI i) O
      rw [rv_lv ha hl]
      refine br_c (fun _ => hno) (fun z => ⟨rv_v4 ha, br_c (fun w => ?_) (fun _ => hno)⟩)
      exfalso
      obtain ⟨j, hj, e⟩ := nI_of z
      rw [e, nI_ltI hj (by omega)] at w
      exact ok ⟨j, w, e⟩
/-! both sides -/
theorem rv_cmb {k : Nat} {c l r o : Nat → Int32} {mm op : Int32} {L : Nat → Nat} {t a b : Nat} (h : ∀ t, t < 4 → l t = nI (L t) ∧ L t ≤ 64) (ht : t < 4) (ha : a < 4) (hb : b < 4) (e : Option (Nat × (Nat → Int32)))
    (hX : ∀ post, rv_mk post c l e → wpX_makeCombined post (c, l, r) op (nI a) (nI b)) (hY : ∀ post, rv_my post c l t e → wpY_combine post (mm, c, l, o) (nI t) op (nI a) (nI b)) :
    wpX_combine (fun r u' => wpY_combine (fun r' v' => r' = r ∧ i_Rel (k + 5) u' v') (mm, c, l, o) (nI t) op (nI a) (nI b)) (c, l, r) (nI t) op (nI a) (nI b) := by
  unfold wpX_combine
  dsimp only
  refine rx_isV ht (br_f (by decide) (rx_isV ha (br_f (by decide) (rx_isV hb (br_f (by decide) (hX _ ?_))))))
  cases e with
  | none => exact fun R => rx_storeN (hY _ (fun m O => ⟨rfl, rv_rel h⟩))
  | some e =>
    intro R h6 hR
    refine rx_store ht h6 ?_
    rw [rv_stcE hR]
    exact hY _ (fun O => ⟨rfl, rv_relU h h6⟩)
theorem rx_cmbN {post : Int32 → SX → Prop} {c l r : Nat → Int32} {op x y : Int32} (hop : op < 0 ∨ ¬ op ≤ 10) (h : rv_mk post c l none) : wpX_makeCombined post (c, l, r) op x y := by
  by_cases h0 : op < 0
  · exact br_t h0 (h r)
  · exact br_f h0 (br_f (hop.resolve_left h0) (h r))
theorem rx_cmbL {post : Int32 → SX → Prop} {c l r : Nat → Int32} {a b p : Nat} (ha : a < 4) (hb : b < 4) (hp8 : p ≤ 8)
    (h7 : p = 7 → l a = l b → wpX_makeKept (fun r u => match u with | (x, y, z) => post r (x, y, z)) (c, l, r) (nI a) (nI b))
    (h8 : p = 8 → l a = l b → wpX_makeRepeated (fun r u => match u with | (x, y, z) => post r (x, y, z)) (c, l, r) (nI a) (nI b))
    (h6 : p ≤ 6 → l a = l b → wpX_makePaired (fun r u => match u with | (x, y, z) => post r (x, y, z)) (c, l, r) (nI p) (nI a) (nI b))
    (hn : ¬ l a = l b → rv_mk post c l none) : wpX_makeCombined post (c, l, r) (nI p) (nI a) (nI b) := by
  unfold wpX_makeCombined
  dsimp only
  rw [nI_clamp (show a < 2 ^ 31 by omega), nI_clamp (show b < 2 ^ 31 by omega)]
  refine br_f (nI_pos (by omega)) (br_t (nI_le (b := 10) (by omega) (by decide)) (pk_eq p 9 (fun e => by omega) (fun _ => pk_eq p 10 (fun e => by omega) (fun _ => ⟨rv_v4 ha, rv_v4 hb, br_c (fun e => ?_) (fun e => hn e r)⟩))))
  exact pk_eq p 7 (fun e7 => h7 e7 e) (fun n7 => pk_eq p 8 (fun e8 => h8 e8 e) (fun n8 => h6 (by omega) e))
theorem rx_cmb9 {post : Int32 → SX → Prop} {c l r : Nat → Int32} {a b : Nat} (h : wpX_makeJoined (fun r u => match u with | (x, y, z) => post r (x, y, z)) (c, l, r) (nI a) (nI b)) : wpX_makeCombined post (c, l, r) (nI 9) (nI a) (nI b) :=
  br_f (by decide) (br_t (by decide) (br_t rfl h))
theorem rx_cmb10 {post : Int32 → SX → Prop} {c l r : Nat → Int32} {a b : Nat} (h : wpX_makeFetched (fun r u => match u with | (x, y, z) => post r (x, y, z)) (c, l, r) (nI a) (nI b)) : wpX_makeCombined post (c, l, r) (nI 10) (nI a) (nI b) :=
  br_f (by decide) (br_t (by decide) (br_f (by decide) (br_t rfl h)))
theorem i_vc_combine {k : Nat} {u : SX} {v : SY} (I : i_Rel k u v) (hk : k + 5 ≤ 2560) (v1 : Int32) (v2 : Int32) (v3 : Int32) (v4 : Int32) : wpX_combine (fun r u' => wpY_combine (fun r' v' => r' = r ∧ i_Rel (k + 5) u' v') v v1 v2 v3 v4) u v1 v2 v3 v4 := by
  obtain ⟨c, l, r, o, m, L, rfl, rfl, h⟩ := I
  rcases rv_vec v1 with hb | ⟨t, ht, rfl⟩
  · unfold wpX_combine wpY_combine
    dsimp only
    exact rx_isVn hb (br_t rfl (ry_badn hb (br_f (by decide) ⟨rfl, rv_rel h⟩)))
  rcases rv_vec v3 with hb | ⟨a, ha, rfl⟩
  · unfold wpX_combine wpY_combine
    dsimp only
    exact rx_isV ht (br_f (by decide) (rx_isVn hb (br_t rfl (ry_bad ht (br_t rfl (ry_badn hb (br_f (by decide) ⟨rfl, rv_rel h⟩)))))))
  rcases rv_vec v4 with hb | ⟨b, hb, rfl⟩
  · unfold wpX_combine wpY_combine
    dsimp only
    exact rx_isV ht (br_f (by decide) (rx_isV ha (br_f (by decide) (rx_isVn hb (br_t rfl (ry_bad ht (br_t rfl (ry_bad ha (br_t rfl (ry_badn hb (br_f (by decide) ⟨rfl, rv_rel h⟩)))))))))))
  obtain ⟨hl, hL⟩ := h a ha
  obtain ⟨hm, hM⟩ := h b hb
  by_cases hop : v2 < 0 ∨ ¬ v2 ≤ 10
  · exact rv_cmb h ht ha hb none (fun post hp => rx_cmbN hop hp) (fun post hp => ry_cmbN ht ha hb hop hp)
  have hn0 : ¬ v2 < 0 := fun z => hop (Or.inl z)
  have hn1 : v2 ≤ 10 := by
    by_cases z : v2 ≤ 10
    · exact z
    · exact absurd (Or.inr z) hop
  obtain ⟨p, hp10, rfl⟩ := nI_of2 (n := 10) (by decide) hn0 hn1
  by_cases e9 : p = 9
  · subst e9
    by_cases z : L a + L b ≤ 64
    · exact rv_cmb h ht ha hb _ (fun post hp => rx_cmb9 (rx_makeJoined ha hb hl hL hm hM z (rv_mkE hp))) (fun post hp => ry_d9 ht ha hb hl hL hm hM (fun _ => hp) (fun z2 => by omega))
    · exact rv_cmb h ht ha hb none (fun post hp => rx_cmb9 (rx_makeJoinedN ha hb hl hL hm hM (by omega) (rv_mkE hp))) (fun post hp => ry_d9 ht ha hb hl hL hm hM (fun z2 => absurd z2 z) (fun _ => hp))
  by_cases e10 : p = 10
  · subst e10
    by_cases z : ∀ j, j < L b → rv_ok (L a) (c (64 * b + j))
    · exact rv_cmb h ht ha hb _ (fun post hp => rx_cmb10 (rx_makeFetched ha hb hl hL hm hM (fun _ => rv_mkE hp) (fun z2 => absurd z z2))) (fun post hp => ry_d10 ht ha hb hl hL hm hM (fun _ => hp) (fun z2 => absurd z z2))
    · exact rv_cmb h ht ha hb none (fun post hp => rx_cmb10 (rx_makeFetched ha hb hl hL hm hM (fun z2 => absurd z2 z) (fun _ => rv_mkE hp))) (fun post hp => ry_d10 ht ha hb hl hL hm hM (fun z2 => absurd z2 z) (fun _ => hp))
  have hp8 : p ≤ 8 := by omega
  by_cases eL : l a = l b
  · have hm2 : l b = nI (L a) := eL.symm.trans hl
    by_cases e7 : p = 7
    · subst e7
      exact rv_cmb h ht ha hb _ (fun post hp => rx_cmbL ha hb hp8 (fun _ _ => rx_makeKept ha hb hl hL (rv_mkE hp)) (fun e => by omega) (fun e => by omega) (fun z => absurd eL z)) (fun post hp => ry_d7 ht ha hb hl hL hm2 hp)
    by_cases e8 : p = 8
    · subst e8
      by_cases z : (rv_rp (fun i => (c (64 * b + i)).toNatClampNeg) (fun i => c (64 * a + i)) (L a)).length ≤ 64
      · exact rv_cmb h ht ha hb _ (fun post hp => rx_cmbL ha hb hp8 (fun e => by omega) (fun _ _ => rx_makeRepeated ha hb hl hL (fun _ => rv_mkE hp) (fun z2 => by omega)) (fun e => by omega) (fun z => absurd eL z)) (fun post hp => ry_d8 ht ha hb hl hL hm2 (fun _ => hp) (fun z2 => by omega))
      · exact rv_cmb h ht ha hb none (fun post hp => rx_cmbL ha hb hp8 (fun e => by omega) (fun _ _ => rx_makeRepeated ha hb hl hL (fun z2 => absurd z2 z) (fun _ => rv_mkE hp)) (fun e => by omega) (fun z => absurd eL z)) (fun post hp => ry_d8 ht ha hb hl hL hm2 (fun z2 => absurd z2 z) (fun _ => hp))
    · have hp6 : p ≤ 6 := by omega
      exact rv_cmb h ht ha hb _ (fun post hp => rx_cmbL ha hb hp8 (fun e => absurd e e7) (fun e => absurd e e8) (fun _ _ => rx_makePaired hp6 ha hb hl hL (rv_mkE hp)) (fun z => absurd eL z)) (fun post hp => ry_dA hp6 ht ha hb hl hL hm2 hp)
  · exact rv_cmb h ht ha hb none (fun post hp => rx_cmbL ha hb hp8 (fun _ z => absurd z eL) (fun _ z => absurd z eL) (fun _ z => absurd z eL) (fun _ => hp)) (fun post hp => ry_cmbL ht ha hb hp8 (fun z => absurd z eL) (fun _ => hp))
