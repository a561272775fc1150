/-! the outcome as Y stores it -/
def rv_my (post : Int32 → SY → Prop) (c l : Nat → Int32) (t : Nat) : Option (Nat × (Nat → Int32)) → Prop
  | none => ∀ m O, post (-1) (m, c, l, O)
  | some e => ∀ O, post (nI e.1) (nI e.1, rv_stc c t e.1 e.2, upd l t (nI e.1), O)
theorem ry_118 {post : Int32 → SY → Prop} {c l O f : Nat → Int32} {t m : Nat} (ht : t < 4) (hm : m ≤ 64) (h : rv_sg f m O) (hp : rv_my post c l t (some (m, f))) : wY_change_118 post (nI t) (nI m) c l O := by
  refine ry_store ht hm ?_
  show post (nI m) (nI m, rv_stc c t m O, upd l t (nI m), O)
  rw [rv_stcE h]
  exact hp O
theorem ry_212 {post : Int32 → SY → Prop} {c l O f : Nat → Int32} {t m : Nat} (ht : t < 4) (hm : m ≤ 64) (h : rv_sg f m O) (hp : rv_my post c l t (some (m, f))) : wY_combine_212 post (nI t) (nI m) c l O := by
  refine ry_store ht hm ?_
  show post (nI m) (nI m, rv_stc c t m O, upd l t (nI m), O)
  rw [rv_stcE h]
  exact hp O
theorem ry_212N {post : Int32 → SY → Prop} {c l O : Nat → Int32} {t m : Nat} (hm : 64 < m) (hm2 : m < 1000) (hp : rv_my post c l t none) : wY_combine_212 post (nI t) (nI m) c l O :=
  ry_storeN hm hm2 (hp _ O)
/-! change: the loop over the cells -/
theorem ry_91 {post : Int32 → SY → Prop} {c l o : Nat → Int32} {t a L : Nat} {op k : Int32} (I : Nat → Int32 × (Nat → Int32) → Prop) (ha : a < 4) (hl : l a = nI L) (hL : L ≤ 64) (h0 : I 0 (0, o))
    (hs : ∀ (i : Nat) (s : Int32 × (Nat → Int32)) (P : SY → Prop), i < L → I i s → (∀ s', I (i + 1) s' → P (s'.1, c, l, s'.2)) → wpY_step P (s.1, c, l, s.2) op (nI a) k (nI i))
    (he : ∀ s, I L s → wY_change_118 post (nI t) s.1 c l s.2) : ∃ n, wY_change_91 post (nI t) op (nI a) k n 0 0 c l o := by
  refine loop_0 (fun n i (s : Int32 × (Nat → Int32)) => wY_change_91 post (nI t) op (nI a) k n (nI i) s.1 c l s.2) I L (0, o) h0 ?_ ?_
  · exact fun n s h => rv_lcT ha hl (by omega) (Nat.le_refl _) (he s h)
  · intro n i s hi h hk
    exact rv_lcF ha hl hL hi (hs i s _ hi h (fun s' h' => rv_inc (hk s' h')))
theorem ry_91A {post : Int32 → SY → Prop} {c l o : Nat → Int32} {t a L : Nat} {op k : Int32} (f : Nat → Int32) (ht : t < 4) (ha : a < 4) (hl : l a = nI L) (hL : L ≤ 64)
    (hs : ∀ (i : Nat) (O : Nat → Int32) (P : SY → Prop), i < L → rv_sg f i O → P (nI (i + 1), c, l, upd O i (f i)) → wpY_step P (nI i, c, l, O) op (nI a) k (nI i))
    (hp : rv_my post c l t (some (L, f))) : ∃ n, wY_change_91 post (nI t) op (nI a) k n 0 0 c l o := by
  refine ry_91 (fun i s => s.1 = nI i ∧ rv_sg f i s.2) ha hl hL ⟨rfl, rv_sg0 _ _⟩ ?_ ?_
  · intro i s P hi h hk
    obtain ⟨m, O⟩ := s
    obtain ⟨h1, h2⟩ := h
    dsimp only at h1 h2
    subst h1
    exact hs i O P hi h2 (hk (_, _) ⟨rfl, rv_sg1 h2 rfl⟩)
  · intro s h
    rw [h.1]
    exact ry_118 ht hL h.2 hp
theorem ry_91F {post : Int32 → SY → Prop} {c l o : Nat → Int32} {t a L : Nat} {op k : Int32} (p : Nat → Bool) (f : Nat → Int32) (ht : t < 4) (ha : a < 4) (hl : l a = nI L) (hL : L ≤ 64)
    (hs : ∀ (i m : Nat) (O : Nat → Int32) (P : SY → Prop), i < L → m ≤ i → (p i = true → P (nI (m + 1), c, l, upd O m (f i))) → (¬ p i = true → P (nI m, c, l, O)) → wpY_step P (nI m, c, l, O) op (nI a) k (nI i))
    (hp : rv_my post c l t (rv_ol (rv_fl p f L))) : ∃ n, wY_change_91 post (nI t) op (nI a) k n 0 0 c l o := by
  refine ry_91 (fun i s => rv_li (rv_fl p f i) s) ha hl hL (rv_li0 _) ?_ ?_
  · intro i s P hi h hk
    obtain ⟨m, O⟩ := s
    obtain ⟨h1, h2⟩ := h
    dsimp only at h1 h2
    subst h1
    exact hs i _ O P hi (rv_flL p f i) (fun e => hk (_, _) (rv_liT e h2)) (fun e => hk (_, _) (rv_liF e h2))
  · intro s h
    rw [h.1]
    exact ry_118 ht (Nat.le_trans (rv_flL p f L) hL) h.2 hp
/-! one step of Y's change -/
theorem ry_step {P : SY → Prop} {c l O : Nat → Int32} {a L i m : Nat} {op k : Int32} (ha : a < 4) (hl : l a = nI L) (hL : L ≤ 64) (hi : i < L) (hm : m ≤ 64)
    (h : ∀ bf last : Int32, (∀ q, i = q + 1 → bf = c (64 * a + q)) → (i = 0 → last = 0) → (∀ q w, i = q + 1 → m = w + 1 → last = O w) → wY_step_74 P op (nI a) k (nI i) (nI L) (c (64 * a + i)) bf last (nI m) c l O) : wpY_step P (nI m, c, l, O) op (nI a) k (nI i) := by
  refine ⟨rv_v4 ha, nm_r (rv_lv ha hl) ⟨ry_in ha (by omega), nm_r (ry_rd c ha (by omega)) ?_⟩⟩
  cases i with
  | zero => exact br_t (by decide) (br_t (by decide) (h 0 0 (fun q e => by omega) (fun _ => rfl) (fun q w e => by omega)))
  | succ q =>
    have hn : ¬ nI (q + 1) ≤ 0 := nI_nle (by omega) (by omega)
    refine br_f hn ⟨ry_in1 ha (by omega), ?_⟩
    rw [ry_rd1 c ha (by omega)]
    cases m with
    | zero => exact br_f hn (br_t (by decide) (h _ 0 (fun q' e => by cases e; rfl) (fun e => by omega) (fun q w e e2 => by omega)))
    | succ w =>
      refine br_f hn (br_f (nI_nle (by omega) (by omega)) ?_)
      rw [nI_pred, nI_clamp (by omega)]
      exact ⟨vp_in_nI (by omega) (by decide), h _ _ (fun q' e => by cases e; rfl) (fun e => by omega) (fun q w' e e2 => by cases e2; rfl)⟩
theorem ry_s0 {P : SY → Prop} {c l O : Nat → Int32} {a L i m : Nat} {k : Int32} (ha : a < 4) (hl : l a = nI L) (hL : L ≤ 64) (hi : i < L) (hm : m < 64) (h : P (nI (m + 1), c, l, upd O m (k + c (64 * a + i)))) : wpY_step P (nI m, c, l, O) (nI 0) (nI a) k (nI i) :=
  ry_step ha hl hL hi (by omega) fun bf last _ _ _ => br_t rfl (ry_give hm (br_f (by decide) (br_f (by decide) (br_f (by decide) (br_f (by decide) (br_f (by decide) (br_f (by decide) (br_f (by decide) (br_f (by decide) (br_f (by decide) h))))))))))
theorem ry_s1 {P : SY → Prop} {c l O : Nat → Int32} {a L i m : Nat} {k : Int32} (ha : a < 4) (hl : l a = nI L) (hL : L ≤ 64) (hi : i < L) (hm : m < 64) (h : P (nI (m + 1), c, l, upd O m (k * c (64 * a + i)))) : wpY_step P (nI m, c, l, O) (nI 1) (nI a) k (nI i) :=
  ry_step ha hl hL hi (by omega) fun bf last _ _ _ => br_f (by decide) (br_t rfl (ry_give hm (br_f (by decide) (br_f (by decide) (br_f (by decide) (br_f (by decide) (br_f (by decide) (br_f (by decide) (br_f (by decide) (br_f (by decide) h))))))))))
theorem ry_s2 {P : SY → Prop} {c l O : Nat → Int32} {a L i m : Nat} {k : Int32} (ha : a < 4) (hl : l a = nI L) (hL : L ≤ 64) (hi : i < L) (hm : m < 64) (h : P (nI (m + 1), c, l, upd O m (c (64 * a + (L - 1 - i))))) : wpY_step P (nI m, c, l, O) (nI 2) (nI a) k (nI i) := by
  refine ry_step ha hl hL hi (by omega) fun bf last _ _ _ => br_f (by decide) (br_f (by decide) (br_t rfl ?_))
  obtain ⟨w, rfl⟩ : ∃ w, L = w + 1 := ⟨L - 1, by omega⟩
  rw [rv_pi, pk_sub (by omega), nI_clamp (by omega)]
  rw [show w + 1 - 1 - i = w - i by omega, ← Nat.add_sub_assoc (by omega)] at h
  exact ⟨vp_in_nI (by omega) (by decide), ry_give hm (br_f (by decide) (br_f (by decide) (br_f (by decide) (br_f (by decide) (br_f (by decide) (br_f (by decide) (br_f (by decide) h)))))))⟩
theorem ry_s4 {P : SY → Prop} {c l O : Nat → Int32} {a L i m : Nat} (ha : a < 4) (hl : l a = nI L) (hL : L ≤ 64) (hi : i < L) {q : Nat} (hq : q ≤ 64) (hm : m < 64) (h : i < q → P (nI (m + 1), c, l, upd O m (c (64 * a + i)))) (hn : q ≤ i → P (nI m, c, l, O)) : wpY_step P (nI m, c, l, O) (nI 4) (nI a) (nI q) (nI i) :=
  ry_step ha hl hL hi (by omega) fun bf last _ _ _ => (br_f (by decide) (br_f (by decide) (br_f (by decide) (br_t rfl (pk_lt i q (fun e => ry_give hm (br_f (by decide) (br_f (by decide) (br_f (by decide) (br_f (by decide) (br_f (by decide) (h e))))))) (fun e => (br_f (by decide) (br_f (by decide) (br_f (by decide) (br_f (by decide) (br_f (by decide) (br_f (by decide) (hn e)))))))))))))
theorem ry_s5 {P : SY → Prop} {c l O : Nat → Int32} {a L i m : Nat} (ha : a < 4) (hl : l a = nI L) (hL : L ≤ 64) (hi : i < L) {q : Nat} (hq : q ≤ 64) (hm : m < 64) (h : q ≤ i → P (nI (m + 1), c, l, upd O m (c (64 * a + i)))) (hn : i < q → P (nI m, c, l, O)) : wpY_step P (nI m, c, l, O) (nI 5) (nI a) (nI q) (nI i) :=
  ry_step ha hl hL hi (by omega) fun bf last _ _ _ => (br_f (by decide) (br_f (by decide) (br_f (by decide) (br_f (by decide) (br_t rfl (pk_lt i q (fun e => (br_f (by decide) (br_f (by decide) (br_f (by decide) (br_f (by decide) (br_f (by decide) (hn e))))))) (fun e => ry_give hm (br_f (by decide) (br_f (by decide) (br_f (by decide) (br_f (by decide) (br_f (by decide) (h e)))))))))))))
theorem ry_s7 {P : SY → Prop} {c l O : Nat → Int32} {a L i m : Nat} {k : Int32} (ha : a < 4) (hl : l a = nI L) (hL : L ≤ 64) (hi : i < L) (hm : m < 64) (x : Int32) (h0 : i = 0 → x = 0) (h1 : ∀ q, i = q + 1 → ∃ w, m = w + 1 ∧ x = O w) (h : P (nI (m + 1), c, l, upd O m (x + c (64 * a + i)))) : wpY_step P (nI m, c, l, O) (nI 7) (nI a) k (nI i) := by
  refine ry_step ha hl hL hi (by omega) fun bf last _ k0 k1 => ?_
  have e : last = x := by
    cases i with
    | zero => rw [k0 rfl, h0 rfl]
    | succ q =>
      obtain ⟨w, e1, e2⟩ := h1 q rfl
      rw [k1 q w rfl e1, e2]
  subst e
  exact (br_f (by decide) (br_f (by decide) (br_f (by decide) (br_f (by decide) (br_f (by decide) (br_t rfl (ry_give hm (br_f (by decide) (br_f (by decide) (br_f (by decide) (br_f (by decide) h)))))))))))
theorem ry_189 {P : SY → Prop} {c l O : Nat → Int32} {m : Nat} {x1 x4 x6 x7 : Int32} (hm : m < 64) (h : wY_step_199 P x1 x4 x6 x7 (nI (m + 1)) c l (upd O m x6)) : wY_step_189 P x1 x4 x6 x7 (nI m) c l O := by
  unfold wY_step_189 wY_step_196
  exact ry_give hm h
theorem ry_s8 {P : SY → Prop} {c l O : Nat → Int32} {a L i m : Nat} {k : Int32} (ha : a < 4) (hl : l a = nI L) (hL : L ≤ 64) (hi : i < L) (hm : m < 64) (h0 : i = 0 → P (nI (m + 1), c, l, upd O m (c (64 * a + i)))) (h1 : ∀ q, i = q + 1 → ∃ w, m = w + 1 ∧ (c (64 * a + i) ≤ O w → P (nI (m + 1), c, l, upd O m (O w))) ∧ (¬ c (64 * a + i) ≤ O w → P (nI (m + 1), c, l, upd O m (c (64 * a + i))))) : wpY_step P (nI m, c, l, O) (nI 8) (nI a) k (nI i) := by
  refine ry_step ha hl hL hi (by omega) fun bf last _ k0 k1 => ?_
  cases i with
  | zero => exact (br_f (by decide) (br_f (by decide) (br_f (by decide) (br_f (by decide) (br_f (by decide) (br_f (by decide) (br_t rfl (br_t rfl (ry_189 hm (br_f (by decide) (br_f (by decide) (br_f (by decide) (h0 rfl)))))))))))))
  | succ q =>
    obtain ⟨w, e1, e2, e3⟩ := h1 q rfl
    have e := k1 q w rfl e1
    subst e
    exact (br_f (by decide) (br_f (by decide) (br_f (by decide) (br_f (by decide) (br_f (by decide) (br_f (by decide) (br_t rfl (br_f (nI_ne0 (by omega) (by omega)) (br_c (fun z => ry_give hm (br_f (by decide) (br_f (by decide) (br_f (by decide) (e2 z))))) (fun z => ry_189 hm (br_f (by decide) (br_f (by decide) (br_f (by decide) (e3 z))))))))))))))
theorem ry_s9 {P : SY → Prop} {c l O : Nat → Int32} {a L i m : Nat} {k : Int32} (ha : a < 4) (hl : l a = nI L) (hL : L ≤ 64) (hi : i < L) (hm : m < 64) (h : ¬ c (64 * a + i) = 0 → P (nI (m + 1), c, l, upd O m (nI i))) (hn : c (64 * a + i) = 0 → P (nI m, c, l, O)) : wpY_step P (nI m, c, l, O) (nI 9) (nI a) k (nI i) :=
  ry_step ha hl hL hi (by omega) fun bf last _ _ _ => (br_f (by decide) (br_f (by decide) (br_f (by decide) (br_f (by decide) (br_f (by decide) (br_f (by decide) (br_f (by decide) (br_t rfl (br_c (fun e => (br_f (by decide) (br_f (by decide) (hn e)))) (fun e => ry_give hm (br_f (by decide) (br_f (by decide) (h e)))))))))))))
theorem ry_s10 {P : SY → Prop} {c l O : Nat → Int32} {a L i m : Nat} {k : Int32} (ha : a < 4) (hl : l a = nI L) (hL : L ≤ 64) (hi : i < L) (hm : m < 64) (h0 : i = 0 → P (nI (m + 1), c, l, upd O m (c (64 * a + i)))) (h : ∀ q, i = q + 1 → ¬ c (64 * a + i) = c (64 * a + q) → P (nI (m + 1), c, l, upd O m (c (64 * a + i)))) (hn : ∀ q, i = q + 1 → c (64 * a + i) = c (64 * a + q) → P (nI m, c, l, O)) : wpY_step P (nI m, c, l, O) (nI 10) (nI a) k (nI i) := by
  refine ry_step ha hl hL hi (by omega) fun bf last kb _ _ => ?_
  cases i with
  | zero => exact (br_f (by decide) (br_f (by decide) (br_f (by decide) (br_f (by decide) (br_f (by decide) (br_f (by decide) (br_f (by decide) (br_f (by decide) (br_t rfl (br_t rfl (ry_give hm (br_f (by decide) (h0 rfl)))))))))))))
  | succ q =>
    have e := kb q rfl
    subst e
    exact (br_f (by decide) (br_f (by decide) (br_f (by decide) (br_f (by decide) (br_f (by decide) (br_f (by decide) (br_f (by decide) (br_f (by decide) (br_t rfl (br_f (nI_ne0 (by omega) (by omega)) (br_c (fun z => (br_f (by decide) (hn q rfl z))) (fun z => ry_give hm (br_f (by decide) (h q rfl z))))))))))))))
theorem ry_s11 {P : SY → Prop} {c l O : Nat → Int32} {a L i m : Nat} {k : Int32} (ha : a < 4) (hl : l a = nI L) (hL : L ≤ 64) (hi : i < L) (hm : m < 64) (h : P (nI (m + 1), c, l, upd O m (rv_df (fun i => c (64 * a + i)) i))) : wpY_step P (nI m, c, l, O) (nI 11) (nI a) k (nI i) := by
  refine ry_step ha hl hL hi (by omega) fun bf last kb _ _ => ?_
  cases i with
  | zero => exact (br_f (by decide) (br_f (by decide) (br_f (by decide) (br_f (by decide) (br_f (by decide) (br_f (by decide) (br_f (by decide) (br_f (by decide) (br_f (by decide) (br_t rfl (br_t rfl (ry_give hm h))))))))))))
  | succ q =>
    have e := kb q rfl
    subst e
    exact (br_f (by decide) (br_f (by decide) (br_f (by decide) (br_f (by decide) (br_f (by decide) (br_f (by decide) (br_f (by decide) (br_f (by decide) (br_f (by decide) (br_t rfl (br_f (nI_ne0 (by omega) (by omega)) (ry_give hm h))))))))))))
