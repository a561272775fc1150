/-! Y: the loop over pairs -/
theorem ry_66 {post : Int32 → SY → Prop} {c l o : Nat → Int32} {t a b L p : Nat} (I : Nat → Int32 × (Nat → Int32) → Prop) (hp8 : p ≤ 8) (ha : a < 4) (hb : b < 4) (hl : l a = nI L) (hL : L ≤ 64) (h0 : I 0 (0, o))
    (hs : ∀ (i : Nat) (s : Int32 × (Nat → Int32)) (P : SY → Prop), i < L → I i s → (∀ s', I (i + 1) s' → P (s'.1, c, l, s'.2)) → wpY_pair P (s.1, c, l, s.2) (nI p) (c (64 * a + i)) (c (64 * b + i)))
    (he : ∀ s, I L s → wY_combine_212 post (nI t) s.1 c l s.2) : ∃ n, wY_combine_66 post (nI t) (nI p) (nI a) (nI b) n 0 0 c l o := by
  have h9 : ¬ nI p = 9 := fun z => by
    have := (nI_eq (b := 9) (by omega) (by omega)).mp z; omega
  have h10 : ¬ nI p = 10 := fun z => by
    have := (nI_eq (b := 10) (by omega) (by omega)).mp z; omega
  refine loop_0 (fun n i (s : Int32 × (Nat → Int32)) => wY_combine_66 post (nI t) (nI p) (nI a) (nI b) n (nI i) s.1 c l s.2) I L (0, o) h0 ?_ ?_
  · intro n s h
    have H := he s h
    refine rv_lcT ha hl (by omega) (Nat.le_refl _) (br_f h9 ⟨1, rv_v4 hb, ?_⟩)
    exact br_c (fun _ => H) (fun _ => br_f h10 H)
  · intro n i s hi h hk
    refine rv_lcF ha hl hL hi (br_f (nI_nlt (a := 8) (by omega) (by decide)) ⟨ry_in ha (by omega), ry_in hb (by omega), ?_⟩)
    rw [ry_rd c ha (by omega), ry_rd c hb (by omega)]
    exact hs i s _ hi h (fun s' h' => rv_inc (hk s' h'))
theorem ry_53n {P : SY → Prop} {c l O : Nat → Int32} {m op x y : Int32} (h8 : ¬ op = 8) (h : P (m, c, l, O)) : wY_pair_35 P op x y m c l O := br_f h8 (br_f h8 h)
theorem ry_pairA {P : SY → Prop} {c l O : Nat → Int32} {m p : Nat} {x y : Int32} (hp6 : p ≤ 6) (hm : m < 64) (h : P (nI (m + 1), c, l, upd O m (rv_wk p x y))) : wpY_pair P (nI m, c, l, O) (nI p) x y := by
  have h7 : ¬ nI p = 7 := fun z => by
    have := (nI_eq (b := 7) (by omega) (by omega)).mp z; omega
  have h8 : ¬ nI p = 8 := fun z => by
    have := (nI_eq (b := 8) (by omega) (by omega)).mp z; omega
  unfold wpY_pair
  dsimp only
  exact br_f (nI_nlt (a := 6) hp6 (by decide)) (ry_worked hp6 (ry_give hm (br_f h7 (ry_53n h8 h))))
theorem ry_pair7 {P : SY → Prop} {c l O : Nat → Int32} {m : Nat} {x y : Int32} (hm : m < 64) (h : ¬ y = 0 → P (nI (m + 1), c, l, upd O m x)) (hn : y = 0 → P (nI m, c, l, O)) : wpY_pair P (nI m, c, l, O) (nI 7) x y := by
  unfold wpY_pair
  dsimp only
  exact br_t (by decide) (br_t rfl (br_c (fun e => ry_53n (by decide) (hn e)) (fun e => ry_give hm (ry_53n (by decide) (h e)))))
/-! gives beyond the 64th cell -/
theorem rv_gdA {ls : List Int32} {x : Int32} {j : Nat} (h : j < ls.length) : rv_gd (ls ++ [x]) j = rv_gd ls j := by
  simp [rv_gd, List.getD_eq_getElem?_getD, List.getElem?_append, h]
theorem rv_gdE {ls : List Int32} {x : Int32} : rv_gd (ls ++ [x]) ls.length = x := by
  simp [rv_gd, List.getD_eq_getElem?_getD]
theorem ry_giveG {P : SY → Prop} {c l O f : Nat → Int32} {m : Nat} {x : Int32} (hm : m < 1000) (h : rv_sg f (min m 64) O) (hx : x = f m) (hp : ∀ O', rv_sg f (min (m + 1) 64) O' → P (nI (m + 1), c, l, O')) : wpY_give P (nI m, c, l, O) x := by
  by_cases h6 : m < 64
  · refine ry_give h6 (hp _ ?_)
    rw [Nat.min_eq_left (by omega)] at h ⊢
    exact rv_sg1 h hx
  · refine ry_giveN (by omega) hm (hp _ ?_)
    rw [Nat.min_eq_right (by omega)] at h ⊢
    exact h
theorem ry_giveL {P : SY → Prop} {c l O : Nat → Int32} {ls : List Int32} {x : Int32} (hm : ls.length < 1000) (h : rv_sg (rv_gd ls) (min ls.length 64) O) (hp : ∀ O', rv_sg (rv_gd (ls ++ [x])) (min (ls.length + 1) 64) O' → P (nI (ls.length + 1), c, l, O')) : wpY_give P (nI ls.length, c, l, O) x :=
  ry_giveG hm (fun j hj => by rw [h j hj, rv_gdA (by omega)]) rv_gdE.symm hp
/-- Y's repeats of x -/
theorem ry_71 {P : SY → Prop} {c l O : Nat → Int32} {ls : List Int32} {x y : Int32} (hls : ls.length ≤ 64) (hy : y.toNatClampNeg ≤ 64) (h : rv_sg (rv_gd ls) ls.length O)
    (hp : ∀ O', rv_sg (rv_gd (ls ++ List.replicate y.toNatClampNeg x)) (min (ls.length + y.toNatClampNeg) 64) O' → P (nI (ls.length + y.toNatClampNeg), c, l, O')) : ∃ n, wY_pair_71 P x y n 0 (nI ls.length) c l O := by
  refine loop_0 (fun n j (s : Int32 × (Nat → Int32)) => wY_pair_71 P x y n (nI j) s.1 c l s.2) (fun j s => s.1 = nI (ls.length + j) ∧ rv_sg (rv_gd (ls ++ List.replicate j x)) (min (ls.length + j) 64) s.2) y.toNatClampNeg (nI ls.length, O) ⟨rfl, ?_⟩ ?_ ?_
  · rw [List.replicate_zero, List.append_nil, Nat.add_zero, Nat.min_eq_left hls]
    exact h
  · intro n s h
    obtain ⟨m, R⟩ := s
    obtain ⟨h1, h2⟩ := h
    dsimp only at h1 h2
    subst h1
    exact br_t ((rv_cle _ (by omega)).mpr (Nat.le_refl _)) (hp R h2)
  · intro n j s hj h hk
    obtain ⟨m, R⟩ := s
    obtain ⟨h1, h2⟩ := h
    dsimp only at h1 h2
    subst h1
    refine br_f (fun z => ?_) ?_
    · rw [rv_cle _ (by omega)] at z; omega
    · have hlen := rv_rpl (ls := ls) (x := x) (j := j)
      rw [← hlen] at h2 ⊢
      refine ry_giveL (by omega) h2 (fun O' h' => rv_inc (hk (_, O') ⟨?_, ?_⟩))
      · rw [hlen]; rfl
      · rw [rv_rps, ← Nat.add_assoc, ← hlen]
        exact h'
theorem ry_pair8 {P : SY → Prop} {c l O : Nat → Int32} {ls : List Int32} {x y : Int32} (hls : ls.length ≤ 64) (h : rv_sg (rv_gd ls) ls.length O)
    (hp : ls.length + y.toNatClampNeg ≤ 64 → ∀ O', rv_sg (rv_gd (ls ++ List.replicate y.toNatClampNeg x)) (ls.length + y.toNatClampNeg) O' → P (nI (ls.length + y.toNatClampNeg), c, l, O'))
    (hn : 64 < ls.length + y.toNatClampNeg → ∀ w O', 64 < w → w < 1000 → P (nI w, c, l, O')) : wpY_pair P (nI ls.length, c, l, O) (nI 8) x y := by
  unfold wpY_pair
  dsimp only
  refine br_t (by decide) (br_f (by decide) (br_t rfl (br_c (fun e => ?_) (fun e => ?_))))
  · have e' := (rv_cle y (b := 64) (by decide)).mp e
    refine br_t rfl (br_f (nI_nlt (a := 64) hls (by decide)) (ry_71 hls e' h (fun O' h' => ?_)))
    by_cases z : ls.length + y.toNatClampNeg ≤ 64
    · rw [Nat.min_eq_left z] at h'
      exact hp z O' h'
    · exact hn (by omega) _ O' (by omega) (by omega)
  · have e' : ¬ y.toNatClampNeg ≤ 64 := fun z => e ((rv_cle y (b := 64) (by decide)).mpr z)
    exact br_t rfl (br_t (by decide) (hn (by omega) 65 O (by decide) (by decide)))
theorem ry_pair8o {P : SY → Prop} {c l O : Nat → Int32} {w : Nat} {x y : Int32} (hw : 64 < w) (hw2 : w < 1000) (hn : ∀ w O', 64 < w → w < 1000 → P (nI w, c, l, O')) : wpY_pair P (nI w, c, l, O) (nI 8) x y := by
  unfold wpY_pair
  dsimp only
  refine br_t (by decide) (br_f (by decide) (br_t rfl (br_c (fun e => ?_) (fun e => ?_))))
  · exact br_t rfl (br_t (nI_lt (a := 64) hw (by omega)) (hn w O hw hw2))
  · exact br_t rfl (br_t (by decide) (hn 65 O (by decide) (by decide)))
/-! Y: join -/
theorem ry_join {P : SY → Prop} {c l O f : Nat → Int32} {a L m : Nat} (ha : a < 4) (hl : l a = nI L) (hL : L ≤ 64) (hm : m ≤ 64) (hf : ∀ i, i < L → c (64 * a + i) = f (m + i)) (h : rv_sg f (min m 64) O)
    (hp : ∀ O', rv_sg f (min (m + L) 64) O' → P (nI (m + L), c, l, O')) : wpY_join P (nI m, c, l, O) (nI a) := by
  refine loop_0 (fun n i (s : Int32 × (Nat → Int32)) => wY_join_2 P (nI a) n (nI i) s.1 c l s.2) (fun i s => s.1 = nI (m + i) ∧ rv_sg f (min (m + i) 64) s.2) L (nI m, O) ⟨rfl, h⟩ ?_ ?_
  · intro n s h
    obtain ⟨q, R⟩ := s
    obtain ⟨h1, h2⟩ := h
    dsimp only at h1 h2
    subst h1
    exact rv_lcT ha hl (by omega) (Nat.le_refl _) (hp R h2)
  · intro n i s hi h hk
    obtain ⟨q, R⟩ := s
    obtain ⟨h1, h2⟩ := h
    dsimp only at h1 h2
    subst h1
    refine rv_lcF ha hl hL hi ⟨ry_in ha (by omega), ?_⟩
    rw [ry_rd c ha (by omega)]
    exact ry_giveG (by omega) h2 (hf i hi) (fun O' h' => rv_inc (hk (_, O') ⟨rfl, h'⟩))
