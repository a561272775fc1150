/-! results that grow cell by cell: lists -/
def rv_gd (ls : List Int32) : Nat → Int32 := fun j => ls.getD j 0
theorem rv_gd1 {ls : List Int32} {x : Int32} {R : Nat → Int32} (h : rv_sg (rv_gd ls) ls.length R) : rv_sg (rv_gd (ls ++ [x])) (ls ++ [x]).length (upd R ls.length x) := by
  intro j hj
  rw [List.length_append, List.length_singleton] at hj
  unfold rv_gd
  by_cases e : j = ls.length
  · rw [e, pk_us]
    simp [List.getD_eq_getElem?_getD]
  · have hj2 : j < ls.length := by omega
    rw [pk_un e, h j hj2]
    simp [rv_gd, List.getD_eq_getElem?_getD, List.getElem?_append, hj2]
/-- made and result hold the list -/
def rv_li (ls : List Int32) (s : Int32 × (Nat → Int32)) : Prop := s.1 = nI ls.length ∧ rv_sg (rv_gd ls) ls.length s.2
theorem rv_li0 (R : Nat → Int32) : rv_li [] (0, R) := ⟨rfl, rv_sg0 _ _⟩
theorem rv_li1 {ls : List Int32} {R : Nat → Int32} (x : Int32) (h : rv_sg (rv_gd ls) ls.length R) : rv_li (ls ++ [x]) (nI (ls.length + 1), upd R ls.length x) := by
  refine ⟨?_, rv_gd1 h⟩
  rw [List.length_append, List.length_singleton]
def rv_fl (p : Nat → Bool) (f : Nat → Int32) : Nat → List Int32
  | 0 => []
  | i + 1 => if p i = true then rv_fl p f i ++ [f i] else rv_fl p f i
theorem rv_flL (p : Nat → Bool) (f : Nat → Int32) (i : Nat) : (rv_fl p f i).length ≤ i := by
  induction i with
  | zero => exact Nat.le_refl _
  | succ i ih =>
    rw [rv_fl]
    by_cases h : p i = true
    · rw [if_pos h, List.length_append, List.length_singleton]; omega
    · rw [if_neg h]; omega
theorem rv_flT {p : Nat → Bool} {f : Nat → Int32} {i : Nat} (h : p i = true) : rv_fl p f (i + 1) = rv_fl p f i ++ [f i] := by rw [rv_fl, if_pos h]
theorem rv_flF {p : Nat → Bool} {f : Nat → Int32} {i : Nat} (h : ¬ p i = true) : rv_fl p f (i + 1) = rv_fl p f i := by rw [rv_fl, if_neg h]
theorem rv_liT {p : Nat → Bool} {f : Nat → Int32} {i : Nat} {R : Nat → Int32} (h : p i = true) (hr : rv_sg (rv_gd (rv_fl p f i)) (rv_fl p f i).length R) : rv_li (rv_fl p f (i + 1)) (nI ((rv_fl p f i).length + 1), upd R (rv_fl p f i).length (f i)) := by
  rw [rv_flT h]; exact rv_li1 _ hr
theorem rv_liF {p : Nat → Bool} {f : Nat → Int32} {i : Nat} {R : Nat → Int32} (h : ¬ p i = true) (hr : rv_sg (rv_gd (rv_fl p f i)) (rv_fl p f i).length R) : rv_li (rv_fl p f (i + 1)) (nI (rv_fl p f i).length, R) := by
  rw [rv_flF h]; exact ⟨rfl, hr⟩
def rv_ol (ls : List Int32) : Option (Nat × (Nat → Int32)) := some (ls.length, rv_gd ls)
theorem rv_mkL {post : Int32 → SX → Prop} {c l : Nat → Int32} {ls : List Int32} {s : Int32 × (Nat → Int32)} (hp : rv_mk post c l (rv_ol ls)) (h : rv_li ls s) (h6 : ls.length ≤ 64) : post s.1 (c, l, s.2) := by
  rw [h.1]; exact hp s.2 h6 h.2
/-! kept -/
theorem rx_makeKept {post : Int32 → SX → Prop} {c l r : Nat → Int32} {a b L : Nat} (ha : a < 4) (hb : b < 4) (hl : l a = nI L) (hL : L ≤ 64)
    (hp : rv_mk post c l (rv_ol (rv_fl (fun i => decide (¬ c (64 * b + i) = 0)) (fun i => c (64 * a + i)) L))) : wpX_makeKept post (c, l, r) (nI a) (nI b) := by
  refine loop_0 (fun n i (s : Int32 × (Nat → Int32)) => wX_makeKept_5 post (nI a) (nI b) n s.1 (nI i) c l s.2) (fun i s => rv_li (rv_fl (fun i => decide (¬ c (64 * b + i) = 0)) (fun i => c (64 * a + i)) i) s) L (0, r) (rv_li0 _) ?_ ?_
  · exact fun n s h => rv_lcT ha hl (by omega) (Nat.le_refl _) (rv_mkL hp h (Nat.le_trans (rv_flL _ _ _) hL))
  · intro n i s hi h hk
    obtain ⟨m, R⟩ := s
    obtain ⟨h1, h2⟩ := h
    dsimp only at h1 h2
    subst h1
    have hb1 := rv_flL (fun i => decide (¬ c (64 * b + i) = 0)) (fun i => c (64 * a + i)) i
    refine rv_lcF ha hl hL hi (rx_cell hb (by omega) (br_c (fun e => ?_) (fun e => rx_cell ha (by omega) ?_)))
    · exact rv_inc (hk (_, _) (rv_liF (by simp [e]) h2))
    · exact rv_st (by omega) (rv_inc (rv_inc (hk (_, _) (rv_liT (by simp [e]) h2))))
/-! places -/
theorem rx_makePlaces {post : Int32 → SX → Prop} {c l r : Nat → Int32} {a L : Nat} (ha : a < 4) (hl : l a = nI L) (hL : L ≤ 64)
    (hp : rv_mk post c l (rv_ol (rv_fl (fun i => decide (¬ c (64 * a + i) = 0)) nI L))) : wpX_makePlaces post (c, l, r) (nI a) := by
  refine loop_0 (fun n i (s : Int32 × (Nat → Int32)) => wX_makePlaces_4 post (nI a) n s.1 (nI i) c l s.2) (fun i s => rv_li (rv_fl (fun i => decide (¬ c (64 * a + i) = 0)) nI i) s) L (0, r) (rv_li0 _) ?_ ?_
  · exact fun n s h => rv_lcT ha hl (by omega) (Nat.le_refl _) (rv_mkL hp h (Nat.le_trans (rv_flL _ _ _) hL))
  · intro n i s hi h hk
    obtain ⟨m, R⟩ := s
    obtain ⟨h1, h2⟩ := h
    dsimp only at h1 h2
    subst h1
    have hb1 := rv_flL (fun i => decide (¬ c (64 * a + i) = 0)) nI i
    refine rv_lcF ha hl hL hi (rx_cell ha (by omega) (br_c (fun e => ?_) (fun e => ?_)))
    · exact rv_inc (hk (_, _) (rv_liF (by simp [e]) h2))
    · exact rv_st (by omega) (rv_inc (rv_inc (hk (_, _) (rv_liT (by simp [e]) h2))))
/-! steps -/
def rv_sp (x : Nat → Int32) : Nat → Bool
  | 0 => true
  | i + 1 => decide (¬ x (i + 1) = x i)
theorem rx_makeSteps {post : Int32 → SX → Prop} {c l r : Nat → Int32} {a L : Nat} (ha : a < 4) (hl : l a = nI L) (hL : L ≤ 64)
    (hp : rv_mk post c l (rv_ol (rv_fl (rv_sp (fun i => c (64 * a + i))) (fun i => c (64 * a + i)) L))) : wpX_makeSteps post (c, l, r) (nI a) := by
  refine loop_0 (fun n i (s : Int32 × (Nat → Int32)) => wX_makeSteps_4 post (nI a) n s.1 (nI i) c l s.2) (fun i s => rv_li (rv_fl (rv_sp (fun i => c (64 * a + i))) (fun i => c (64 * a + i)) i) s) L (0, r) (rv_li0 _) ?_ ?_
  · exact fun n s h => rv_lcT ha hl (by omega) (Nat.le_refl _) (rv_mkL hp h (Nat.le_trans (rv_flL _ _ _) hL))
  · intro n i s hi h hk
    obtain ⟨m, R⟩ := s
    obtain ⟨h1, h2⟩ := h
    dsimp only at h1 h2
    subst h1
    have hb1 := rv_flL (rv_sp (fun i => c (64 * a + i))) (fun i => c (64 * a + i)) i
    refine rv_lcF ha hl hL hi ?_
    cases i with
    | zero => exact rx_ss0 (br_f (by decide) (rx_cell ha (by omega) (rv_st (by omega) (rv_inc (rv_inc (hk (_, _) (rv_liT rfl h2)))))))
    | succ q =>
      refine rx_ss1 ha (by omega) (fun e => br_t rfl ?_) (fun e => br_f (by decide) (rx_cell ha (by omega) ?_))
      · exact rv_inc (hk (_, _) (rv_liF (by simp [rv_sp, e]) h2))
      · exact rv_st (by omega) (rv_inc (rv_inc (hk (_, _) (rv_liT (by simp [rv_sp, e]) h2))))
/-! repeated -/
theorem rv_cle (x : Int32) {b : Nat} (hb : b < 2 ^ 31) : x ≤ nI b ↔ x.toNatClampNeg ≤ b := by
  by_cases h : x < 0
  · have h0 : x.toNatClampNeg = 0 := by
      rw [Int32.lt_iff_toInt_lt, show (0 : Int32).toInt = 0 by decide] at h
      show x.toInt.toNat = 0
      omega
    rw [h0]
    exact ⟨fun _ => Nat.zero_le _, fun _ => Int32.le_trans (Int32.le_of_lt h) (nI_pos' hb)⟩
  · obtain ⟨j, hj, rfl⟩ := nI_of h
    rw [nI_clamp hj, nI_leI hj hb]
def rv_rp (n : Nat → Nat) (f : Nat → Int32) : Nat → List Int32
  | 0 => []
  | i + 1 => rv_rp n f i ++ List.replicate (n i) (f i)
theorem rv_rp1 (n : Nat → Nat) (f : Nat → Int32) (i : Nat) : (rv_rp n f (i + 1)).length = (rv_rp n f i).length + n i := by
  rw [rv_rp, List.length_append, List.length_replicate]
theorem rv_rpM (n : Nat → Nat) (f : Nat → Int32) (i d : Nat) : (rv_rp n f i).length ≤ (rv_rp n f (i + d)).length := by
  induction d with
  | zero => exact Nat.le_refl _
  | succ d ih =>
    rw [← Nat.add_assoc, rv_rp1]; omega
theorem rv_rps {ls : List Int32} {x : Int32} {j : Nat} : ls ++ List.replicate (j + 1) x = (ls ++ List.replicate j x) ++ [x] := by
  rw [List.replicate_succ', List.append_assoc]
theorem rv_rpl {ls : List Int32} {x : Int32} {j : Nat} : (ls ++ List.replicate j x).length = ls.length + j := by
  rw [List.length_append, List.length_replicate]
theorem rx_makeRepeated {post : Int32 → SX → Prop} {c l r : Nat → Int32} {a b L : Nat} (ha : a < 4) (hb : b < 4) (hl : l a = nI L) (hL : L ≤ 64)
    (hp : (rv_rp (fun i => (c (64 * b + i)).toNatClampNeg) (fun i => c (64 * a + i)) L).length ≤ 64 → rv_mk post c l (rv_ol (rv_rp (fun i => (c (64 * b + i)).toNatClampNeg) (fun i => c (64 * a + i)) L)))
    (hn : 64 < (rv_rp (fun i => (c (64 * b + i)).toNatClampNeg) (fun i => c (64 * a + i)) L).length → rv_mk post c l none) : wpX_makeRepeated post (c, l, r) (nI a) (nI b) := by
  refine loop_0 (fun n i (s : Int32 × (Nat → Int32)) => wX_makeRepeated_5 post (nI a) (nI b) n s.1 (nI i) c l s.2) (fun i s => (rv_rp (fun i => (c (64 * b + i)).toNatClampNeg) (fun i => c (64 * a + i)) i).length ≤ 64 ∧ rv_li (rv_rp (fun i => (c (64 * b + i)).toNatClampNeg) (fun i => c (64 * a + i)) i) s) L (0, r) ⟨Nat.zero_le 64, rv_li0 _⟩ ?_ ?_
  · exact fun n s h => rv_lcT ha hl (by omega) (Nat.le_refl _) (rv_mkL (hp h.1) h.2 h.1)
  · intro n i s hi h hk
    obtain ⟨m, R⟩ := s
    obtain ⟨h6, h1, h2⟩ := h
    dsimp only at h1 h2
    subst h1
    have e1 := rv_rp1 (fun i => (c (64 * b + i)).toNatClampNeg) (fun i => c (64 * a + i)) i
    have eM := rv_rpM (fun i => (c (64 * b + i)).toNatClampNeg) (fun i => c (64 * a + i)) (i + 1) (L - (i + 1))
    rw [show i + 1 + (L - (i + 1)) = L by omega] at eM
    have e2 : rv_rp (fun i => (c (64 * b + i)).toNatClampNeg) (fun i => c (64 * a + i)) (i + 1) = rv_rp (fun i => (c (64 * b + i)).toNatClampNeg) (fun i => c (64 * a + i)) i ++ List.replicate (c (64 * b + i)).toNatClampNeg (c (64 * a + i)) := rfl
    refine rv_lcF ha hl hL hi (rx_cell ha (by omega) (rx_cell hb (by omega) ?_))
    generalize hls : rv_rp (fun i => (c (64 * b + i)).toNatClampNeg) (fun i => c (64 * a + i)) i = ls at *
    rw [rv_64, pk_sub h6]
    refine br_c (fun e => ?_) (fun e => ?_)
    · rw [rv_cle _ (by omega)] at e
      refine loop_0 (fun n7 j (s : Int32 × (Nat → Int32)) => wX_makeRepeated_48 post (wX_makeRepeated_5 post (nI a) (nI b) n) (nI a) (nI b) (nI i) (c (64 * a + i)) (c (64 * b + i)) n7 s.1 (nI j) c l s.2) (fun j s => rv_li (ls ++ List.replicate j (c (64 * a + i))) s) (c (64 * b + i)).toNatClampNeg (nI ls.length, R) ?_ ?_ ?_
      · rw [List.replicate_zero, List.append_nil]
        exact ⟨rfl, h2⟩
      · intro n7 s hs
        refine br_t ((rv_cle _ (by omega)).mpr (Nat.le_refl _)) (rv_inc (hk (s.1, s.2) ⟨by omega, ?_⟩))
        rw [e2]
        exact hs
      · intro n7 j s hj hs hk7
        obtain ⟨m, R⟩ := s
        obtain ⟨h1, h2⟩ := hs
        dsimp only at h1 h2
        subst h1
        refine br_f (fun z => ?_) ?_
        · rw [rv_cle _ (by omega)] at z; omega
        · have hlen := rv_rpl (ls := ls) (x := c (64 * a + i)) (j := j)
          have hk8 := hk7 (nI ((ls ++ List.replicate j (c (64 * a + i))).length + 1), upd R (ls ++ List.replicate j (c (64 * a + i))).length (c (64 * a + i))) (by rw [rv_rps]; exact rv_li1 _ h2)
          exact rv_st (by omega) (rv_inc (rv_inc hk8))
    · rw [rv_cle _ (by omega)] at e
      exact hn (by omega) R
