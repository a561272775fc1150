/-! counts -/
def rs_cn (f : Nat → Bool) : Nat → Nat
  | 0 => 0
  | n + 1 => rs_cn f n + (if f n = true then 1 else 0)
theorem rs_cnT {f : Nat → Bool} {n : Nat} (h : f n = true) : rs_cn f (n + 1) = rs_cn f n + 1 := by rw [rs_cn, if_pos h]
theorem rs_cnF {f : Nat → Bool} {n : Nat} (h : ¬ f n = true) : rs_cn f (n + 1) = rs_cn f n := by rw [rs_cn, if_neg h, Nat.add_zero]
theorem rs_cnL (f : Nat → Bool) (n : Nat) : rs_cn f n ≤ n := by
  induction n with
  | zero => exact Nat.le_refl _
  | succ n ih =>
    by_cases h : f n = true
    · rw [rs_cnT h]; omega
    · rw [rs_cnF h]; omega
theorem rs_mono {f g : Nat → Bool} {n : Nat} (h : ∀ j, j < n → f j = true → g j = true) : rs_cn f n ≤ rs_cn g n := by
  induction n with
  | zero => exact Nat.le_refl _
  | succ n ih =>
    have h1 := ih (fun j hj => h j (by omega))
    by_cases hf : f n = true
    · rw [rs_cnT hf, rs_cnT (h n (by omega) hf)]; omega
    · rw [rs_cnF hf]
      by_cases hg : g n = true
      · rw [rs_cnT hg]; omega
      · rw [rs_cnF hg]; omega
theorem rs_strict {f g : Nat → Bool} {n : Nat} (q : Nat) (hq : q < n) (h : ∀ j, j < n → f j = true → g j = true) (hf : ¬ f q = true) (hg : g q = true) : rs_cn f n < rs_cn g n := by
  induction n with
  | zero => omega
  | succ n ih =>
    by_cases e : q = n
    · subst e
      rw [rs_cnF hf, rs_cnT hg]
      have := rs_mono (fun j hj => h j (Nat.lt_succ_of_lt hj)) (f := f) (g := g) (n := q)
      omega
    · have h1 := ih (by omega) (fun j hj => h j (by omega))
      by_cases hfn : f n = true
      · rw [rs_cnT hfn, rs_cnT (h n (by omega) hfn)]; omega
      · rw [rs_cnF hfn]
        by_cases hgn : g n = true
        · rw [rs_cnT hgn]; omega
        · rw [rs_cnF hgn]; omega
/-! ranks -/
def rs_le (x : Nat → Int32) (v : Int32) : Nat → Bool := fun j => decide (x j ≤ v)
def rs_bf (x : Nat → Int32) (p : Nat) : Nat → Bool := fun j => decide (x j < x p ∨ (x j = x p ∧ j < p))
theorem rs_le1 {x : Nat → Int32} {v : Int32} {j : Nat} : rs_le x v j = true ↔ x j ≤ v := by unfold rs_le; exact decide_eq_true_iff
theorem rs_bf1 {x : Nat → Int32} {p j : Nat} : rs_bf x p j = true ↔ (x j < x p ∨ (x j = x p ∧ j < p)) := by unfold rs_bf; exact decide_eq_true_iff
theorem rs_lo {x : Nat → Int32} {v : Int32} {i p : Nat} (hp : p < i) (h : x p ≤ v) : rs_cn (rs_bf x p) i < rs_cn (rs_le x v) i := by
  refine rs_strict p hp (fun j _ hj => ?_) (fun z => ?_) (rs_le1.mpr h)
  · rw [rs_le1]
    rw [rs_bf1, Int32.lt_iff_toInt_lt, ← Int32.toInt_inj] at hj
    rw [Int32.le_iff_toInt_le] at h ⊢
    omega
  · rw [rs_bf1, Int32.lt_iff_toInt_lt] at z
    omega
theorem rs_hi {x : Nat → Int32} {v : Int32} {i p : Nat} (h : ¬ x p ≤ v) : rs_cn (rs_le x v) i ≤ rs_cn (rs_bf x p) i := by
  refine rs_mono (fun j _ hj => ?_)
  rw [rs_bf1, Int32.lt_iff_toInt_lt]
  rw [rs_le1] at hj
  rw [Int32.le_iff_toInt_le] at h hj
  omega
theorem rs_inj1 {x : Nat → Int32} {n p q : Nat} (hp : p < n) (h : x p < x q ∨ (x p = x q ∧ p < q)) : rs_cn (rs_bf x p) n < rs_cn (rs_bf x q) n := by
  refine rs_strict p hp (fun j _ hj => ?_) (fun z => ?_) (rs_bf1.mpr h)
  · rw [rs_bf1] at hj ⊢
    rw [Int32.lt_iff_toInt_lt, ← Int32.toInt_inj] at h hj ⊢
    omega
  · rw [rs_bf1, Int32.lt_iff_toInt_lt] at z
    omega
theorem rs_inj {x : Nat → Int32} {n p q : Nat} (hp : p < n) (hq : q < n) (h : rs_cn (rs_bf x p) n = rs_cn (rs_bf x q) n) : p = q := by
  by_cases e : p = q
  · exact e
  · exfalso
    have hc : (x p < x q ∨ (x p = x q ∧ p < q)) ∨ (x q < x p ∨ (x q = x p ∧ q < p)) := by
      rw [Int32.lt_iff_toInt_lt, Int32.lt_iff_toInt_lt, ← Int32.toInt_inj, ← Int32.toInt_inj]
      omega
    rcases hc with hc | hc
    · have := rs_inj1 (n := n) hp hc; omega
    · have := rs_inj1 (n := n) hq hc; omega
theorem rs_lt {x : Nat → Int32} {n p : Nat} (hp : p < n) : rs_cn (rs_bf x p) n < n := by
  have h := rs_strict (f := rs_bf x p) (g := fun _ => true) (n := n) p hp (fun _ _ _ => rfl) (fun z => by rw [rs_bf1, Int32.lt_iff_toInt_lt] at z; omega) rfl
  have := rs_cnL (fun _ => true) n
  omega
/-! the sorted cells, by insertion -/
def rs_ins (g : Nat) (v : Int32) (S : Nat → Int32) : Nat → Int32 := fun j => if j < g then S j else if j = g then v else S (j - 1)
def rs_so (x : Nat → Int32) : Nat → (Nat → Int32)
  | 0 => fun _ => 0
  | i + 1 => rs_ins (rs_cn (rs_le x (x i)) i) (x i) (rs_so x i)
theorem rs_soP (x : Nat → Int32) : ∀ i q : Nat, q < i → ∃ p, p < i ∧ rs_cn (rs_bf x p) i = q ∧ rs_so x i q = x p := by
  intro i
  induction i with
  | zero => exact fun q h => absurd h (Nat.not_lt_zero q)
  | succ i ih =>
    intro q hq
    have hgl := rs_cnL (rs_le x (x i)) i
    have hself : rs_cn (rs_bf x i) i = rs_cn (rs_le x (x i)) i := by
      refine Nat.le_antisymm (rs_mono fun j hj z => ?_) (rs_mono fun j hj z => ?_)
      · rw [rs_le1]
        rw [rs_bf1, Int32.lt_iff_toInt_lt, ← Int32.toInt_inj] at z
        rw [Int32.le_iff_toInt_le]
        omega
      · rw [rs_bf1, Int32.lt_iff_toInt_lt, ← Int32.toInt_inj]
        rw [rs_le1, Int32.le_iff_toInt_le] at z
        omega
    have hfi : ∀ p, p ≤ i → (rs_bf x p i = true ↔ ¬ x p ≤ x i) := by
      intro p hp
      rw [rs_bf1, Int32.lt_iff_toInt_lt, ← Int32.toInt_inj, Int32.le_iff_toInt_le]
      omega
    show ∃ p, p < i + 1 ∧ rs_cn (rs_bf x p) (i + 1) = q ∧ rs_ins (rs_cn (rs_le x (x i)) i) (x i) (rs_so x i) q = x p
    unfold rs_ins
    by_cases h1 : q < rs_cn (rs_le x (x i)) i
    · obtain ⟨p, hp, e1, e2⟩ := ih q (by omega)
      have hle : x p ≤ x i := by
        by_cases z : x p ≤ x i
        · exact z
        · have := rs_hi (i := i) z; omega
      refine ⟨p, by omega, ?_, by rw [if_pos h1, e2]⟩
      rw [rs_cnF (fun z => (hfi p (by omega)).mp z hle), e1]
    · by_cases h2 : q = rs_cn (rs_le x (x i)) i
      · refine ⟨i, by omega, ?_, by rw [if_neg h1, if_pos h2]⟩
        rw [rs_cnF (fun z => (hfi i (by omega)).mp z (Int32.le_refl _)), hself, h2]
      · obtain ⟨p, hp, e1, e2⟩ := ih (q - 1) (by omega)
        have hle : ¬ x p ≤ x i := fun z => by
          have := rs_lo hp z; omega
        refine ⟨p, by omega, ?_, by rw [if_neg h1, if_neg h2, e2]⟩
        rw [rs_cnT ((hfi p (by omega)).mpr hle), e1]
        omega
theorem rs_cut (x : Nat → Int32) {i q : Nat} (hq : q < i) : rs_so x i q ≤ x i ↔ q < rs_cn (rs_le x (x i)) i := by
  obtain ⟨p, hp, e1, e2⟩ := rs_soP x i q hq
  rw [e2]
  refine ⟨fun h => ?_, fun h => ?_⟩
  · have := rs_lo hp h; omega
  · by_cases z : x p ≤ x i
    · exact z
    · have := rs_hi (i := i) z; omega
/-! X's inner loop -/
theorem rx_sort25 {post : Int32 → SX → Prop} {J2 : Int32 → (Nat → Int32) → (Nat → Int32) → (Nat → Int32) → Prop} {c l : Nat → Int32} {x1 : Int32} {i : Nat} (x : Nat → Int32) (hi : i < 64)
    (hJ : ∀ R, rv_sg (rs_so x (i + 1)) (i + 1) R → J2 (nI (i + 1)) c l R) : ∀ (d j : Nat) (R : Nat → Int32), j = rs_cn (rs_le x (x i)) i + d → j ≤ i → rv_sg (rs_so x i) j R → (∀ q, j ≤ q → q < i → R (q + 1) = rs_so x i q) →
    wX_makeSorted_25 post J2 x1 (nI i) (x i) (d + 1) (nI j) (nI j) c l R := by
  intro d
  induction d with
  | zero =>
    intro j R hj hji h1 h2
    have hfin : J2 (nI (i + 1)) c l (upd R j (x i)) := by
      refine hJ _ (fun q hq => ?_)
      show _ = rs_ins (rs_cn (rs_le x (x i)) i) (x i) (rs_so x i) q
      unfold rs_ins
      by_cases e : q = j
      · rw [e, pk_us, if_neg (by omega), if_pos (by omega)]
      · rw [pk_un e]
        by_cases e2 : q < j
        · rw [if_pos (by omega), h1 q e2]
        · rw [if_neg (by omega), if_neg (by omega), ← h2 (q - 1) (by omega) (by omega), Nat.sub_add_cancel (by omega)]
    cases j with
    | zero => exact br_t (by decide) (rv_st (by omega) (rv_inc hfin))
    | succ q =>
      refine br_f (nI_nle (by omega) (by omega)) ?_
      rw [nI_pred, nI_clamp (by omega), h1 q (by omega)]
      exact ⟨vp_in_nI (by omega) (by decide), br_t ((rs_cut x (by omega)).mpr (by omega)) (rv_st (by omega) (rv_inc hfin))⟩
  | succ d ih =>
    intro j R hj hji h1 h2
    cases j with
    | zero => omega
    | succ q =>
      refine br_f (nI_nle (by omega) (by omega)) ?_
      have hv := h1 q (by omega)
      rw [nI_pred, nI_clamp (by omega : q < 2 ^ 31), hv]
      refine ⟨vp_in_nI (by omega) (by decide), br_f (fun z => ?_) ⟨vp_in_nI (by omega) (by decide), rv_st (by omega) (nm_e (nm_r (pk_m1 q) (ih q _ (by omega) (by omega) ?_ ?_)))⟩⟩
      · have := (rs_cut x (by omega)).mp z; omega
      · intro p hp
        rw [pk_un (by omega)]; exact h1 p (by omega)
      · intro p hp hp2
        by_cases e : p = q
        · rw [e, pk_us]
        · rw [pk_un (by omega)]; exact h2 p (by omega) hp2
theorem rx_makeSorted {post : Int32 → SX → Prop} {c l r : Nat → Int32} {a L : Nat} (ha : a < 4) (hl : l a = nI L) (hL : L ≤ 64)
    (hp : rv_mk post c l (some (L, rs_so (fun i => c (64 * a + i)) L))) : wpX_makeSorted post (c, l, r) (nI a) := by
  refine loop_0 (fun n i R => wX_makeSorted_2 post (nI a) n (nI i) c l R) (fun i R => rv_sg (rs_so (fun i => c (64 * a + i)) i) i R) L r (rv_sg0 _ _) ?_ ?_
  · exact fun n R h => rv_lcT ha hl (by omega) (Nat.le_refl _) (rv_en ha hl (hp R hL h))
  · intro n i R hi h hk
    have hg := rs_cnL (rs_le (fun i => c (64 * a + i)) (c (64 * a + i))) i
    exact rv_lcF ha hl hL hi (rx_cell ha (by omega) ⟨_, rx_sort25 (fun i => c (64 * a + i)) (by omega) hk (i - rs_cn (rs_le (fun i => c (64 * a + i)) (c (64 * a + i))) i) i R (by show i = rs_cn (rs_le (fun i => c (64 * a + i)) (c (64 * a + i))) i + _; omega) (Nat.le_refl _) h (fun q h1 h2 => by omega)⟩)
