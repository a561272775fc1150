/-! turned: the place (i + k) mod L -/
theorem rt_tm (k : Int) {M : Int} (hM : 0 < M) : (0 ≤ k.tmod M → k.tmod M = k % M) ∧ (¬ 0 ≤ k.tmod M → k.tmod M + M = k % M) := by
  have hb := tmod_bounds (a := k) hM
  have e : k.tmod M % M = k % M := by
    have h := Int.tmod_add_mul_tdiv k M
    rw [← h, Int.add_mul_emod_self_left, h]
  refine ⟨fun h => ?_, fun h => ?_⟩
  · rw [← e, Int.emod_eq_of_lt h hb.2]
  · rw [← e, ← Int.add_emod_right, Int.emod_eq_of_lt (by omega) (by omega)]
def rv_sh (k : Int32) (L : Nat) : Nat := (k.toInt % (L : Int)).toNat
theorem rv_shE (k : Int32) {L : Nat} (h : 0 < L) : ((rv_sh k L : Nat) : Int) = k.toInt % (L : Int) := by
  unfold rv_sh
  have := Int.emod_nonneg k.toInt (show (L : Int) ≠ 0 by omega)
  omega
theorem rv_shL (k : Int32) {L : Nat} (h : 0 < L) : rv_sh k L < L := by
  have h1 := rv_shE k h
  have := Int.emod_lt_of_pos k.toInt (show (0 : Int) < (L : Int) by omega)
  omega
theorem rt_x (k : Int32) {L : Nat} (h0 : 0 < L) (hL : L ≤ 64) : (0 ≤ k - k / nI L * nI L → k - k / nI L * nI L = nI (rv_sh k L)) ∧ (¬ 0 ≤ k - k / nI L * nI L → k - k / nI L * nI L + nI L = nI (rv_sh k L)) := by
  have e := rem_toInt k (nI L)
  rw [nI_toInt (by omega)] at e
  have hs := rv_shE k h0
  have hsl := rv_shL k h0
  have ht := rt_tm k.toInt (show (0 : Int) < (L : Int) by omega)
  have hb := tmod_bounds (a := k.toInt) (show (0 : Int) < (L : Int) by omega)
  generalize k - k / nI L * nI L = z at *
  have hz : (0 : Int32) ≤ z ↔ 0 ≤ z.toInt := by rw [Int32.le_iff_toInt_le, show (0 : Int32).toInt = 0 by decide]
  rw [hz, e]
  refine ⟨fun h => ?_, fun h => ?_⟩
  · apply Int32.toInt_inj.mp
    rw [nI_toInt (by omega), hs, e]
    exact ht.1 h
  · apply Int32.toInt_inj.mp
    have h2 := ht.2 h
    rw [Int32.toInt_add, nI_toInt (by omega), nI_toInt (by omega), hs, e, ← h2]
    exact Int.bmod_eq_of_le (by omega) (by omega)
theorem rx_makeTurned {post : Int32 → SX → Prop} {c l r : Nat → Int32} {a L : Nat} {k : Int32} (ha : a < 4) (hl : l a = nI L) (hL : L ≤ 64)
    (hp : rv_mk post c l (some (L, fun j => c (64 * a + (j + rv_sh k L) % L)))) : wpX_makeTurned post (c, l, r) (nI a) k := by
  refine ⟨rv_v4 ha, nm_r (rv_lv ha hl) ?_⟩
  by_cases h0 : L = 0
  · subst h0
    exact br_t rfl (hp r hL (rv_sg0 _ _))
  · have hn : ¬ nI L = 0 := nI_ne0 (by omega) (by omega)
    have hx := rt_x k (show 0 < L by omega) hL
    have hsl := rv_shL k (show 0 < L by omega)
    have H : ∃ n, wX_makeTurned_37 post (nI a) (nI L) (nI (rv_sh k L)) n 0 c l r := by
      refine loop_0 (fun n i R => wX_makeTurned_37 post (nI a) (nI L) (nI (rv_sh k L)) n (nI i) c l R) (fun i R => rv_sg (fun j => c (64 * a + (j + rv_sh k L) % L)) i R) L r (rv_sg0 _ _) ?_ ?_
      · exact fun n R h => br_t (Int32.le_refl _) (hp R hL h)
      · intro n i R hi h hk
        refine br_f (nI_ge hi (by omega)) ⟨hn, ?_⟩
        rw [nI_add, pk_rem (by omega) (by omega) (by omega)]
        have hlt : (i + rv_sh k L) % L < L := Nat.mod_lt _ (by omega)
        exact rx_cell ha (by omega) (rv_st (by omega) (rv_inc (hk _ (rv_sg1 h rfl))))
    exact br_f hn ⟨hn, nm_e (br_c (fun z => by rw [hx.1 z]; exact H) (fun z => nm_r (hx.2 z) H))⟩
/-- Y's place -/
theorem rt_y (k : Int32) {L i : Nat} (hi : i < L) (hL : L ≤ 64) :
    (0 ≤ ((nI i).toInt64 + k.toInt64) - ((nI i).toInt64 + k.toInt64) / (nI L).toInt64 * (nI L).toInt64 → (((nI i).toInt64 + k.toInt64) - ((nI i).toInt64 + k.toInt64) / (nI L).toInt64 * (nI L).toInt64).toInt32 = nI ((i + rv_sh k L) % L))
    ∧ (¬ 0 ≤ ((nI i).toInt64 + k.toInt64) - ((nI i).toInt64 + k.toInt64) / (nI L).toInt64 * (nI L).toInt64 → (((nI i).toInt64 + k.toInt64) - ((nI i).toInt64 + k.toInt64) / (nI L).toInt64 * (nI L).toInt64 + (nI L).toInt64).toInt32 = nI ((i + rv_sh k L) % L)) := by
  have hk1 := k.toInt_lt
  have hk2 := k.le_toInt
  have e := Jvm.Kit.i64_rem ((nI i).toInt64 + k.toInt64) (nI L).toInt64
  have es : ((nI i).toInt64 + k.toInt64).toInt = (i : Int) + k.toInt := by
    rw [Int64.toInt_add, Int32.toInt_toInt64, Int32.toInt_toInt64, nI_toInt (by omega)]
    exact Int.bmod_eq_of_le (by omega) (by omega)
  have eL : (nI L).toInt64.toInt = (L : Int) := by rw [Int32.toInt_toInt64, nI_toInt (by omega)]
  rw [es, eL] at e
  have hs := rv_shE k (show 0 < L by omega)
  have ht := rt_tm ((i : Int) + k.toInt) (show (0 : Int) < (L : Int) by omega)
  have hb := tmod_bounds (a := (i : Int) + k.toInt) (show (0 : Int) < (L : Int) by omega)
  have em : (((i + rv_sh k L) % L : Nat) : Int) = ((i : Int) + k.toInt) % (L : Int) := by
    rw [Int.natCast_emod, Int.natCast_add, hs, Int.add_emod_emod]
  have hml : (i + rv_sh k L) % L < L := Nat.mod_lt _ (by omega)
  generalize ((nI i).toInt64 + k.toInt64) - ((nI i).toInt64 + k.toInt64) / (nI L).toInt64 * (nI L).toInt64 = z at *
  generalize (i + rv_sh k L) % L = w at *
  have hz : (0 : Int64) ≤ z ↔ 0 ≤ z.toInt := by rw [Int64.le_iff_toInt_le, show (0 : Int64).toInt = 0 by decide]
  rw [hz, e]
  refine ⟨fun h => ?_, fun h => ?_⟩
  · have hv : z = lN w := by
      apply Int64.toInt_inj.mp
      rw [lN_toInt (by omega), e, em]
      exact ht.1 h
    rw [hv, lN_i]
  · have hv : z + (nI L).toInt64 = lN w := by
      apply Int64.toInt_inj.mp
      have h2 := ht.2 h
      rw [Int64.toInt_add, eL, lN_toInt (by omega), e, em, ← h2]
      exact Int.bmod_eq_of_le (by omega) (by omega)
    rw [hv, lN_i]
