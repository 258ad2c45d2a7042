/-! numbers: lcmp, xor and signs, remainders; Math -/
theorem lc_cases (x z : Int64) : (x < z ∧ lg_cmp x z = -1) ∨ (x = z ∧ lg_cmp x z = 0) ∨ (z < x ∧ lg_cmp x z = 1) := by
  unfold lg_cmp
  by_cases h1 : x > z
  · exact Or.inr (Or.inr ⟨h1, by rw [if_pos h1]⟩)
  · by_cases h2 : x = z
    · exact Or.inr (Or.inl ⟨h2, by rw [if_neg h1, if_pos h2]⟩)
    · refine Or.inl ⟨?_, by rw [if_neg h1, if_neg h2]⟩
      have h3 : x ≤ z := Int64.not_lt.mp h1
      rw [Int64.lt_iff_toInt_lt]
      rw [Int64.le_iff_toInt_le] at h3
      have h4 : x.toInt ≠ z.toInt := fun q => h2 (Int64.toInt_inj.mp q)
      omega
theorem l_lt_irr {x z : Int64} (a : x < z) (b : z < x) : False := by
  rw [Int64.lt_iff_toInt_lt] at a b; omega
theorem l_lt_ne {x z : Int64} (a : x < z) (b : x = z) : False := by
  rw [Int64.lt_iff_toInt_lt, b] at a; omega
theorem lc_lt {x z : Int64} : lg_cmp x z < 0 ↔ x < z := by
  rcases lc_cases x z with ⟨a, b⟩ | ⟨a, b⟩ | ⟨a, b⟩ <;> rw [b]
  · exact ⟨fun _ => a, fun _ => by decide⟩
  · exact ⟨fun q => absurd q (by decide), fun q => (l_lt_ne q a).elim⟩
  · exact ⟨fun q => absurd q (by decide), fun q => (l_lt_irr q a).elim⟩
theorem lc_gt {x z : Int64} : 0 < lg_cmp x z ↔ z < x := by
  rcases lc_cases x z with ⟨a, b⟩ | ⟨a, b⟩ | ⟨a, b⟩ <;> rw [b]
  · exact ⟨fun q => absurd q (by decide), fun q => (l_lt_irr q a).elim⟩
  · exact ⟨fun q => absurd q (by decide), fun q => (l_lt_ne q a.symm).elim⟩
  · exact ⟨fun _ => a, fun _ => by decide⟩
theorem lc_eq {x z : Int64} : lg_cmp x z = 0 ↔ x = z := by
  rcases lc_cases x z with ⟨a, b⟩ | ⟨a, b⟩ | ⟨a, b⟩ <;> rw [b]
  · exact ⟨fun q => absurd q (by decide), fun q => (l_lt_ne a q).elim⟩
  · exact ⟨fun _ => a, fun _ => rfl⟩
  · exact ⟨fun q => absurd q (by decide), fun q => (l_lt_ne a q.symm).elim⟩
theorem lc_ge {x z : Int64} : 0 ≤ lg_cmp x z ↔ ¬ x < z := by rw [← Int32.not_lt, lc_lt]
theorem lc_le {x z : Int64} : lg_cmp x z ≤ 0 ↔ ¬ z < x := by rw [← Int32.not_lt, lc_gt]
theorem i_nn {x : Int32} : 0 ≤ x ↔ x.toBitVec.msb = false := by
  rw [Int32.le_iff_toInt_le, show (0 : Int32).toInt = 0 from rfl, ← Int32.toInt_toBitVec, BitVec.msb_eq_toInt]
  simp
theorem l_nn {x : Int64} : ¬ x < 0 ↔ x.toBitVec.msb = false := by
  rw [Int64.lt_iff_toInt_lt, show (0 : Int64).toInt = 0 from rfl, ← Int64.toInt_toBitVec, BitVec.msb_eq_toInt]
  simp
theorem i_xnn {x z : Int32} (hz : 0 ≤ z) : 0 ≤ x ^^^ z ↔ 0 ≤ x := by
  rw [i_nn, i_nn, Int32.toBitVec_xor, BitVec.msb_xor, i_nn.mp hz]
  simp
theorem l_xnn {x z : Int64} (hz : ¬ z < 0) : ¬ x ^^^ z < 0 ↔ ¬ x < 0 := by
  rw [l_nn, l_nn, Int64.toBitVec_xor, BitVec.msb_xor, l_nn.mp hz]
  simp
theorem l_div32 (n : Int64) : (n / 32).toInt = n.toInt.tdiv 32 := by
  have h1 := Int64.minValue_le_toInt n
  have h2 := Int64.toInt_le n
  rw [Int64.toInt_div_of_ne_right n 32 (by decide)]
  rfl
theorem l_rem32 (n : Int64) : (n - n / 32 * 32).toInt = n.toInt.tmod 32 := by
  have hd := l_div32 n
  have e : n.toInt.tmod 32 = n.toInt - n.toInt.tdiv 32 * 32 := by
    have := Int.mul_tdiv_add_tmod n.toInt 32
    omega
  obtain ⟨b1, b2⟩ := tmod_bounds (a := n.toInt) (M := 32) (by decide)
  rw [Int64.toInt_sub, Int64.toInt_mul, hd, show (32 : Int64).toInt = 32 from rfl, Int.sub_bmod_bmod, ← e]
  exact Int.bmod_eq_of_le (by omega) (by omega)
/-- the place of a LONG NUMBER in the rows of 32 -/
def sl (n : Int64) : Nat := (n.toInt % 32).toNat
theorem sl_lt (n : Int64) : sl n < 32 := by
  unfold sl
  have := Int.emod_lt_of_pos n.toInt (show (0 : Int) < 32 by decide)
  have := Int.emod_nonneg n.toInt (show (32 : Int) ≠ 0 by decide)
  omega
theorem l_i32 {x : Int64} {m : Nat} (h : x.toInt = m) (hm : m < 2 ^ 31) : x.toInt32 = nI m := by
  apply Int32.toInt_inj.mp
  rw [nI_toInt hm, Int64.toInt_toInt32, h]
  exact Int.bmod_eq_of_le (by omega) (by omega)
section MA
variable {l : Launch} {h : sd_H} {Q : Option sd_V → sd_H → Prop}
def fl_m (a b : Int64) : Int64 := if ¬ a ^^^ b < 0 then a - a / b * b else if a - a / b * b = 0 then a - a / b * b else a - a / b * b + b
theorem sp_fmodL {a b : Int64} (hb : ¬ b = 0) (k : Q (some (v_l (fl_m a b))) h) : sd_E1 l y_J9_floorMod_f86c9 [v_l a, v_l b] h Q := by
  refine sd_e1 [] 40 (cd := cd_J9_floorMod_f86c9) (by decide) rfl (Nat.le_of_ble_eq_true rfl) ?_
  refine ⟨hb, ?_⟩
  unfold fl_m at k
  refine ⟨fun c1 => ?_, fun c1 => ?_⟩
  · rw [if_pos (lc_ge.mp c1)] at k; exact k
  · rw [if_neg (fun q => c1 (lc_ge.mpr q))] at k
    refine ⟨fun c2 => ?_, fun c2 => ?_⟩
    · rw [if_pos (lc_eq.mp c2)] at k; exact k
    · rw [if_neg (fun q => c2 (lc_eq.mpr q))] at k; exact k
theorem fl_m32 (n : Int64) : (fl_m n 32).toInt32 = nI (sl n) := by
  have hr := l_rem32 n
  have hs := sl_lt n
  apply l_i32 _ (by omega)
  unfold fl_m
  have hx : ¬ n ^^^ 32 < 0 ↔ ¬ n < 0 := l_xnn (by decide)
  have hz : (n < 0) ↔ n.toInt < 0 := by rw [Int64.lt_iff_toInt_lt]; rfl
  have h5 : n.toInt.tmod 32 = if 0 ≤ n.toInt ∨ (32 : Int) ∣ n.toInt then n.toInt % 32 else n.toInt % 32 - 32 := by
    rw [Int.tmod_eq_emod]
    by_cases hc : 0 ≤ n.toInt ∨ (32 : Int) ∣ n.toInt
    · rw [if_pos hc, if_pos hc]; simp
    · rw [if_neg hc, if_neg hc]; rfl
  have h0 := Int.emod_nonneg n.toInt (show (32 : Int) ≠ 0 by decide)
  have h1 := Int.emod_lt_of_pos n.toInt (show (0 : Int) < 32 by decide)
  have hsl : ((sl n : Nat) : Int) = n.toInt % 32 := by unfold sl; omega
  rw [hsl]
  by_cases c1 : ¬ n ^^^ 32 < 0
  · have hnn : ¬ n.toInt < 0 := fun q => hx.mp c1 (hz.mpr q)
    rw [if_pos c1, hr, h5, if_pos (Or.inl (by omega))]
  · rw [if_neg c1]
    have hneg : n.toInt < 0 := hz.mp (Classical.not_not.mp fun q => c1 (hx.mpr q))
    by_cases c2 : n - n / 32 * 32 = 0
    · rw [if_pos c2, hr]
      rw [c2] at hr
      have hr : (0 : Int) = n.toInt.tmod 32 := hr
      by_cases hd : (32 : Int) ∣ n.toInt
      · rw [h5, if_pos (Or.inr hd)]
      · rw [if_neg (by omega)] at h5
        omega
    · rw [if_neg c2]
      by_cases hd : (32 : Int) ∣ n.toInt
      · exfalso
        apply c2
        apply Int64.toInt_inj.mp
        rw [hr, h5, if_pos (Or.inr hd)]
        exact Int.emod_eq_zero_of_dvd hd
      · rw [if_neg (by omega)] at h5
        rw [Int64.toInt_add, hr, h5, show (32 : Int64).toInt = 32 from rfl]
        rw [show n.toInt % 32 - 32 + 32 = n.toInt % 32 by omega]
        exact Int.bmod_eq_of_le (by omega) (by omega)
theorem sp_slotOf {n : Int64} (k : Q (some (v_i (nI (sl n)))) h) : sd_E1 l y_X5_slotOf [v_l n] h Q := by
  refine sd_e1 [] 40 (cd := cd_X5_slotOf) (by decide) rfl (Nat.le_of_ble_eq_true rfl) ?_
  refine sp_fmodL (by decide) ?_
  have e := fl_m32 n
  show Q (some (v_i (fl_m n 32).toInt32)) h
  rw [e]; exact k
theorem sp_fmod64 {e : Nat} (he : e < 2 ^ 31) (k : Q (some (v_i (nI (e % 64)))) h) : sd_E1 l y_J9_floorMod_7cf53 [v_i (nI e), v_i 64] h Q := by
  refine sd_e1 [] 40 (cd := cd_J9_floorMod_7cf53) (by decide) rfl (Nat.le_of_ble_eq_true rfl) ?_
  refine ⟨by decide, ?_⟩
  have hr : nI e - nI e / 64 * 64 = nI (e % 64) := pk_rem (d := 64) he (by decide) (by decide)
  refine ⟨fun _ => ?_, fun c1 => absurd ((i_xnn (by decide)).mpr (nI_pos' he)) c1⟩
  show Q (some (v_i (nI e - nI e / 64 * 64))) h
  rw [hr]; exact k
def i_abs (x : Int32) : Int32 := if 0 ≤ x then x else -x
theorem sp_abs {x : Int32} (k : Q (some (v_i (i_abs x))) h) : sd_E1 l y_J9_abs_0f7a4 [v_i x] h Q := by
  refine sd_e1 [] 40 (cd := cd_J9_abs_0f7a4) (by decide) rfl (Nat.le_of_ble_eq_true rfl) ?_
  unfold i_abs at k
  refine ⟨fun c1 => ?_, fun c1 => ?_⟩
  · rw [if_pos c1] at k; exact k
  · rw [if_neg c1] at k; exact k
def i_max (x z : Int32) : Int32 := if x < z then z else x
def i_min (x z : Int32) : Int32 := if z < x then z else x
theorem sp_max {x z : Int32} (k : Q (some (v_i (i_max x z))) h) : sd_E1 l y_J9_max_7cf53 [v_i x, v_i z] h Q := by
  refine sd_e1 [] 40 (cd := cd_J9_max_7cf53) (by decide) rfl (Nat.le_of_ble_eq_true rfl) ?_
  unfold i_max at k
  refine ⟨fun c1 => ?_, fun c1 => ?_⟩
  · rw [if_pos c1] at k; exact k
  · rw [if_neg c1] at k; exact k
theorem sp_min {x z : Int32} (k : Q (some (v_i (i_min x z))) h) : sd_E1 l y_J9_min_7cf53 [v_i x, v_i z] h Q := by
  refine sd_e1 [] 40 (cd := cd_J9_min_7cf53) (by decide) rfl (Nat.le_of_ble_eq_true rfl) ?_
  unfold i_min at k
  refine ⟨fun c1 => ?_, fun c1 => ?_⟩
  · rw [if_pos c1] at k; exact k
  · rw [if_neg c1] at k; exact k
/-- floorDiv by a divisor that isn't below 0, and how the check reckons it -/
def fl_d (a b : Int64) : Int64 := if ¬ a < 0 then a / b else if a - a / b * b = 0 then a / b else a / b - 1
theorem sp_fdiv {a b : Int64} (hb : ¬ b = 0) (hb0 : ¬ b < 0) (k : Q (some (v_l (fl_d a b))) h) : sd_E1 l y_J9_floorDiv_f86c9 [v_l a, v_l b] h Q := by
  refine sd_e1 [] 40 (cd := cd_J9_floorDiv_f86c9) (by decide) rfl (Nat.le_of_ble_eq_true rfl) ?_
  refine ⟨hb, ?_⟩
  unfold fl_d at k
  refine ⟨fun c1 => ?_, fun c1 => ?_⟩
  · rw [if_pos ((l_xnn hb0).mp (lc_ge.mp c1))] at k; exact k
  · rw [if_neg (fun q => c1 (lc_ge.mpr ((l_xnn hb0).mpr q)))] at k
    have hiff : a / b * b = a ↔ a - a / b * b = 0 := by
      generalize a / b * b = x
      refine ⟨fun q => by rw [q]; exact Int64.sub_self a, fun q => ?_⟩
      have h2 : a - x + x = 0 + x := by rw [q]
      rw [Int64.sub_add_cancel, Int64.zero_add] at h2
      exact h2.symm
    refine ⟨fun c2 => ?_, fun c2 => ?_⟩
    · rw [if_pos (hiff.mp (lc_eq.mp c2))] at k; exact k
    · rw [if_neg (fun q => c2 (lc_eq.mpr (hiff.mpr q)))] at k; exact k
end MA
