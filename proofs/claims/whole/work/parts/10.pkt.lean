/-! the class's packet: has, byteAt, halfAt, wordAt, replace -/
theorem i_nlt {a b : Int32} (h : ¬ a < b) : b ≤ a := Int32.not_lt.mp h
theorem i_nle {a b : Int32} (h : ¬ a ≤ b) : b < a := Int32.not_le.mp h
/-- an index that is not below 0 and below a small bound is a number -/
theorem i_ix {i : Int32} {N : Nat} (h0 : ¬ i < 0) (h1 : i < nI N) (hN : N < 2 ^ 31) : i.toNatClampNeg < N ∧ i = nI i.toNatClampNeg := by
  obtain ⟨j, hj, rfl⟩ := nI_of h0
  rw [nI_clamp hj]
  exact ⟨(nI_ltI hj hN).mp h1, rfl⟩
def pk_b (h : sd_H) (i : Int32) : Int32 := if 0 ≤ i ∧ i < h.1 1 0 1 ∧ i < 300 then h.1 11 0 i.toNatClampNeg else 0
abbrev v_i (x : Int32) : sd_V := .inl x
abbrev v_l (x : Int64) : sd_V := .inr (.inl x)
abbrev v_r (t k : Nat) : sd_V := .inr (.inr (t, some k))
section PK
variable {l : Launch} {h : sd_H} {Q : Option sd_V → sd_H → Prop}
theorem sp_byteAt {i : Int32} (k : Q (some (v_i (pk_b h i))) h) : sd_E1 l y_X4_byteAt [v_r 1 0, v_i i] h Q := by
  refine sd_e1 [] 40 (cd := cd_X4_byteAt) (by decide) rfl (Nat.le_of_ble_eq_true rfl) ?_
  have z : ¬ (0 ≤ i ∧ i < h.1 1 0 1 ∧ i < 300) → Q (some (v_i 0)) h := fun q => by
    unfold pk_b at k; rw [if_neg q] at k; exact k
  refine ⟨fun c1 => ?_, fun c1 => ?_⟩
  · exact z fun q => absurd c1 (Int32.not_lt.mpr q.1)
  · refine ⟨fun c2 => ?_, fun c2 => ?_⟩
    · exact z fun q => absurd c2 (Int32.not_le.mpr q.2.1)
    · refine ⟨fun c3 => ?_, fun c3 => ?_⟩
      · exact z fun q => absurd c3 (Int32.not_le.mpr q.2.2)
      · obtain ⟨i1, i2⟩ := i_ix (N := 300) c1 (i_nle c3) (by decide)
        refine ⟨i.toNatClampNeg, ⟨i1, i2⟩, ?_⟩
        unfold pk_b at k
        rw [if_pos ⟨i_nlt c1, i_nle c2, i_nle c3⟩] at k
        exact k
def pk_2 (h : sd_H) (i : Int32) : Int32 := pk_b h i <<< 8 ||| pk_b h (i + 1)
def pk_4 (h : sd_H) (i : Int32) : Int32 := pk_2 h i <<< 16 ||| pk_2 h (i + 2)
theorem sp_halfAt {i : Int32} (k : Q (some (v_i (pk_2 h i))) h) : sd_E1 l y_X4_halfAt [v_r 1 0, v_i i] h Q := by
  refine sd_e1 [] 40 (cd := cd_X4_halfAt) (by decide) rfl (Nat.le_of_ble_eq_true rfl) ?_
  refine sp_byteAt ?_
  refine sp_byteAt ?_
  exact k
theorem sp_wordAt {i : Int32} (k : Q (some (v_i (pk_4 h i))) h) : sd_E1 l y_X4_wordAt [v_r 1 0, v_i i] h Q := by
  refine sd_e1 [] 40 (cd := cd_X4_wordAt) (by decide) rfl (Nat.le_of_ble_eq_true rfl) ?_
  refine sp_halfAt ?_
  refine sp_halfAt ?_
  exact k
def pk_has (h : sd_H) (i : Int32) : Int32 := if 0 ≤ i ∧ i < h.1 1 0 1 ∧ i < 300 then 1 else 0
theorem sp_has {i : Int32} (k : Q (some (v_i (pk_has h i))) h) : sd_E1 l y_X4_has [v_r 1 0, v_i i] h Q := by
  refine sd_e1 [] 40 (cd := cd_X4_has) (by decide) rfl (Nat.le_of_ble_eq_true rfl) ?_
  have z : ¬ (0 ≤ i ∧ i < h.1 1 0 1 ∧ i < 300) → Q (some (v_i 0)) h := fun q => by
    unfold pk_has at k; rw [if_neg q] at k; exact k
  refine ⟨fun c1 => ?_, fun c1 => ?_⟩
  · exact ⟨Or.inl rfl, z fun q => absurd c1 (Int32.not_lt.mpr q.1)⟩
  · refine ⟨fun c2 => ?_, fun c2 => ?_⟩
    · exact ⟨Or.inl rfl, z fun q => absurd c2 (Int32.not_le.mpr q.2.1)⟩
    · refine ⟨fun c3 => ?_, fun c3 => ?_⟩
      · exact ⟨Or.inl rfl, z fun q => absurd c3 (Int32.not_le.mpr q.2.2)⟩
      · refine ⟨Or.inr rfl, ?_⟩
        unfold pk_has at k
        rw [if_pos ⟨i_nlt c1, i_nle c2, i_nle c3⟩] at k
        exact k
end PK
