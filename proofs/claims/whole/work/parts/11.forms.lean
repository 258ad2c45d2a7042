/-! the class's forms: DATA and REPORT -/
abbrev pk_s (h : sd_H) : Int32 := h.1 1 0 1
def df_wd (h : sd_H) : Int32 := pk_b h 0 &&& 15
def df_has (h : sd_H) (bit : Int32) : Int32 := if pk_b h 0 &&& bit = 0 then 0 else 1
def df_we (h : sd_H) : Int32 := 12 + 4 * df_wd h
def df_pay (h : sd_H) : Int32 := if df_has h 16 = 0 then df_we h else df_we h + 4 + 4 * pk_2 h (df_we h + 2)
def df_fill (h : sd_H) : Int32 := if df_has h 32 = 0 then 0 else pk_b h (pk_s h - 1)
def df_sort (h : sd_H) : Int32 := pk_b h 1 &&& 127
def df_shape (h : sd_H) : Int32 := if 12 ≤ pk_s h then (if pk_b h 0 >>> 6 = 2 then (if df_we h ≤ pk_s h then (if df_pay h ≤ pk_s h then (if df_has h 32 = 0 then 0 else if df_fill h ≤ 0 then 5 else if pk_s h - df_pay h < df_fill h then 5 else 0) else 4) else 3) else 2) else 1
def df_field (h : sd_H) (w : Int32) : Int32 := if w = 1 then pk_b h 1 >>> 7 else if w = 2 then df_sort h else if w = 3 then pk_2 h 2 else if w = 4 then pk_4 h 4 else if w = 5 then pk_4 h 8 else if w = 6 then df_wd h else if w = 7 then df_pay h else if w = 8 then pk_s h - df_pay h - df_fill h else if w = 9 then (if df_has h 16 = 0 then 0 else pk_2 h (df_we h)) else 0
section DF
variable {l : Launch} {h : sd_H} {Q : Option sd_V → sd_H → Prop}
theorem sp_words (k : Q (some (v_i (df_wd h))) h) : sd_E1 l y_X0_words [v_r 1 0] h Q := by
  refine sd_e1 [] 40 (cd := cd_X0_words) (by decide) rfl (Nat.le_of_ble_eq_true rfl) ?_
  exact sp_byteAt k
theorem sp_dsort (k : Q (some (v_i (df_sort h))) h) : sd_E1 l y_X0_sort [v_r 1 0] h Q := by
  refine sd_e1 [] 40 (cd := cd_X0_sort) (by decide) rfl (Nat.le_of_ble_eq_true rfl) ?_
  exact sp_byteAt k
theorem sp_number (k : Q (some (v_i (pk_2 h 2))) h) : sd_E1 l y_X0_number [v_r 1 0] h Q := by
  refine sd_e1 [] 40 (cd := cd_X0_number) (by decide) rfl (Nat.le_of_ble_eq_true rfl) ?_
  exact sp_halfAt k
theorem sp_stamp (k : Q (some (v_i (pk_4 h 4))) h) : sd_E1 l y_X0_stamp [v_r 1 0] h Q := by
  refine sd_e1 [] 40 (cd := cd_X0_stamp) (by decide) rfl (Nat.le_of_ble_eq_true rfl) ?_
  exact sp_wordAt k
theorem sp_source (k : Q (some (v_i (pk_4 h 8))) h) : sd_E1 l y_X0_source [v_r 1 0] h Q := by
  refine sd_e1 [] 40 (cd := cd_X0_source) (by decide) rfl (Nat.le_of_ble_eq_true rfl) ?_
  exact sp_wordAt k
theorem sp_firstHas {bit : Int32} (k : Q (some (v_i (df_has h bit))) h) : sd_E1 l y_X0_firstHas [v_r 1 0, v_i bit] h Q := by
  refine sd_e1 [] 40 (cd := cd_X0_firstHas) (by decide) rfl (Nat.le_of_ble_eq_true rfl) ?_
  refine sp_byteAt ?_
  refine ⟨fun c1 => ?_, fun c1 => ?_⟩
  · refine ⟨Or.inl rfl, ?_⟩
    unfold df_has at k; rw [if_pos c1] at k; exact k
  · refine ⟨Or.inr rfl, ?_⟩
    unfold df_has at k; rw [if_neg c1] at k; exact k
theorem sp_wordsEnd (k : Q (some (v_i (df_we h))) h) : sd_E1 l y_X0_wordsEnd [v_r 1 0] h Q := by
  refine sd_e1 [] 40 (cd := cd_X0_wordsEnd) (by decide) rfl (Nat.le_of_ble_eq_true rfl) ?_
  exact sp_words k
theorem sp_payloadPlace (k : Q (some (v_i (df_pay h))) h) : sd_E1 l y_X0_payloadPlace [v_r 1 0] h Q := by
  refine sd_e1 [] 40 (cd := cd_X0_payloadPlace) (by decide) rfl (Nat.le_of_ble_eq_true rfl) ?_
  refine sp_wordsEnd ?_
  refine sp_firstHas ?_
  refine ⟨fun c1 => ?_, fun c1 => ?_⟩
  · unfold df_pay at k; rw [if_pos c1] at k; exact k
  · refine sp_halfAt ?_
    unfold df_pay at k; rw [if_neg c1] at k; exact k
theorem sp_filling (k : Q (some (v_i (df_fill h))) h) : sd_E1 l y_X0_filling [v_r 1 0] h Q := by
  refine sd_e1 [] 40 (cd := cd_X0_filling) (by decide) rfl (Nat.le_of_ble_eq_true rfl) ?_
  refine sp_firstHas ?_
  refine ⟨fun c1 => ?_, fun c1 => ?_⟩
  · unfold df_fill at k; rw [if_pos c1] at k; exact k
  · refine sp_byteAt ?_
    unfold df_fill at k; rw [if_neg c1] at k; exact k
theorem sp_shapeFault (k : Q (some (v_i (df_shape h))) h) : sd_E1 l y_X0_shapeFault [v_r 1 0] h Q := by
  refine sd_e1 [] 80 (cd := cd_X0_shapeFault) (by decide) rfl (Nat.le_of_ble_eq_true rfl) ?_
  unfold df_shape at k
  refine ⟨fun c1 => ?_, fun c1 => ?_⟩
  rotate_left
  · rw [if_neg c1] at k; exact k
  rw [if_pos c1] at k
  refine sp_byteAt ?_
  refine ⟨fun (c2 : pk_b h 0 >>> 6 = 2) => ?_, fun (c2 : ¬ pk_b h 0 >>> 6 = 2) => ?_⟩
  rotate_left
  · rw [if_neg c2] at k; exact k
  rw [if_pos c2] at k
  refine sp_wordsEnd ?_
  refine ⟨fun c3 => ?_, fun c3 => ?_⟩
  rotate_left
  · rw [if_neg c3] at k; exact k
  rw [if_pos c3] at k
  refine sp_payloadPlace ?_
  refine ⟨fun c4 => ?_, fun c4 => ?_⟩
  rotate_left
  · rw [if_neg c4] at k; exact k
  rw [if_pos c4] at k
  refine sp_payloadPlace ?_
  refine sp_filling ?_
  refine ⟨fun c5 => ?_, fun c5 => ?_⟩
  · refine sp_firstHas ?_
    refine ⟨fun c7 => ?_, fun c7 => ?_⟩
    · rw [if_pos c7] at k; exact k
    · rw [if_neg c7, if_pos c5] at k
      exact ⟨fun c8 => absurd rfl c8, fun _ => k⟩
  · refine sp_filling ?_
    refine ⟨fun c6 => ?_, fun c6 => ?_⟩
    · refine sp_firstHas ?_
      refine ⟨fun c7 => ?_, fun c7 => ?_⟩
      · rw [if_pos c7] at k; exact k
      · rw [if_neg c7, if_neg c5, if_pos c6] at k
        exact ⟨fun c8 => absurd rfl c8, fun _ => k⟩
    · refine sp_firstHas ?_
      refine ⟨fun c7 => ?_, fun c7 => ?_⟩
      · rw [if_pos c7] at k; exact k
      · rw [if_neg c7, if_neg c5, if_neg c6] at k
        exact ⟨fun _ => k, fun c8 => absurd c8 (by decide)⟩
theorem sp_dfield {w : Int32} (k : Q (some (v_i (df_field h w))) h) : sd_E1 l y_X0_field [v_r 1 0, v_i w] h Q := by
  refine sd_e1 [] 80 (cd := cd_X0_field) (by decide) rfl (Nat.le_of_ble_eq_true rfl) ?_
  unfold df_field at k
  refine ⟨fun (c : w = 1) => ?_, fun (c : ¬ w = 1) => ?_⟩
  · rw [if_pos c] at k; exact sp_byteAt k
  rw [if_neg c] at k
  refine ⟨fun (c : w = 2) => ?_, fun (c : ¬ w = 2) => ?_⟩
  · rw [if_pos c] at k; exact sp_dsort k
  rw [if_neg c] at k
  refine ⟨fun (c : w = 3) => ?_, fun (c : ¬ w = 3) => ?_⟩
  · rw [if_pos c] at k; exact sp_number k
  rw [if_neg c] at k
  refine ⟨fun (c : w = 4) => ?_, fun (c : ¬ w = 4) => ?_⟩
  · rw [if_pos c] at k; exact sp_stamp k
  rw [if_neg c] at k
  refine ⟨fun (c : w = 5) => ?_, fun (c : ¬ w = 5) => ?_⟩
  · rw [if_pos c] at k; exact sp_source k
  rw [if_neg c] at k
  refine ⟨fun (c : w = 6) => ?_, fun (c : ¬ w = 6) => ?_⟩
  · rw [if_pos c] at k; exact sp_words k
  rw [if_neg c] at k
  refine ⟨fun (c : w = 7) => ?_, fun (c : ¬ w = 7) => ?_⟩
  · rw [if_pos c] at k; exact sp_payloadPlace k
  rw [if_neg c] at k
  refine ⟨fun (c : w = 8) => ?_, fun (c : ¬ w = 8) => ?_⟩
  · rw [if_pos c] at k
    refine sp_payloadPlace ?_
    exact sp_filling k
  rw [if_neg c] at k
  refine ⟨fun (c : w = 9) => ?_, fun (c : ¬ w = 9) => ?_⟩
  · rw [if_pos c] at k
    refine sp_firstHas ?_
    refine ⟨fun c7 => ?_, fun c7 => ?_⟩
    · rw [if_pos c7] at k; exact k
    · rw [if_neg c7] at k
      refine sp_wordsEnd ?_
      exact sp_halfAt k
  rw [if_neg c] at k
  exact k
/-! REPORT -/
def rf_so (h : sd_H) (p : Int32) : Int32 := pk_b h (p + 1)
def rf_ct (h : sd_H) (p : Int32) : Int32 := pk_b h p &&& 31
def rf_en (h : sd_H) (p : Int32) : Int32 := p + 4 + 4 * pk_2 h (p + 2)
def rf_fi (h : sd_H) (p : Int32) : Int32 := if pk_b h p &&& 32 = 0 then 0 else 1
def rf_ll (so n : Int32) : Int32 := if so = 200 then 28 + 24 * n else if so = 201 then 8 + 24 * n else if so = 202 then 4 else if so = 203 then 4 + 4 * n else 4
def rf_pf (h : sd_H) (p : Int32) : Int32 := if pk_b h p >>> 6 = 2 then (if rf_en h p ≤ pk_s h then (if rf_ll (rf_so h p) (rf_ct h p) ≤ rf_en h p - p then (if rf_so h p < 200 then 16 else if rf_so h p ≤ 203 then (if rf_fi h p = 0 then 0 else if pk_s h ≤ rf_en h p then 0 else 16) else 16) else 15) else 14) else 13
def rf_lp (h : sd_H) : Nat → Int32 → Int32
  | 0, _ => 0
  | n + 1, p => if pk_s h ≤ p then 0 else if rf_pf h p = 0 then rf_lp h n (rf_en h p) else rf_pf h p
def rf_fault (h : sd_H) : Int32 := if pk_s h < 8 then 11 else if pk_s h - pk_s h / 4 * 4 = 0 then (if rf_so h 0 = 200 then (if rf_fi h 0 = 0 then rf_lp h 75 0 else 12) else if ¬ rf_so h 0 = 201 then 12 else (if rf_fi h 0 = 0 then rf_lp h 75 0 else 12)) else 11
theorem sp_rsort {p : Int32} (k : Q (some (v_i (rf_so h p))) h) : sd_E1 l y_X6_sort [v_r 1 0, v_i p] h Q := by
  refine sd_e1 [] 40 (cd := cd_X6_sort) (by decide) rfl (Nat.le_of_ble_eq_true rfl) ?_
  exact sp_byteAt k
theorem sp_counted {p : Int32} (k : Q (some (v_i (rf_ct h p))) h) : sd_E1 l y_X6_counted [v_r 1 0, v_i p] h Q := by
  refine sd_e1 [] 40 (cd := cd_X6_counted) (by decide) rfl (Nat.le_of_ble_eq_true rfl) ?_
  exact sp_byteAt k
theorem sp_end {p : Int32} (k : Q (some (v_i (rf_en h p))) h) : sd_E1 l y_X6_end [v_r 1 0, v_i p] h Q := by
  refine sd_e1 [] 40 (cd := cd_X6_end) (by decide) rfl (Nat.le_of_ble_eq_true rfl) ?_
  exact sp_halfAt k
theorem sp_isFilled {p : Int32} (k : Q (some (v_i (rf_fi h p))) h) : sd_E1 l y_X6_isFilled [v_r 1 0, v_i p] h Q := by
  refine sd_e1 [] 40 (cd := cd_X6_isFilled) (by decide) rfl (Nat.le_of_ble_eq_true rfl) ?_
  refine sp_byteAt ?_
  refine ⟨fun c1 => ?_, fun c1 => ?_⟩
  · refine ⟨Or.inl rfl, ?_⟩
    unfold rf_fi at k; rw [if_pos c1] at k; exact k
  · refine ⟨Or.inr rfl, ?_⟩
    unfold rf_fi at k; rw [if_neg c1] at k; exact k
theorem sp_leastLength {a n : Int32} (k : Q (some (v_i (rf_ll a n))) h) : sd_E1 l y_X6_leastLength [v_i a, v_i n] h Q := by
  refine sd_e1 [] 40 (cd := cd_X6_leastLength) (by decide) rfl (Nat.le_of_ble_eq_true rfl) ?_
  unfold rf_ll at k
  refine ⟨fun (c : a = 200) => ?_, fun (c : ¬ a = 200) => ?_⟩
  · rw [if_pos c] at k; exact k
  rw [if_neg c] at k
  refine ⟨fun (c : a = 201) => ?_, fun (c : ¬ a = 201) => ?_⟩
  · rw [if_pos c] at k; exact k
  rw [if_neg c] at k
  refine ⟨fun (c : a = 202) => ?_, fun (c : ¬ a = 202) => ?_⟩
  · rw [if_pos c] at k; exact k
  rw [if_neg c] at k
  refine ⟨fun (c : a = 203) => ?_, fun (c : ¬ a = 203) => ?_⟩
  · rw [if_pos c] at k; exact k
  rw [if_neg c] at k
  exact k
theorem sp_rpartFault {p : Int32} (k : Q (some (v_i (rf_pf h p))) h) : sd_E1 l y_X6_partFault [v_r 1 0, v_i p] h Q := by
  refine sd_e1 [] 80 (cd := cd_X6_partFault) (by decide) rfl (Nat.le_of_ble_eq_true rfl) ?_
  unfold rf_pf at k
  refine sp_byteAt ?_
  refine ⟨fun (c1 : pk_b h p >>> 6 = 2) => ?_, fun (c1 : ¬ pk_b h p >>> 6 = 2) => ?_⟩
  rotate_left
  · rw [if_neg c1] at k; exact k
  rw [if_pos c1] at k
  refine sp_end ?_
  refine ⟨fun c2 => ?_, fun c2 => ?_⟩
  rotate_left
  · rw [if_neg c2] at k; exact k
  rw [if_pos c2] at k
  refine sp_rsort ?_
  refine sp_end ?_
  refine sp_counted ?_
  refine sp_leastLength ?_
  refine ⟨fun c3 => ?_, fun c3 => ?_⟩
  rotate_left
  · rw [if_neg c3] at k; exact k
  rw [if_pos c3] at k
  refine ⟨fun c4 => ?_, fun c4 => ?_⟩
  · rw [if_pos c4] at k
    exact ⟨fun _ => k, fun c => absurd c (by decide)⟩
  · rw [if_neg c4] at k
    refine ⟨fun c5 => ?_, fun c5 => ?_⟩
    · rw [if_pos c5] at k
      refine ⟨fun c => absurd rfl c, fun _ => ?_⟩
      refine sp_isFilled ?_
      refine ⟨fun c6 => ?_, fun c6 => ?_⟩
      · rw [if_pos c6] at k; exact k
      · rw [if_neg c6] at k
        refine sp_end ?_
        refine ⟨fun c7 => ?_, fun c7 => ?_⟩
        · rw [if_pos c7] at k; exact k
        · rw [if_neg c7] at k; exact k
    · rw [if_neg c5] at k
      exact ⟨fun _ => k, fun c => absurd c (by decide)⟩
theorem sq_fault : ∀ (n : Nat), n ≤ 75 → ∀ (p : Int32) (j3 : Option sd_V), Q (some (v_i (rf_lp h n p))) h → sd_Wq l none y_X6_fault true Q 58 [some (v_r 1 0), some (v_i p), some (v_i (nI (75 - n))), j3] [] h 0 0
  | 0, _, p, j3, k => by
    refine sd_go [58] 30 (cd := cd_X6_fault) (by decide) rfl ?_
    exact ⟨fun _ => k, fun c => absurd (show (75 : Int32) ≤ nI 75 by decide) c⟩
  | n + 1, hn, p, j3, k => by
    refine sd_go [58] 30 (cd := cd_X6_fault) (by decide) rfl ?_
    refine ⟨fun c => absurd c ?_, fun _ => ?_⟩
    · exact Int32.not_le.mpr (nI_lt (a := 75 - (n + 1)) (b := 75) (by omega) (by decide))
    unfold rf_lp at k
    refine ⟨fun c2 => ?_, fun c2 => ?_⟩
    · rw [if_pos c2] at k; exact k
    rw [if_neg c2] at k
    refine sp_rpartFault ?_
    refine ⟨fun c3 => ?_, fun c3 => ?_⟩
    · rw [if_pos c3] at k
      refine sp_end ?_
      have e : nI (75 - (n + 1)) + 1 = nI (75 - n) := by rw [nI_1, show 75 - (n + 1) + 1 = 75 - n by omega]
      show sd_Wq l none y_X6_fault true Q 58 [some (v_r 1 0), some (v_i (rf_en h p)), some (v_i (nI (75 - (n + 1)) + 1)), _] [] h 0 0
      rw [e]
      exact sq_fault n (by omega) _ _ k
    · rw [if_neg c3] at k; exact k
theorem sp_rfault (k : Q (some (v_i (rf_fault h))) h) : sd_E1 l y_X6_fault [v_r 1 0] h Q := by
  refine sd_e1 [58] 80 (cd := cd_X6_fault) (by decide) rfl (Nat.le_of_ble_eq_true rfl) ?_
  unfold rf_fault at k
  refine ⟨fun c1 => ?_, fun c1 => ?_⟩
  · rw [if_pos c1] at k; exact k
  rw [if_neg c1] at k
  refine ⟨by decide, ?_⟩
  refine ⟨fun c2 => ?_, fun c2 => ?_⟩
  rotate_left
  · rw [if_neg c2] at k; exact k
  rw [if_pos c2] at k
  refine sp_rsort ?_
  refine ⟨fun c3 => ?_, fun c3 => ?_⟩
  · rw [if_pos c3] at k
    refine sp_isFilled ?_
    refine ⟨fun c4 => ?_, fun c4 => ?_⟩
    · rw [if_pos c4] at k
      exact sq_fault 75 (by omega) _ _ k
    · rw [if_neg c4] at k; exact k
  · rw [if_neg c3] at k
    refine sp_rsort ?_
    refine ⟨fun c5 => ?_, fun c5 => ?_⟩
    · rw [if_pos c5] at k; exact k
    · rw [if_neg (fun q => q c5)] at k
      refine sp_isFilled ?_
      refine ⟨fun c4 => ?_, fun c4 => ?_⟩
      · rw [if_pos c4] at k
        exact sq_fault 75 (by omega) _ _ k
      · rw [if_neg c4] at k; exact k
end DF
