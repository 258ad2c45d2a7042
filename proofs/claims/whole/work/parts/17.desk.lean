/-! append; the small methods of StreamDesk -/
def ab (v : Int64) (k : Nat) : Int32 := ((v.toUInt64 >>> (((8 : Int32) * nI k).toInt64.toUInt64 &&& Int64.toUInt64 63)).toInt64).toInt32 &&& 255
def pk_app (v : Int64) : Nat → sd_H → Nat → sd_H
  | 0, h, _ => h
  | n + 1, h, sz => pk_app v n (sd_pi (sd_pi h 11 0 sz (ab v n)) 1 0 1 (nI (sz + 1))) (sz + 1)
theorem i_m1 (x : Int32) : x + (-1) = x - 1 := (Int32.sub_eq_add_neg x 1).symm
section DK
variable {l : Launch} {Q : Option sd_V → sd_H → Prop}
theorem sq_append {v : Int64} {nn : Int32} : ∀ (m : Nat) (h : sd_H) (sz : Nat), h.1 1 0 1 = nI sz → sz + m ≤ 300 → Q none (pk_app v m h sz) → sd_Wq l none y_X4_append true Q 5 [some (v_r 1 0), some (v_l v), none, some (v_i nn), some (v_i (nI m - 1))] [] h 0 0
  | 0, h, sz, hsz, hle, k => by
    refine sd_go [5] 60 (cd := cd_X4_append) (by decide) rfl ?_
    exact ⟨fun _ => k, fun c => absurd (show nI 0 - 1 < 0 by decide) c⟩
  | m + 1, h, sz, hsz, hle, k => by
    refine sd_go [5] 60 (cd := cd_X4_append) (by decide) rfl ?_
    have em : nI (m + 1) - 1 = nI m := nI_pred m
    refine ⟨fun c => absurd c (by rw [em]; exact nI_pos (by omega)), fun _ => ?_⟩
    refine ⟨fun c => absurd c (by rw [hsz]; exact nI_pos (by omega)), fun _ => ?_⟩
    refine ⟨fun c => absurd c (by rw [hsz]; exact Int32.not_le.mpr (nI_lt (a := sz) (b := 300) (by omega) (by decide))), fun _ => ?_⟩
    refine ⟨sz, ⟨show sz < 300 by omega, hsz⟩, ?_⟩
    show sd_Wq l none y_X4_append true Q 5 [some (v_r 1 0), some (v_l v), none, some (v_i nn), some (v_i (nI (m + 1) - 1 + (-1)))] [] (sd_pi (sd_pi h 11 0 sz (((v.toUInt64 >>> (((8 : Int32) * (nI (m + 1) - 1)).toInt64.toUInt64 &&& Int64.toUInt64 63)).toInt64).toInt32 &&& 255)) 1 0 1 (h.1 1 0 1 + 1)) 0 0
    rw [em, i_m1, hsz, nI_1]
    exact sq_append m _ (sz + 1) rfl (by omega) k
variable {h : sd_H}
theorem sp_append {v : Int64} {m sz : Nat} (hsz : h.1 1 0 1 = nI sz) (hle : sz + m ≤ 300) (k : Q none (pk_app v m h sz)) : sd_E1 l y_X4_append [v_r 1 0, v_l v, v_i (nI m)] h Q := by
  refine sd_e1 [5] 60 (cd := cd_X4_append) (by decide) rfl (Nat.le_of_ble_eq_true rfl) ?_
  exact sq_append m h sz hsz hle k
theorem sp_replace {i v : Int32} (kn : ¬ (0 ≤ i ∧ i < h.1 1 0 1 ∧ i < 300) → Q none h) (ky : 0 ≤ i ∧ i < h.1 1 0 1 ∧ i < 300 → Q none (sd_pi h 11 0 i.toNatClampNeg (v &&& 255))) : sd_E1 l y_X4_replace [v_r 1 0, v_i i, v_i v] h Q := by
  refine sd_e1 [] 60 (cd := cd_X4_replace) (by decide) rfl (Nat.le_of_ble_eq_true rfl) ?_
  refine sp_has ?_
  by_cases c : 0 ≤ i ∧ i < h.1 1 0 1 ∧ i < 300
  · have e : pk_has h i = 1 := by unfold pk_has; rw [if_pos c]
    refine ⟨fun q => ?_, fun _ => ?_⟩
    · rw [e] at q; exact absurd q (by decide)
    · obtain ⟨i1, i2⟩ := i_ix (N := 300) (Int32.not_lt.mpr c.1) c.2.2 (by decide)
      exact ⟨_, ⟨i1, i2⟩, ky c⟩
  · have e : pk_has h i = 0 := by unfold pk_has; rw [if_neg c]
    refine ⟨fun _ => kn c, fun q => absurd e q⟩
/-- type: BAD, FULL or the bytes -/
theorem sp_type {v : Int64} {n : Int32} {sz : Nat} (hsz : h.1 1 0 1 = nI sz) (hs : sz ≤ 300) (kb : (n < 0 ∨ 8 < n) → Q (some (v_i (-2))) h) (kf : ∀ m : Nat, m ≤ 8 → n = nI m → 300 < sz + m → Q (some (v_i (-3))) h) (ky : ∀ m : Nat, m ≤ 8 → n = nI m → sz + m ≤ 300 → Q (some (v_i (nI (sz + m)))) (pk_app v m h sz)) : sd_E1 l y_X8_type [v_r 0 0, v_l v, v_i n] h Q := by
  refine sd_e1 [] 60 (cd := cd_X8_type) (by decide) rfl (Nat.le_of_ble_eq_true rfl) ?_
  refine ⟨fun c1 => kb (Or.inl c1), fun c1 => ?_⟩
  refine ⟨fun c2 => ?_, fun c2 => kb (Or.inr (i_nle c2))⟩
  obtain ⟨m, hm, rfl⟩ := nI_of2 (M := 8) (n := 8) rfl c1 c2
  refine ⟨fun c3 => ?_, fun c3 => ?_⟩
  · rw [hsz, nI_add] at c3
    have c3 := (nI_leI (a := sz + m) (b := 300) (by omega) (by decide)).mp c3
    refine sp_append hsz c3 ?_
    have e : ∀ (m : Nat) (h : sd_H) (sz : Nat), h.1 1 0 1 = nI sz → (pk_app v m h sz).1 1 0 1 = nI (sz + m) := by
      intro m
      induction m with
      | zero => intro h sz hz; exact hz
      | succ m ih => intro h sz hz; rw [show sz + (m + 1) = sz + 1 + m by omega]; exact ih _ _ rfl
    show Q (some (v_i ((pk_app v m h sz).1 1 0 1))) (pk_app v m h sz)
    rw [e m h sz hsz]
    exact ky m hm rfl c3
  · rw [hsz, nI_add] at c3
    have c3 : ¬ sz + m ≤ 300 := fun q => c3 ((nI_leI (a := sz + m) (b := 300) (by omega) (by decide)).mpr q)
    exact kf m hm rfl (by omega)
theorem sp_clear (k : Q (some (v_i (h.1 1 0 1))) (sd_pi h 1 0 1 0)) : sd_E1 l y_X8_clear [v_r 0 0] h Q := by
  refine sd_e1 [] 60 (cd := cd_X8_clear) (by decide) rfl (Nat.le_of_ble_eq_true rfl) ?_
  exact k
theorem sp_at {i : Int32} (kn : ¬ (0 ≤ i ∧ i < h.1 1 0 1 ∧ i < 300) → Q (some (v_i (-2))) h) (ky : 0 ≤ i ∧ i < h.1 1 0 1 ∧ i < 300 → Q (some (v_i (h.1 11 0 i.toNatClampNeg))) h) : sd_E1 l y_X8_at [v_r 0 0, v_i i] h Q := by
  refine sd_e1 [] 60 (cd := cd_X8_at) (by decide) rfl (Nat.le_of_ble_eq_true rfl) ?_
  refine sp_has ?_
  by_cases c : 0 ≤ i ∧ i < h.1 1 0 1 ∧ i < 300
  · have e : pk_has h i = 1 := by unfold pk_has; rw [if_pos c]
    refine ⟨fun q => ?_, fun _ => ?_⟩
    · rw [e] at q; exact absurd q (by decide)
    · refine sp_byteAt ?_
      have eb : pk_b h i = h.1 11 0 i.toNatClampNeg := by unfold pk_b; rw [if_pos c]
      show Q (some (v_i (pk_b h i))) h
      rw [eb]; exact ky c
  · have e : pk_has h i = 0 := by unfold pk_has; rw [if_neg c]
    exact ⟨fun _ => kn c, fun q => absurd e q⟩
theorem sp_alter {i v : Int32} (kn : ¬ ((0 ≤ i ∧ i < h.1 1 0 1 ∧ i < 300) ∧ 0 ≤ v ∧ v ≤ 255) → Q (some (v_i (-2))) h) (ky : (0 ≤ i ∧ i < h.1 1 0 1 ∧ i < 300) ∧ 0 ≤ v ∧ v ≤ 255 → Q (some (v_i (h.1 11 0 i.toNatClampNeg))) (sd_pi h 11 0 i.toNatClampNeg (v &&& 255))) : sd_E1 l y_X8_alter [v_r 0 0, v_i i, v_i v] h Q := by
  refine sd_e1 [] 60 (cd := cd_X8_alter) (by decide) rfl (Nat.le_of_ble_eq_true rfl) ?_
  refine sp_has ?_
  by_cases c : 0 ≤ i ∧ i < h.1 1 0 1 ∧ i < 300
  · have e : pk_has h i = 1 := by unfold pk_has; rw [if_pos c]
    refine ⟨fun q => ?_, fun _ => ?_⟩
    · rw [e] at q; exact absurd q (by decide)
    · refine ⟨fun c1 => kn fun q => absurd c1 (Int32.not_lt.mpr q.2.1), fun c1 => ?_⟩
      refine ⟨fun c2 => ?_, fun c2 => kn fun q => c2 q.2.2⟩
      refine sp_byteAt ?_
      have eb : pk_b h i = h.1 11 0 i.toNatClampNeg := by unfold pk_b; rw [if_pos c]
      refine sp_replace (fun q => absurd c q) (fun _ => ?_)
      show Q (some (v_i (pk_b h i))) _
      rw [eb]; exact ky ⟨c, i_nlt c1, c2⟩
  · have e : pk_has h i = 0 := by unfold pk_has; rw [if_neg c]
    exact ⟨fun _ => kn fun q => c q.1, fun q => absurd e q⟩
theorem sp_rate {i v : Int32} (kn : ¬ (0 ≤ i ∧ i < 128 ∧ 0 ≤ v ∧ v ≤ 200000) → Q (some (v_i (-2))) h) (ky : 0 ≤ i ∧ i < 128 ∧ 0 ≤ v ∧ v ≤ 200000 → Q (some (v_i (h.1 8 0 i.toNatClampNeg))) (sd_pi h 8 0 i.toNatClampNeg v)) : sd_E1 l y_X8_rate [v_r 0 0, v_i i, v_i v] h Q := by
  refine sd_e1 [] 60 (cd := cd_X8_rate) (by decide) rfl (Nat.le_of_ble_eq_true rfl) ?_
  refine ⟨fun c1 => kn fun q => absurd c1 (Int32.not_lt.mpr q.1), fun c1 => ?_⟩
  refine ⟨fun c2 => kn fun q => absurd c2 (Int32.not_le.mpr q.2.1), fun c2 => ?_⟩
  refine ⟨fun c3 => kn fun q => absurd c3 (Int32.not_lt.mpr q.2.2.1), fun c3 => ?_⟩
  refine ⟨fun c4 => ?_, fun c4 => kn fun q => c4 q.2.2.2⟩
  obtain ⟨i1, i2⟩ := i_ix (N := 128) c1 (i_nle c2) (by decide)
  refine ⟨_, ⟨i1, i2⟩, ?_⟩
  refine ⟨_, ⟨i1, i2⟩, ?_⟩
  exact ky ⟨i_nlt c1, i_nle c2, i_nlt c3, c4⟩
theorem sp_delay {v : Int32} (kn : ¬ (0 ≤ v ∧ v ≤ 5000) → Q (some (v_i (-2))) h) (ky : 0 ≤ v ∧ v ≤ 5000 → Q (some (v_i (h.1 0 0 7))) (sd_pi h 0 0 7 v)) : sd_E1 l y_X8_delay [v_r 0 0, v_i v] h Q := by
  refine sd_e1 [] 60 (cd := cd_X8_delay) (by decide) rfl (Nat.le_of_ble_eq_true rfl) ?_
  refine ⟨fun c1 => kn fun q => absurd c1 (Int32.not_lt.mpr q.1), fun c1 => ?_⟩
  refine ⟨fun c2 => ky ⟨i_nlt c1, c2⟩, fun c2 => kn fun q => c2 q.2⟩
theorem sp_rateOf {i : Int32} (k : Q (some (v_i (if i < 0 then 0 else if 128 ≤ i then 0 else h.1 8 0 i.toNatClampNeg))) h) : sd_E1 l y_X8_rateOf [v_r 0 0, v_i i] h Q := by
  refine sd_e1 [] 60 (cd := cd_X8_rateOf) (by decide) rfl (Nat.le_of_ble_eq_true rfl) ?_
  refine ⟨fun c1 => ?_, fun c1 => ?_⟩
  · rw [if_pos c1] at k; exact k
  rw [if_neg c1] at k
  refine ⟨fun c2 => ?_, fun c2 => ?_⟩
  · rw [if_pos c2] at k; exact k
  rw [if_neg c2] at k
  obtain ⟨i1, i2⟩ := i_ix (N := 128) c1 (i_nle c2) (by decide)
  exact ⟨_, ⟨i1, i2⟩, k⟩
theorem sp_heard {w : Int32} (k : Q (some (v_i (if w < 0 then -2 else if 7 ≤ w then -2 else h.1 10 0 w.toNatClampNeg))) h) : sd_E1 l y_X8_heard [v_r 0 0, v_i w] h Q := by
  refine sd_e1 [] 60 (cd := cd_X8_heard) (by decide) rfl (Nat.le_of_ble_eq_true rfl) ?_
  refine ⟨fun c1 => ?_, fun c1 => ?_⟩
  · rw [if_pos c1] at k; exact k
  rw [if_neg c1] at k
  refine ⟨fun c2 => ?_, fun c2 => ?_⟩
  rotate_left
  · have c2 : 7 ≤ w := i_nlt c2
    rw [if_pos c2] at k; exact k
  have c2 : w < 7 := c2
  rw [if_neg (Int32.not_le.mpr c2)] at k
  obtain ⟨i1, i2⟩ := i_ix (N := 7) c1 c2 (by decide)
  exact ⟨_, ⟨i1, i2⟩, k⟩
def dk_count (h : sd_H) (w : Int32) : Int32 := if w = 0 then h.1 1 0 1 else if w = 1 then h.1 0 0 5 else if w = 2 then h.1 0 0 6 else if w = 3 then h.1 2 0 4 else if w = 4 then h.1 0 0 8 else if w = 5 then h.1 0 0 9 else if w = 6 then h.1 0 0 10 else if w = 7 then h.1 0 0 11 else if w = 8 then h.1 0 0 7 else -2
theorem sp_count {w : Int32} (k : Q (some (v_i (dk_count h w))) h) : sd_E1 l y_X8_count [v_r 0 0, v_i w] h Q := by
  refine sd_e1 [] 60 (cd := cd_X8_count) (by decide) rfl (Nat.le_of_ble_eq_true rfl) ?_
  unfold dk_count at k
  refine ⟨fun (c : w = 0) => ?_, fun (c : ¬ w = 0) => ?_⟩
  · rw [if_pos c] at k; exact k
  rw [if_neg c] at k
  refine ⟨fun (c : w = 1) => ?_, fun (c : ¬ w = 1) => ?_⟩
  · rw [if_pos c] at k; exact k
  rw [if_neg c] at k
  refine ⟨fun (c : w = 2) => ?_, fun (c : ¬ w = 2) => ?_⟩
  · rw [if_pos c] at k; exact k
  rw [if_neg c] at k
  refine ⟨fun (c : w = 3) => ?_, fun (c : ¬ w = 3) => ?_⟩
  · rw [if_pos c] at k; exact k
  rw [if_neg c] at k
  refine ⟨fun (c : w = 4) => ?_, fun (c : ¬ w = 4) => ?_⟩
  · rw [if_pos c] at k; exact k
  rw [if_neg c] at k
  refine ⟨fun (c : w = 5) => ?_, fun (c : ¬ w = 5) => ?_⟩
  · rw [if_pos c] at k; exact k
  rw [if_neg c] at k
  refine ⟨fun (c : w = 6) => ?_, fun (c : ¬ w = 6) => ?_⟩
  · rw [if_pos c] at k; exact k
  rw [if_neg c] at k
  refine ⟨fun (c : w = 7) => ?_, fun (c : ¬ w = 7) => ?_⟩
  · rw [if_pos c] at k; exact k
  rw [if_neg c] at k
  refine ⟨fun (c : w = 8) => ?_, fun (c : ¬ w = 8) => ?_⟩
  · rw [if_pos c] at k; exact k
  rw [if_neg c] at k
  exact k
end DK
