/-! the reference (tag 7): in, put, putAll, type, clear, alter, at, rate, delay, two, four, heard, count -/
theorem i2l_lt {a b : Int32} : a.toInt64 < b.toInt64 ↔ a < b := by
  rw [Int64.lt_iff_toInt_lt, Int32.lt_iff_toInt_lt, Int32.toInt_toInt64, Int32.toInt_toInt64]
section M1
variable {l : Launch} {Q : Option sd_V → sd_H → Prop}
theorem sm_in {h : sd_H} {x lo hi : Int32} {lo' hi' : Int64} (e1 : lo' = lo.toInt64) (e2 : hi' = hi.toInt64) (kn : ¬ (lo ≤ x ∧ x ≤ hi) → Q (some (v_i 0)) h) (ky : lo ≤ x ∧ x ≤ hi → Q (some (v_i 1)) h) : sd_E1 l y_X9_in [v_l x.toInt64, v_l lo', v_l hi'] h Q := by
  subst e1; subst e2
  refine sd_e1 [] 40 (cd := cd_X9_in) (by decide) rfl (Nat.le_of_ble_eq_true rfl) ?_
  refine ⟨fun c1 => ?_, fun c1 => ?_⟩
  · have c1 := i2l_lt.mp (lc_lt.mp c1)
    exact ⟨Or.inl rfl, kn fun q => absurd c1 (Int32.not_lt.mpr q.1)⟩
  · have c1 : ¬ x < lo := fun q => c1 (lc_lt.mpr (i2l_lt.mpr q))
    refine ⟨fun c2 => ?_, fun c2 => ?_⟩
    · have c2 := i2l_lt.mp (lc_gt.mp c2)
      exact ⟨Or.inl rfl, kn fun q => absurd c2 (Int32.not_lt.mpr q.2)⟩
    · have c2 : ¬ hi < x := fun q => c2 (lc_gt.mpr (i2l_lt.mpr q))
      exact ⟨Or.inr rfl, ky ⟨i_nlt c1, i_nlt c2⟩⟩
def mp_put (h : sd_H) (sz : Nat) (v : Int32) : sd_H := sd_pi (sd_pi h 19 0 sz (v &&& 255)) 7 0 2 (nI (sz + 1))
theorem sm_put {h : sd_H} {sz : Nat} {v : Int32} (hz : h.1 7 0 2 = nI sz) (hs : sz < 300) (k : Q none (mp_put h sz v)) : sd_E1 l y_X9_put [v_r 7 0, v_i v] h Q := by
  refine sd_e1 [] 40 (cd := cd_X9_put) (by decide) rfl (Nat.le_of_ble_eq_true rfl) ?_
  refine ⟨sz, ⟨hs, hz⟩, ?_⟩
  show Q none (sd_pi (sd_pi h 19 0 sz (v &&& 255)) 7 0 2 (h.1 7 0 2 + 1))
  rw [hz, nI_1]
  exact k
/-- bytes put one behind the other: b (n - 1), .., b 0 -/
def mp_all (b : Nat → Int32) : Nat → sd_H → Nat → sd_H
  | 0, h, _ => h
  | n + 1, h, sz => mp_all b n (sd_pi (sd_pi h 19 0 sz (b n)) 7 0 2 (nI (sz + 1))) (sz + 1)
def mb (v : Int32) (k : Nat) : Int32 := (v >>> (((8 : Int32) * nI k) &&& 31)) &&& 255
def mt (v : Int64) (k : Nat) : Int32 := (v >>> (((8 : Int32) * nI k).toInt64 &&& 63)).toInt32 &&& 255
theorem sq_putAll {v nn : Int32} : ∀ (m : Nat) (h : sd_H) (sz : Nat), h.1 7 0 2 = nI sz → sz + m ≤ 300 → Q none (mp_all (mb v) m h sz) → sd_Wq l none y_X9_putAll true Q 4 [some (v_r 7 0), some (v_i v), some (v_i nn), some (v_i (nI m - 1))] [] h 0 0
  | 0, h, sz, hz, hle, k => by
    refine sd_go [4] 60 (cd := cd_X9_putAll) (by decide) rfl ?_
    exact ⟨fun _ => k, fun c => absurd (show nI 0 - 1 < 0 by decide) c⟩
  | m + 1, h, sz, hz, hle, k => by
    refine sd_go [4] 60 (cd := cd_X9_putAll) (by decide) rfl ?_
    have em : nI (m + 1) - 1 = nI m := nI_pred m
    refine ⟨fun c => absurd c (by rw [em]; exact nI_pos (by omega)), fun _ => ?_⟩
    refine sm_put hz (by omega) ?_
    show sd_Wq l none y_X9_putAll true Q 4 [some (v_r 7 0), some (v_i v), some (v_i nn), some (v_i (nI (m + 1) - 1 + (-1)))] [] (sd_pi (sd_pi h 19 0 sz ((v >>> (((8 : Int32) * (nI (m + 1) - 1)) &&& 31)) &&& 255)) 7 0 2 (nI (sz + 1))) 0 0
    rw [em, i_m1]
    exact sq_putAll m _ (sz + 1) rfl (by omega) k
theorem sm_putAll {h : sd_H} {v : Int32} {m sz : Nat} (hz : h.1 7 0 2 = nI sz) (hle : sz + m ≤ 300) (k : Q none (mp_all (mb v) m h sz)) : sd_E1 l y_X9_putAll [v_r 7 0, v_i v, v_i (nI m)] h Q := by
  refine sd_e1 [4] 60 (cd := cd_X9_putAll) (by decide) rfl (Nat.le_of_ble_eq_true rfl) ?_
  exact sq_putAll m h sz hz hle k
theorem mp_all_s {b : Nat → Int32} : ∀ (m : Nat) (h : sd_H) (sz : Nat), h.1 7 0 2 = nI sz → (mp_all b m h sz).1 7 0 2 = nI (sz + m)
  | 0, _, _, hz => hz
  | m + 1, h, sz, hz => by rw [show sz + (m + 1) = sz + 1 + m by omega]; exact mp_all_s m _ _ rfl
theorem sq_mtype {v : Int64} {nn : Int32} : ∀ (m : Nat) (h : sd_H) (sz : Nat), h.1 7 0 2 = nI sz → sz + m ≤ 300 → Q (some (v_i (nI (sz + m)))) (mp_all (mt v) m h sz) → sd_Wq l none y_X9_type true Q 35 [some (v_r 7 0), some (v_l v), none, some (v_i nn), some (v_i (nI m - 1))] [] h 0 0
  | 0, h, sz, hz, hle, k => by
    refine sd_go [35] 60 (cd := cd_X9_type) (by decide) rfl ?_
    refine ⟨fun _ => ?_, fun c => absurd (show nI 0 - 1 < 0 by decide) c⟩
    show Q (some (v_i (h.1 7 0 2))) h
    rw [hz]; exact k
  | m + 1, h, sz, hz, hle, k => by
    refine sd_go [35] 60 (cd := cd_X9_type) (by decide) rfl ?_
    have em : nI (m + 1) - 1 = nI m := nI_pred m
    refine ⟨fun c => absurd c (by rw [em]; exact nI_pos (by omega)), fun _ => ?_⟩
    refine sm_put hz (by omega) ?_
    show sd_Wq l none y_X9_type true Q 35 [some (v_r 7 0), some (v_l v), none, some (v_i nn), some (v_i (nI (m + 1) - 1 + (-1)))] [] (sd_pi (sd_pi h 19 0 sz ((v >>> (((8 : Int32) * (nI (m + 1) - 1)).toInt64 &&& 63)).toInt32 &&& 255)) 7 0 2 (nI (sz + 1))) 0 0
    rw [em, i_m1]
    refine sq_mtype m _ (sz + 1) rfl (by omega) ?_
    rw [show sz + 1 + m = sz + (m + 1) by omega]
    exact k
variable {h : sd_H}
theorem sm_type {v : Int64} {n : Int32} {sz : Nat} (hz : h.1 7 0 2 = nI sz) (hs : sz ≤ 300) (kb : (n < 0 ∨ 8 < n) → Q (some (v_i (-2))) h) (kf : ∀ m : Nat, m ≤ 8 → n = nI m → 300 < sz + m → Q (some (v_i (-3))) h) (ky : ∀ m : Nat, m ≤ 8 → n = nI m → sz + m ≤ 300 → Q (some (v_i (nI (sz + m)))) (mp_all (mt v) m h sz)) : sd_E1 l y_X9_type [v_r 7 0, v_l v, v_i n] h Q := by
  refine sd_e1 [35] 60 (cd := cd_X9_type) (by decide) rfl (Nat.le_of_ble_eq_true rfl) ?_
  refine sm_in (lo := 0) (hi := 8) (by decide) (by decide) (fun c => ?_) (fun c => ?_)
  · refine ⟨fun q => absurd rfl q, fun _ => kb ?_⟩
    by_cases c1 : n < 0
    · exact Or.inl c1
    · exact Or.inr (i_nle fun q => c ⟨i_nlt c1, q⟩)
  · refine ⟨fun _ => ?_, fun q => absurd q (by decide)⟩
    obtain ⟨m, hm, rfl⟩ := nI_of2 (M := 8) (n := 8) rfl (Int32.not_lt.mpr c.1) c.2
    refine ⟨fun c3 => ?_, fun c3 => ?_⟩
    · rw [hz, nI_add] at c3
      have c3 := (nI_leI (a := sz + m) (b := 300) (by omega) (by decide)).mp c3
      exact sq_mtype m h sz hz c3 (ky m hm rfl c3)
    · rw [hz, nI_add] at c3
      have c3 : ¬ sz + m ≤ 300 := fun q => c3 ((nI_leI (a := sz + m) (b := 300) (by omega) (by decide)).mpr q)
      exact kf m hm rfl (by omega)
theorem sm_clear (k : Q (some (v_i (h.1 7 0 2))) (sd_pi h 7 0 2 0)) : sd_E1 l y_X9_clear [v_r 7 0] h Q := by
  refine sd_e1 [] 60 (cd := cd_X9_clear) (by decide) rfl (Nat.le_of_ble_eq_true rfl) ?_
  exact k
theorem m_ix {i : Int32} {sz : Nat} (hz : h.1 7 0 2 = nI sz) (hs : sz ≤ 300) (c : 0 ≤ i ∧ i ≤ h.1 7 0 2 - 1) : ∃ j, j < sz ∧ i = nI j := by
  obtain ⟨j, hj, rfl⟩ := nI_of (Int32.not_lt.mpr c.1)
  refine ⟨j, ?_, rfl⟩
  have c2 := c.2
  rw [hz] at c2
  rcases Nat.eq_zero_or_pos sz with q | q
  · subst q
    exact absurd (show nI j ≤ -1 from c2) (Int32.not_le.mpr (by
      have := nI_pos' hj
      rw [Int32.le_iff_toInt_le] at this
      rw [Int32.lt_iff_toInt_lt]
      have e0 : (0 : Int32).toInt = 0 := rfl
      have e1 : (-1 : Int32).toInt = -1 := rfl
      omega))
  · rw [show nI sz - 1 = nI (sz - 1) by rw [show sz = (sz - 1) + 1 by omega, nI_pred]; rfl] at c2
    have := (nI_leI hj (by omega)).mp c2
    omega
theorem m_ix2 {i : Int32} {sz j : Nat} (hz : h.1 7 0 2 = nI sz) (hs : sz ≤ 300) (hj : j < sz) (hi : i = nI j) : 0 ≤ i ∧ i ≤ h.1 7 0 2 - 1 := by
  subst hi
  refine ⟨nI_pos' (by omega), ?_⟩
  rw [hz, show nI sz - 1 = nI (sz - 1) by rw [show sz = (sz - 1) + 1 by omega, nI_pred]; rfl]
  exact nI_le (by omega) (by omega)
theorem sm_at {i : Int32} {sz : Nat} (hz : h.1 7 0 2 = nI sz) (hs : sz ≤ 300) (kn : (∀ j, j < sz → ¬ i = nI j) → Q (some (v_i (-2))) h) (ky : ∀ j, j < sz → i = nI j → Q (some (v_i (h.1 19 0 j))) h) : sd_E1 l y_X9_at [v_r 7 0, v_i i] h Q := by
  refine sd_e1 [] 60 (cd := cd_X9_at) (by decide) rfl (Nat.le_of_ble_eq_true rfl) ?_
  refine sm_in (lo := 0) (hi := h.1 7 0 2 - 1) (by decide) rfl (fun c => ?_) (fun c => ?_)
  · exact ⟨fun _ => kn fun j hj e => c (m_ix2 hz hs hj e), fun q => absurd rfl q⟩
  · obtain ⟨j, hj, e⟩ := m_ix hz hs c
    refine ⟨fun q => absurd q (by decide), fun _ => ?_⟩
    exact ⟨j, ⟨show j < 300 by omega, e⟩, ky j hj e⟩
theorem sm_alter {i v : Int32} {sz : Nat} (hz : h.1 7 0 2 = nI sz) (hs : sz ≤ 300) (kn : (∀ j, j < sz → i = nI j → ¬ (0 ≤ v ∧ v ≤ 255)) → Q (some (v_i (-2))) h) (ky : ∀ j, j < sz → i = nI j → 0 ≤ v ∧ v ≤ 255 → Q (some (v_i (h.1 19 0 j))) (sd_pi h 19 0 j v)) : sd_E1 l y_X9_alter [v_r 7 0, v_i i, v_i v] h Q := by
  refine sd_e1 [] 60 (cd := cd_X9_alter) (by decide) rfl (Nat.le_of_ble_eq_true rfl) ?_
  refine sm_in (lo := 0) (hi := h.1 7 0 2 - 1) (by decide) rfl (fun c => ?_) (fun c => ?_)
  · exact ⟨fun _ => kn fun j hj e => absurd (m_ix2 hz hs hj e) c, fun q => absurd rfl q⟩
  · obtain ⟨j, hj, e⟩ := m_ix hz hs c
    refine ⟨fun q => absurd q (by decide), fun _ => ?_⟩
    refine sm_in (lo := 0) (hi := 255) (by decide) (by decide) (fun c2 => ?_) (fun c2 => ?_)
    · exact ⟨fun q => absurd rfl q, fun _ => kn fun _ _ _ => c2⟩
    · refine ⟨fun _ => ?_, fun q => absurd q (by decide)⟩
      exact ⟨j, ⟨show j < 300 by omega, e⟩, j, ⟨show j < 300 by omega, e⟩, ky j hj e c2⟩
theorem sm_rate {i v : Int32} (kn : ¬ (0 ≤ i ∧ i < 128 ∧ 0 ≤ v ∧ v ≤ 200000) → Q (some (v_i (-2))) h) (ky : 0 ≤ i ∧ i < 128 ∧ 0 ≤ v ∧ v ≤ 200000 → Q (some (v_i (h.1 20 0 i.toNatClampNeg))) (sd_pi h 20 0 i.toNatClampNeg v)) : sd_E1 l y_X9_rate [v_r 7 0, v_i i, v_i v] h Q := by
  refine sd_e1 [] 60 (cd := cd_X9_rate) (by decide) rfl (Nat.le_of_ble_eq_true rfl) ?_
  have hi : i ≤ 127 ↔ i < 128 := by
    rw [Int32.le_iff_toInt_le, Int32.lt_iff_toInt_lt]
    have e0 : (127 : Int32).toInt = 127 := rfl
    have e1 : (128 : Int32).toInt = 128 := rfl
    omega
  refine sm_in (lo := 0) (hi := 127) (by decide) (by decide) (fun c => ?_) (fun c => ?_)
  · exact ⟨fun _ => kn fun q => c ⟨q.1, hi.mpr q.2.1⟩, fun q => absurd rfl q⟩
  · refine ⟨fun q => absurd q (by decide), fun _ => ?_⟩
    obtain ⟨i1, i2⟩ := i_ix (N := 128) (Int32.not_lt.mpr c.1) (hi.mp c.2) (by decide)
    refine sm_in (lo := 0) (hi := 200000) (by decide) (by decide) (fun c2 => ?_) (fun c2 => ?_)
    · exact ⟨fun q => absurd rfl q, fun _ => kn fun q => c2 q.2.2⟩
    · refine ⟨fun _ => ?_, fun q => absurd q (by decide)⟩
      exact ⟨_, ⟨i1, i2⟩, _, ⟨i1, i2⟩, ky ⟨c.1, hi.mp c.2, c2⟩⟩
theorem sm_delay {v : Int32} (kn : ¬ (0 ≤ v ∧ v ≤ 5000) → Q (some (v_i (-2))) h) (ky : 0 ≤ v ∧ v ≤ 5000 → Q (some (v_i (h.1 7 0 1))) (sd_pi h 7 0 1 v)) : sd_E1 l y_X9_delay [v_r 7 0, v_i v] h Q := by
  refine sd_e1 [] 60 (cd := cd_X9_delay) (by decide) rfl (Nat.le_of_ble_eq_true rfl) ?_
  refine sm_in (lo := 0) (hi := 5000) (by decide) (by decide) (fun c => ?_) (fun c => ?_)
  · exact ⟨fun q => absurd rfl q, fun _ => kn c⟩
  · exact ⟨fun _ => ky c, fun q => absurd q (by decide)⟩
theorem sm_heard {w : Int32} (k : Q (some (v_i (if w < 0 then -2 else if 7 ≤ w then -2 else h.1 45 0 w.toNatClampNeg))) h) : sd_E1 l y_X9_heard [v_r 7 0, v_i w] h Q := by
  refine sd_e1 [] 60 (cd := cd_X9_heard) (by decide) rfl (Nat.le_of_ble_eq_true rfl) ?_
  have hi : w ≤ 6 ↔ w < 7 := by
    rw [Int32.le_iff_toInt_le, Int32.lt_iff_toInt_lt]
    have e0 : (6 : Int32).toInt = 6 := rfl
    have e1 : (7 : Int32).toInt = 7 := rfl
    omega
  refine sm_in (lo := 0) (hi := 6) (by decide) (by decide) (fun c => ?_) (fun c => ?_)
  · refine ⟨fun _ => ?_, fun q => absurd rfl q⟩
    by_cases c1 : w < 0
    · rw [if_pos c1] at k; exact k
    · rw [if_neg c1, if_pos (i_nlt fun q => c ⟨i_nlt c1, hi.mpr q⟩)] at k; exact k
  · refine ⟨fun q => absurd q (by decide), fun _ => ?_⟩
    have c1 : ¬ w < 0 := Int32.not_lt.mpr c.1
    have c2 := hi.mp c.2
    rw [if_neg c1, if_neg (Int32.not_le.mpr c2)] at k
    obtain ⟨i1, i2⟩ := i_ix (N := 7) c1 c2 (by decide)
    exact ⟨_, ⟨i1, i2⟩, k⟩
def md_count (h : sd_H) (w : Int32) : Int32 := if w = 0 then h.1 7 0 2 else if w = 1 then h.1 7 0 8 else if w = 2 then h.1 7 0 0 else if w = 3 then h.1 7 0 35 else if w = 4 then h.1 7 0 32 else if w = 5 then h.1 7 0 33 else if w = 6 then h.1 7 0 34 else if w = 7 then h.1 7 0 39 else if w = 8 then h.1 7 0 1 else -2
theorem sm_count {w : Int32} (k : Q (some (v_i (md_count h w))) h) : sd_E1 l y_X9_count [v_r 7 0, v_i w] h Q := by
  refine sd_e1 [] 60 (cd := cd_X9_count) (by decide) rfl (Nat.le_of_ble_eq_true rfl) ?_
  unfold md_count at k
  refine ⟨fun (c : w = 0) => ?_, fun (c : ¬ w = 0) => ?_⟩
  · rw [if_pos c] at k; exact k
  rw [if_neg c] at k
  refine ⟨fun (c : w = 1) => ?_, fun (c : ¬ w = 1) => ?_⟩
  · rw [if_pos c] at k; exact k
  rw [if_neg c] at k
  refine ⟨fun (c : w = 2) => ?_, fun (c : ¬ w = 2) => ?_⟩
  · rw [if_pos c] at k; exact k
  rw [if_neg c] at k
  refine ⟨fun (c : w = 3) => ?_, fun (c : ¬ w = 3) => ?_⟩
  · rw [if_pos c] at k; exact k
  rw [if_neg c] at k
  refine ⟨fun (c : w = 4) => ?_, fun (c : ¬ w = 4) => ?_⟩
  · rw [if_pos c] at k; exact k
  rw [if_neg c] at k
  refine ⟨fun (c : w = 5) => ?_, fun (c : ¬ w = 5) => ?_⟩
  · rw [if_pos c] at k; exact k
  rw [if_neg c] at k
  refine ⟨fun (c : w = 6) => ?_, fun (c : ¬ w = 6) => ?_⟩
  · rw [if_pos c] at k; exact k
  rw [if_neg c] at k
  refine ⟨fun (c : w = 7) => ?_, fun (c : ¬ w = 7) => ?_⟩
  · rw [if_pos c] at k; exact k
  rw [if_neg c] at k
  refine ⟨fun (c : w = 8) => ?_, fun (c : ¬ w = 8) => ?_⟩
  · rw [if_pos c] at k; exact k
  rw [if_neg c] at k
  exact k
def m2 (h : sd_H) (j : Nat) : Int32 := 256 * h.1 19 0 j + h.1 19 0 (j + 1)
def m4 (h : sd_H) (j : Nat) : Int32 := h.1 19 0 j <<< 24 ||| h.1 19 0 (j + 1) <<< 16 ||| h.1 19 0 (j + 2) <<< 8 ||| h.1 19 0 (j + 3)
theorem sm_two {j : Nat} {x : Int32} (hj : j + 1 < 300) (hx : x = nI j) (k : Q (some (v_i (m2 h j))) h) : sd_E1 l y_X9_two [v_r 7 0, v_i x] h Q := by
  refine sd_e1 [] 60 (cd := cd_X9_two) (by decide) rfl (Nat.le_of_ble_eq_true rfl) ?_
  refine ⟨j, ⟨show j < 300 by omega, hx⟩, ?_⟩
  exact ⟨j + 1, ⟨hj, by rw [hx, nI_1]⟩, k⟩
theorem sm_four {j : Nat} {x : Int32} (hj : j + 3 < 300) (hx : x = nI j) (k : Q (some (v_i (m4 h j))) h) : sd_E1 l y_X9_four [v_r 7 0, v_i x] h Q := by
  refine sd_e1 [] 60 (cd := cd_X9_four) (by decide) rfl (Nat.le_of_ble_eq_true rfl) ?_
  refine ⟨j, ⟨show j < 300 by omega, hx⟩, ?_⟩
  refine ⟨j + 1, ⟨show j + 1 < 300 by omega, by rw [hx, nI_1]⟩, ?_⟩
  refine ⟨j + 2, ⟨show j + 2 < 300 by omega, by rw [hx, show (2 : Int32) = nI 2 from rfl, nI_add]⟩, ?_⟩
  exact ⟨j + 3, ⟨hj, by rw [hx, show (3 : Int32) = nI 3 from rfl, nI_add]⟩, k⟩
end M1
