/-! StreamDesk and its senders -/
def SN (h : sd_H) (sn : Nat) : Prop := h.1 0 0 5 = nI sn ∧ sn ≤ 6 ∧ ∀ s, s < sn → h.2.2.1 9 0 s = some s
abbrev v_n : sd_V := .inr (.inr (0, none))
def v_o (o : Option Nat) : sd_V := match o with
  | some s => v_r 3 s
  | none => v_n
def dk_find (h : sd_H) (b : Int32) : Nat → Nat → Option Nat
  | _, 0 => none
  | i, n + 1 => if h.1 3 i 0 = b then some i else dk_find h b (i + 1) n
section DS
variable {l : Launch} {h : sd_H} {Q : Option sd_V → sd_H → Prop} {sn : Nat}
theorem sp_num {i : Int32} (hN : SN h sn) (kn : (i < 0 ∨ nI sn ≤ i) → Q (some v_n) h) (ky : ∀ s, s < sn → i = nI s → Q (some (v_r 3 s)) h) : sd_E1 l y_X8_senderNumbered [v_r 0 0, v_i i] h Q := by
  obtain ⟨n1, n2, n3⟩ := hN
  refine sd_e1 [] 60 (cd := cd_X8_senderNumbered) (by decide) rfl (Nat.le_of_ble_eq_true rfl) ?_
  refine ⟨fun c1 => kn (Or.inl c1), fun c1 => ?_⟩
  refine ⟨fun c2 => kn (Or.inr (by rw [← n1]; exact c2)), fun c2 => ?_⟩
  have c2 : ¬ nI sn ≤ i := by rw [← n1]; exact c2
  obtain ⟨j, hj, rfl⟩ := nI_of c1
  have hlt : j < sn := by
    rcases Nat.lt_or_ge j sn with q | q
    · exact q
    · exact absurd (nI_le q hj) c2
  refine ⟨fun c3 => absurd c3 (Int32.not_le.mpr (nI_lt (a := j) (b := 6) (by omega) (by decide))), fun _ => ?_⟩
  refine ⟨j, ⟨show j < 6 by omega, rfl⟩, ?_⟩
  show Q (some (.inr (.inr (3, h.2.2.1 9 0 j)))) h
  rw [n3 j hlt]
  exact ky j hlt rfl
theorem dk_find_lt {b : Int32} : ∀ (n i s : Nat), dk_find h b i n = some s → i ≤ s ∧ s < i + n ∧ h.1 3 s 0 = b
  | 0, _, _, q => by cases q
  | n + 1, i, s, q => by
    unfold dk_find at q
    split at q
    · next e => cases q; exact ⟨Nat.le_refl _, by omega, e⟩
    · obtain ⟨a1, a2, a3⟩ := dk_find_lt n (i + 1) s q
      exact ⟨by omega, by omega, a3⟩
theorem sq_with {b : Int32} (hN : SN h sn) : ∀ (n : Nat), n ≤ 6 → ∀ (j3 : Option sd_V), Q (some (v_o (dk_find h b (6 - n) (sn - (6 - n))))) h → sd_Wq l none y_X8_senderWith true Q 2 [some (v_r 0 0), some (v_i b), some (v_i (nI (6 - n))), j3] [] h 0 0
  | 0, _, j3, k => by
    refine sd_go [2] 60 (cd := cd_X8_senderWith) (by decide) rfl ?_
    refine ⟨fun _ => ?_, fun c => absurd (show (6 : Int32) ≤ nI 6 by decide) c⟩
    have e : sn - (6 - 0) = 0 := by have := hN.2.1; omega
    rw [e] at k
    exact k
  | n + 1, hn, j3, k => by
    refine sd_go [2] 60 (cd := cd_X8_senderWith) (by decide) rfl ?_
    refine ⟨fun c => absurd c ?_, fun _ => ?_⟩
    · exact Int32.not_le.mpr (nI_lt (a := 6 - (n + 1)) (b := 6) (by omega) (by decide))
    have nxt : Q (some (v_o (dk_find h b (6 - n) (sn - (6 - n))))) h → ∀ j, sd_Wq l none y_X8_senderWith true Q 2 [some (v_r 0 0), some (v_i b), some (v_i (nI (6 - (n + 1)) + 1)), j] [] h 0 0 := by
      intro k j
      rw [nI_1, show 6 - (n + 1) + 1 = 6 - n by omega]
      exact sq_with hN n (by omega) j k
    refine sp_num hN (fun c => ?_) (fun s hs e => ?_)
    · have hge : sn ≤ 6 - (n + 1) := by
        rcases c with c | c
        · exact absurd c (nI_pos (by omega))
        · exact (nI_leI (by have := hN.2.1; omega) (by omega)).mp c
      have e1 : sn - (6 - (n + 1)) = 0 := by omega
      have e2 : sn - (6 - n) = 0 := by omega
      rw [e1] at k
      refine ⟨fun _ => nxt ?_ _, fun n' c => by cases c⟩
      rw [e2]; exact k
    · have es : 6 - (n + 1) = s := (nI_eq (by omega) (by have := hN.2.1; omega)).mp e
      have e1 : sn - (6 - (n + 1)) = (sn - (6 - n)) + 1 := by omega
      rw [e1] at k
      unfold dk_find at k
      rw [es] at k
      refine ⟨fun c => (by cases c), fun n' _ => ?_⟩
      refine ⟨fun c3 => ?_, fun c3 => ?_⟩
      · rw [if_neg c3, show s + 1 = 6 - n by omega] at k
        exact nxt k _
      · rw [if_pos c3] at k
        exact k
theorem sp_with {b : Int32} (hN : SN h sn) (k : Q (some (v_o (dk_find h b 0 sn))) h) : sd_E1 l y_X8_senderWith [v_r 0 0, v_i b] h Q := by
  refine sd_e1 [2] 60 (cd := cd_X8_senderWith) (by decide) rfl (Nat.le_of_ble_eq_true rfl) ?_
  exact sq_with hN 6 (Nat.le_refl _) _ k
def dk_rt (h : sd_H) : Int32 := if df_sort h < 0 then 0 else if 128 ≤ df_sort h then 0 else h.1 8 0 (df_sort h).toNatClampNeg
def dk_fault (h : sd_H) (sn : Nat) : Int32 := if df_shape h = 0 then (if dk_rt h = 0 then 6 else if sn < 6 then 0 else if dk_find h (pk_4 h 8) 0 sn = none then 7 else 0) else df_shape h
theorem sp_dataFault (hN : SN h sn) (k : Q (some (v_i (dk_fault h sn))) h) : sd_E1 l y_X8_dataFault [v_r 0 0] h Q := by
  refine sd_e1 [] 80 (cd := cd_X8_dataFault) (by decide) rfl (Nat.le_of_ble_eq_true rfl) ?_
  refine sp_shapeFault ?_
  unfold dk_fault at k
  refine ⟨fun c1 => ?_, fun c1 => ?_⟩
  rotate_left
  · rw [if_neg c1] at k; exact k
  rw [if_pos c1] at k
  refine sp_dsort ?_
  refine sp_rateOf ?_
  refine ⟨fun (c2 : ¬ dk_rt h = 0) => ?_, fun (c2 : dk_rt h = 0) => ?_⟩
  rotate_left
  · rw [if_pos c2] at k; exact k
  rw [if_neg c2] at k
  have hi : h.1 0 0 5 < 6 ↔ sn < 6 := by
    rw [hN.1]
    exact nI_ltI (b := 6) (by have := hN.2.1; omega) (by decide)
  refine ⟨fun c3 => ?_, fun c3 => ?_⟩
  · rw [if_pos (hi.mp c3)] at k
    exact ⟨fun _ => k, fun c => absurd rfl c⟩
  · rw [if_neg (fun q => c3 (hi.mpr q))] at k
    refine ⟨fun c => absurd c (by decide), fun _ => ?_⟩
    refine sp_source ?_
    refine sp_with hN ?_
    cases hf : dk_find h (pk_4 h 8) 0 sn with
    | none =>
      rw [hf] at k
      exact ⟨fun n c => (by cases c), fun _ => k⟩
    | some s =>
      rw [hf, if_neg (by simp)] at k
      exact ⟨fun n c => k, fun c => (by cases c)⟩
theorem sp_data {w : Int32} (hN : SN h sn) (k : Q (some (v_i (if w < 0 then -2 else if w ≤ 9 then (if w = 0 then dk_fault h sn else if df_shape h = 0 then df_field h w else 0) else -2))) h) : sd_E1 l y_X8_data [v_r 0 0, v_i w] h Q := by
  refine sd_e1 [] 80 (cd := cd_X8_data) (by decide) rfl (Nat.le_of_ble_eq_true rfl) ?_
  refine ⟨fun c1 => ?_, fun c1 => ?_⟩
  · rw [if_pos c1] at k; exact k
  rw [if_neg c1] at k
  refine ⟨fun c2 => ?_, fun c2 => ?_⟩
  rotate_left
  · rw [if_neg c2] at k; exact k
  rw [if_pos c2] at k
  refine ⟨fun c3 => ?_, fun c3 => ?_⟩
  rotate_left
  · rw [if_pos c3] at k; exact sp_dataFault hN k
  rw [if_neg c3] at k
  refine sp_shapeFault ?_
  refine ⟨fun c4 => ?_, fun c4 => ?_⟩
  · rw [if_pos c4] at k; exact sp_dfield k
  · rw [if_neg c4] at k; exact k
theorem sp_sender {i w : Int32} (hN : SN h sn) (kn : (i < 0 ∨ nI sn ≤ i) → Q (some (v_i (-2147483648))) h) (ky : ∀ s, s < sn → i = nI s → Q (some (v_i (sn_fld h s w))) h) : sd_E1 l y_X8_sender [v_r 0 0, v_i i, v_i w] h Q := by
  refine sd_e1 [] 80 (cd := cd_X8_sender) (by decide) rfl (Nat.le_of_ble_eq_true rfl) ?_
  have no : ∀ s, (w < 0 ∨ 16 < w) → sn_fld h s w = -2147483648 := by
    intro s hw
    have ne : ∀ z : Int32, (¬ z < 0 ∧ ¬ 16 < z) → ¬ w = z := fun z hz e => by
      subst e; rcases hw with q | q
      · exact hz.1 q
      · exact hz.2 q
    unfold sn_fld
    rw [if_neg (ne 0 (by decide)), if_neg (ne 1 (by decide)), if_neg (ne 2 (by decide)), if_neg (ne 3 (by decide)), if_neg (ne 4 (by decide)), if_neg (ne 5 (by decide)), if_neg (ne 6 (by decide)), if_neg (ne 7 (by decide)), if_neg (ne 8 (by decide)), if_neg (ne 9 (by decide)), if_neg (ne 10 (by decide)), if_neg (ne 11 (by decide)), if_neg (ne 12 (by decide)), if_neg (ne 13 (by decide)), if_neg (ne 14 (by decide)), if_neg (ne 15 (by decide)), if_neg (ne 16 (by decide))]
  refine sp_num hN (fun c => ?_) (fun s hs e => ?_)
  · exact ⟨fun _ => kn c, fun n q => by cases q⟩
  · have ky := ky s hs e
    refine ⟨fun q => (by cases q), fun n _ => ?_⟩
    refine ⟨fun c1 => ?_, fun c1 => ?_⟩
    · rw [no s (Or.inl c1)] at ky; exact ky
    · refine ⟨fun c2 => ?_, fun c2 => ?_⟩
      · exact sp_sfield ky
      · rw [no s (Or.inr (i_nle c2))] at ky; exact ky
theorem sp_next {i : Int32} (hN : SN h sn) (kn : (i < 0 ∨ nI sn ≤ i) → Q (some (v_l 0)) h) (ky : ∀ s, s < sn → i = nI s → Q (some (v_l (h.2.1 6 s 6))) h) : sd_E1 l y_X8_next [v_r 0 0, v_i i] h Q := by
  refine sd_e1 [] 80 (cd := cd_X8_next) (by decide) rfl (Nat.le_of_ble_eq_true rfl) ?_
  refine sp_num hN (fun c => ?_) (fun s hs e => ?_)
  · exact ⟨fun n q => (by cases q), fun _ => kn c⟩
  · exact ⟨fun n _ => ky s hs e, fun q => (by cases q)⟩
theorem sp_time {i : Int32} {n : Int64} (hN : SN h sn) (kn : (i < 0 ∨ nI sn ≤ i) → Q (some (v_l (-2))) h) (ky : ∀ s, s < sn → i = nI s → Q (some (v_l (if pl_waits h s n = 0 then -1 else h.2.1 17 s (sl n)))) h) : sd_E1 l y_X8_time [v_r 0 0, v_i i, v_l n] h Q := by
  refine sd_e1 [] 80 (cd := cd_X8_time) (by decide) rfl (Nat.le_of_ble_eq_true rfl) ?_
  refine sp_num hN (fun c => ?_) (fun s hs e => ?_)
  · exact ⟨fun n q => (by cases q), fun _ => kn c⟩
  · have ky := ky s hs e
    refine ⟨fun n' _ => ?_, fun q => (by cases q)⟩
    refine sp_waits ?_
    refine ⟨fun c1 => ?_, fun c1 => ?_⟩
    · rw [if_pos c1] at ky; exact ky
    · rw [if_neg c1] at ky
      exact sp_timeOf ky
theorem sp_event {i w : Int32} {e : Nat} (he : h.1 2 0 4 = nI e) (hb : e < 2 ^ 30) (kn : (i < 0 ∨ 64 ≤ i ∨ nI e ≤ i) → Q (some (v_l (-1))) h) (kb : ∀ i0, i0 < 64 → i0 < e → i = nI i0 → (w < 0 ∨ 3 < w) → Q (some (v_l (-2))) h) (ky : ∀ i0, i0 < 64 → i0 < e → i = nI i0 → 0 ≤ w → w ≤ 3 → Q (some (v_l (ev_fld h ((e - 1 - i0) % 64) w))) h) : sd_E1 l y_X8_event [v_r 0 0, v_i i, v_i w] h Q := by
  refine sd_e1 [] 80 (cd := cd_X8_event) (by decide) rfl (Nat.le_of_ble_eq_true rfl) ?_
  refine sp_keeps ?_
  have bad : ev_keeps h i = 0 → (i < 0 ∨ 64 ≤ i ∨ nI e ≤ i) := by
    intro q
    unfold ev_keeps at q
    split at q
    · next c => exact Or.inl c
    · split at q
      · next c => exact Or.inr (Or.inl c)
      · split at q
        · next c => rw [he] at c; exact Or.inr (Or.inr c)
        · exact absurd q (by decide)
  have good : ¬ ev_keeps h i = 0 → ∃ i0, i0 < 64 ∧ i0 < e ∧ i = nI i0 := by
    intro q
    unfold ev_keeps at q
    split at q
    · exact absurd rfl q
    · next c1 =>
      split at q
      · exact absurd rfl q
      · next c2 =>
        split at q
        · exact absurd rfl q
        · next c3 =>
          obtain ⟨j, hj, rfl⟩ := nI_of c1
          rw [he] at c3
          exact ⟨j, (nI_ltI hj (by decide)).mp (i_nle c2), (nI_ltI hj (by omega)).mp (i_nle c3), rfl⟩
  refine ⟨fun c1 => ?_, fun c1 => kn (bad c1)⟩
  obtain ⟨i0, h1, h2, h3⟩ := good c1
  refine ⟨fun c2 => kb i0 h1 h2 h3 (Or.inl c2), fun c2 => ?_⟩
  refine ⟨fun c3 => ?_, fun c3 => kb i0 h1 h2 h3 (Or.inr (i_nle c3))⟩
  exact sp_efield he hb h3 h2 (ky i0 h1 h2 h3 (i_nlt c2) c3)
theorem sp_reported {i : Int32} (hN : SN h sn) (kn : ((i < 0 ∨ nI sn ≤ i) ∨ ∃ s, s < sn ∧ i = nI s ∧ ¬ (h.1 4 s 4 = 0 ∧ h.1 3 s 4 = 0)) → Q (some v_n) h) (ky : ∀ s, s < sn → i = nI s → h.1 4 s 4 = 0 → h.1 3 s 4 = 0 → Q (some (v_r 3 s)) h) : sd_E1 l y_X8_senderReported [v_r 0 0, v_i i] h Q := by
  refine sd_e1 [] 80 (cd := cd_X8_senderReported) (by decide) rfl (Nat.le_of_ble_eq_true rfl) ?_
  refine sp_num hN (fun c => ?_) (fun s hs e => ?_)
  · exact ⟨fun _ => kn (Or.inl c), fun n q => (by cases q)⟩
  · refine ⟨fun q => (by cases q), fun n _ => ?_⟩
    refine ⟨fun c1 => kn (Or.inr ⟨s, hs, e, fun q => c1 q.1⟩), fun c1 => ?_⟩
    exact ⟨fun c2 => kn (Or.inr ⟨s, hs, e, fun q => c2 q.2⟩), fun c2 => ky s hs e c1 c2⟩
end DS
