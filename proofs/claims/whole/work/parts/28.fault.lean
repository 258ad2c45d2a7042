/-! the reference: faultOf, data -/
theorem df_shape_c (h : sd_H) : df_shape h = 0 ∨ df_shape h = 1 ∨ df_shape h = 2 ∨ df_shape h = 3 ∨ df_shape h = 4 ∨ df_shape h = 5 := by
  unfold df_shape
  split
  · split
    · split
      · split
        · split
          · exact Or.inl rfl
          · split
            · exact Or.inr (Or.inr (Or.inr (Or.inr (Or.inr rfl))))
            · split
              · exact Or.inr (Or.inr (Or.inr (Or.inr (Or.inr rfl))))
              · exact Or.inl rfl
        · exact Or.inr (Or.inr (Or.inr (Or.inr (Or.inl rfl))))
      · exact Or.inr (Or.inr (Or.inr (Or.inl rfl)))
    · exact Or.inr (Or.inr (Or.inl rfl))
  · exact Or.inr (Or.inl rfl)
theorem dk_fault_c (h : sd_H) (sn : Nat) : (dk_fault h sn = df_shape h ∧ ¬ df_shape h = 0) ∨ (df_shape h = 0 ∧ (dk_fault h sn = 0 ∨ dk_fault h sn = 6 ∨ dk_fault h sn = 7)) := by
  unfold dk_fault
  split
  · next q =>
    refine Or.inr ⟨q, ?_⟩
    split
    · exact Or.inr (Or.inl rfl)
    · split
      · exact Or.inl rfl
      · split
        · exact Or.inr (Or.inr rfl)
        · exact Or.inl rfl
  · next q => exact Or.inl ⟨rfl, q⟩
section FA
variable {l : Launch} {Q : Option sd_V → sd_H → Prop} {hc hm : sd_H} {sz sn : Nat} {g : Nat → Nat}
theorem PK.sort (hp : PK hc hm sz g) (hs : 12 ≤ sz) : df_sort hc = nI (g 1 % 128) ∧ hm.1 19 0 1 &&& 127 = nI (g 1 % 128) ∧ dk_rt hc = hc.1 8 0 (g 1 % 128) := by
  have hl := hp.lt (j := 1) (by omega)
  have e1 : df_sort hc = nI (g 1 % 128) := by
    unfold df_sort
    rw [show pk_b hc 1 = nI (g 1) from hp.b (j := 1) (by omega)]
    exact pk_andN (by omega) 7 (by decide)
  refine ⟨e1, ?_, ?_⟩
  · rw [hp.m (j := 1) (by omega)]
    exact pk_andN (by omega) 7 (by decide)
  · unfold dk_rt
    rw [e1, if_neg (nI_pos (by omega)), if_neg (show ¬ (128 : Int32) ≤ nI (g 1 % 128) from nI_ge (a := g 1 % 128) (b := 128) (by omega) (by decide)), nI_clamp (by omega)]
theorem m_o_n {o : Option Nat} (h6 : ∀ s, o = some s → s < 6) : m_o o = -1 ↔ o = none := by
  cases o with
  | none => exact ⟨fun _ => rfl, fun _ => rfl⟩
  | some s =>
    refine ⟨fun q => ?_, fun q => by cases q⟩
    have h := h6 s rfl
    exact absurd (show nI s < 0 by rw [show nI s = -1 from q]; decide) (nI_pos (by omega))
theorem sm_faultOf (hp : PK hc hm sz g) (hN : hm.1 7 0 8 = nI sn) (hn6 : sn ≤ 6) (hn : ∀ s, s < sn → hm.1 21 0 s = hc.1 3 s 0) (hr : ∀ i, i < 128 → hm.1 20 0 i = hc.1 8 0 i) (k : ∀ hm', Fx (fun T _ i => T = 7 ∧ 5 ≤ i ∧ i ≤ 7) hm hm' → (df_shape hc = 0 → 12 ≤ sz ∧ hm'.1 7 0 5 = df_pay hc ∧ hm'.1 7 0 6 = pk_s hc - df_pay hc - df_fill hc ∧ hm'.1 7 0 7 = (if df_has hc 16 = 0 then 0 else pk_2 hc (df_we hc))) → Q (some (v_i (dk_fault hc sn))) hm') : sd_E1 l y_X9_faultOf [v_r 7 0] hm Q := by
  refine sd_e1 [] 80 (cd := cd_X9_faultOf) (by decide) rfl (Nat.le_of_ble_eq_true rfl) ?_
  refine sm_formOf hp (fun hm' f v => ?_)
  have k := k hm' f v
  unfold dk_fault at k
  have hp' := hp.fx f (by omega) (by omega)
  refine ⟨fun (c1 : df_shape hc ≤ 0) => ?_, fun (c1 : ¬ df_shape hc ≤ 0) => ?_⟩
  rotate_left
  · rw [if_neg (fun q => c1 (by rw [q]; decide))] at k
    exact k
  have c1 : df_shape hc = 0 := by
    rcases df_shape_c hc with q | q | q | q | q | q
    · exact q
    all_goals (rw [q] at c1; exact absurd c1 (by decide))
  rw [if_pos c1] at k
  obtain ⟨hs, -⟩ := v c1
  obtain ⟨s1, s2, s3⟩ := hp'.sort hs
  rw [s3] at k
  refine ⟨1, ⟨show 1 < 300 by decide, rfl⟩, ?_⟩
  refine ⟨g 1 % 128, ⟨show g 1 % 128 < 128 by omega, s2⟩, ?_⟩
  have e20 : hm'.1 20 0 (g 1 % 128) = hc.1 8 0 (g 1 % 128) := by rw [f.1 20 0 _ (by omega), hr _ (by omega)]
  refine ⟨fun (c2 : ¬ hm'.1 20 0 (g 1 % 128) = 0) => ?_, fun (c2 : hm'.1 20 0 (g 1 % 128) = 0) => ?_⟩
  rotate_left
  · rw [e20] at c2
    rw [if_pos c2] at k
    exact k
  rw [e20] at c2
  rw [if_neg c2] at k
  refine sm_four (j := 8) (by decide) rfl ?_
  rw [hp'.four (j := 8) (by omega)]
  have hN' : hm'.1 7 0 8 = nI sn := by rw [f.1 7 0 8 (by omega), hN]
  refine sm_senderOf (hc := hc) (sn := sn) hN' hn6 (fun s hs => by rw [f.1 21 0 s (by omega), hn s hs]) ?_
  have hfl : ∀ s, dk_find hc (pk_4 hc 8) 0 sn = some s → s < 6 := fun s q => by have := dk_find_lt _ _ _ q; omega
  show (¬ m_o (dk_find hc (pk_4 hc 8) 0 sn) = -1 → _) ∧ (m_o (dk_find hc (pk_4 hc 8) 0 sn) = -1 → _)
  rw [m_o_n hfl]
  refine ⟨fun c3 => ?_, fun c3 => ?_⟩
  · by_cases c4 : sn < 6
    · rw [if_pos c4] at k; exact k
    · rw [if_neg c4, if_neg c3] at k; exact k
  · refine ⟨fun (c4 : ¬ hm'.1 7 0 8 = 6) => ?_, fun (c4 : hm'.1 7 0 8 = 6) => ?_⟩
    · rw [hN'] at c4
      rw [if_pos (show sn < 6 by
        rcases Nat.lt_or_ge sn 6 with q | q
        · exact q
        · exact absurd (by rw [show sn = 6 by omega]; rfl) c4)] at k
      exact k
    · rw [hN'] at c4
      have : sn = 6 := (nI_eq (b := 6) (by omega) (by decide)).mp c4
      rw [if_neg (by omega), if_pos c3] at k
      exact k
theorem sm_data {w : Int32} (hp : PK hc hm sz g) (hN : hm.1 7 0 8 = nI sn) (hn6 : sn ≤ 6) (hn : ∀ s, s < sn → hm.1 21 0 s = hc.1 3 s 0) (hr : ∀ i, i < 128 → hm.1 20 0 i = hc.1 8 0 i) (k : ∀ hm', Fx (fun T _ i => T = 7 ∧ 5 ≤ i ∧ i ≤ 7) hm hm' → Q (some (v_i (if w < 0 then -2 else if w ≤ 9 then (if w = 0 then dk_fault hc sn else if df_shape hc = 0 then df_field hc w else 0) else -2))) hm') : sd_E1 l y_X9_data [v_r 7 0, v_i w] hm Q := by
  refine sd_e1 [] 80 (cd := cd_X9_data) (by decide) rfl (Nat.le_of_ble_eq_true rfl) ?_
  refine sm_in (lo := 0) (hi := 9) (by decide) (by decide) (fun c => ?_) (fun c => ?_)
  · refine ⟨fun q => absurd rfl q, fun _ => ?_⟩
    have k := k hm .rf
    by_cases c1 : w < 0
    · rw [if_pos c1] at k; exact k
    · rw [if_neg c1, if_neg (fun q => c ⟨i_nlt c1, q⟩)] at k; exact k
  refine ⟨fun _ => ?_, fun q => absurd q (by decide)⟩
  rw [if_neg (Int32.not_lt.mpr c.1), if_pos c.2] at k
  refine sm_faultOf hp hN hn6 hn hr (fun hm' f v => ?_)
  have k := k hm' f
  refine ⟨fun (c1 : ¬ w = 0) => ?_, fun (c1 : w = 0) => ?_⟩
  rotate_left
  · rw [if_pos c1] at k; exact k
  rw [if_neg c1] at k
  have hp' := hp.fx f (by omega) (by omega)
  have hcs : (1 ≤ dk_fault hc sn ∧ dk_fault hc sn ≤ 5) ↔ ¬ df_shape hc = 0 := by
    rcases dk_fault_c hc sn with ⟨e, z⟩ | ⟨e, z⟩
    · rw [e]
      rcases df_shape_c hc with q | q | q | q | q | q
      · exact absurd q z
      all_goals (rw [q]; decide)
    · rw [e]
      rcases z with q | q | q <;> rw [q] <;> decide
  refine sm_in (lo := 1) (hi := 5) (by decide) (by decide) (fun c2 => ?_) (fun c2 => ?_)
  rotate_left
  · refine ⟨fun q => absurd q (by decide), fun _ => ?_⟩
    rw [if_neg (hcs.mp c2)] at k; exact k
  refine ⟨fun _ => ?_, fun q => absurd rfl q⟩
  have c2 : df_shape hc = 0 := Classical.not_not.mp fun q => c2 (hcs.mpr q)
  rw [if_pos c2] at k
  obtain ⟨hs, v5, v6, v7⟩ := v c2
  have hb0 : hm'.1 19 0 0 = pk_b hc 0 := by rw [hp'.m (j := 0) (by omega)]; exact (hp'.b (j := 0) (by omega)).symm
  have hb1 : hm'.1 19 0 1 = pk_b hc 1 := by rw [hp'.m (j := 1) (by omega)]; exact (hp'.b (j := 1) (by omega)).symm
  unfold df_field at k
  refine ⟨fun (c : w = 1) => ?_, fun (c : ¬ w = 1) => ?_⟩
  · rw [if_pos c, ← hb1] at k; exact ⟨1, ⟨show 1 < 300 by decide, rfl⟩, k⟩
  rw [if_neg c] at k
  refine ⟨fun (c : w = 2) => ?_, fun (c : ¬ w = 2) => ?_⟩
  · rw [if_pos c] at k; unfold df_sort at k; rw [← hb1] at k; exact ⟨1, ⟨show 1 < 300 by decide, rfl⟩, k⟩
  rw [if_neg c] at k
  refine ⟨fun (c : w = 3) => ?_, fun (c : ¬ w = 3) => ?_⟩
  · rw [if_pos c] at k
    refine sm_two (j := 2) (by decide) rfl ?_
    rw [hp'.two (j := 2) (by omega)]; exact k
  rw [if_neg c] at k
  refine ⟨fun (c : w = 4) => ?_, fun (c : ¬ w = 4) => ?_⟩
  · rw [if_pos c] at k
    refine sm_four (j := 4) (by decide) rfl ?_
    rw [hp'.four (j := 4) (by omega)]; exact k
  rw [if_neg c] at k
  refine ⟨fun (c : w = 5) => ?_, fun (c : ¬ w = 5) => ?_⟩
  · rw [if_pos c] at k
    refine sm_four (j := 8) (by decide) rfl ?_
    rw [hp'.four (j := 8) (by omega)]; exact k
  rw [if_neg c] at k
  refine ⟨fun (c : w = 6) => ?_, fun (c : ¬ w = 6) => ?_⟩
  · rw [if_pos c] at k; unfold df_wd at k; rw [← hb0] at k; exact ⟨0, ⟨show 0 < 300 by decide, rfl⟩, k⟩
  rw [if_neg c] at k
  refine ⟨fun (c : w = 7) => ?_, fun (c : ¬ w = 7) => ?_⟩
  · rw [if_pos c, ← v5] at k; exact k
  rw [if_neg c] at k
  refine ⟨fun (c : w = 8) => ?_, fun (c : ¬ w = 8) => ?_⟩
  · rw [if_pos c, ← v6] at k; exact k
  rw [if_neg c] at k
  have w9 : w = 9 := by
    rename_i c00 cc1 cc2 cc3 cc4 cc5 cc6 cc7
    obtain ⟨j, hj, rfl⟩ := nI_of2 (M := 9) (n := 9) rfl (Int32.not_lt.mpr ‹0 ≤ w ∧ w ≤ 9›.1) ‹0 ≤ w ∧ w ≤ 9›.2
    have e0 : ∀ n : Nat, n < 10 → j = n → nI j = nI n := fun n _ q => by rw [q]
    rcases (show j = 0 ∨ j = 1 ∨ j = 2 ∨ j = 3 ∨ j = 4 ∨ j = 5 ∨ j = 6 ∨ j = 7 ∨ j = 8 ∨ j = 9 by omega) with q | q | q | q | q | q | q | q | q | q
    · exact absurd (e0 0 (by decide) q) c1
    · exact absurd (e0 1 (by decide) q) (by assumption)
    · exact absurd (e0 2 (by decide) q) (by assumption)
    · exact absurd (e0 3 (by decide) q) (by assumption)
    · exact absurd (e0 4 (by decide) q) (by assumption)
    · exact absurd (e0 5 (by decide) q) (by assumption)
    · exact absurd (e0 6 (by decide) q) (by assumption)
    · exact absurd (e0 7 (by decide) q) (by assumption)
    · exact absurd (e0 8 (by decide) q) (by assumption)
    · exact e0 9 (by decide) q
  rw [if_pos w9, ← v7] at k
  exact k
end FA
