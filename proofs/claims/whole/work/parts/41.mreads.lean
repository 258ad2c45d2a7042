/-! the reference: sender, next, time, event -/
theorem lo_e1 : (8388607 : Int32).toInt = 8388607 := rfl
theorem lo_e2 : (-8388608 : Int32).toInt = -8388608 := rfl
theorem lo_1 {x : Int32} (c : ¬ x ≤ 8388607) : i_max (-8388608) (i_min 8388607 x) = 8388607 := by
  have e1 := lo_e1
  unfold i_min
  rw [if_neg (fun q => c (by rw [Int32.le_iff_toInt_le]; rw [Int32.lt_iff_toInt_lt] at q; omega))]
  rfl
theorem lo_m {x : Int32} (c : x ≤ 8388607) : i_min 8388607 x = x := by
  have e1 := lo_e1
  unfold i_min
  by_cases q : x < 8388607
  · rw [if_pos q]
  · rw [if_neg q]
    apply Int32.toInt_inj.mp
    rw [Int32.le_iff_toInt_le] at c
    rw [Int32.lt_iff_toInt_lt] at q
    omega
theorem lo_2 {x : Int32} (c : x ≤ 8388607) (c2 : -8388608 ≤ x) : i_max (-8388608) (i_min 8388607 x) = x := by
  have e2 := lo_e2
  rw [lo_m c]
  unfold i_max
  by_cases q : -8388608 < x
  · rw [if_pos q]
  · rw [if_neg q]
    apply Int32.toInt_inj.mp
    rw [Int32.le_iff_toInt_le] at c2
    rw [Int32.lt_iff_toInt_lt] at q
    omega
theorem lo_3 {x : Int32} (c : x ≤ 8388607) (c2 : ¬ -8388608 ≤ x) : i_max (-8388608) (i_min 8388607 x) = -8388608 := by
  have e2 := lo_e2
  rw [lo_m c]
  unfold i_max
  rw [if_neg (fun q => c2 (by rw [Int32.le_iff_toInt_le]; rw [Int32.lt_iff_toInt_lt] at q; omega))]
section RD
variable {l : Launch} {Q : Option sd_V → sd_H → Prop} {hc hm : sd_H} {s sn : Nat} {f : Nat → Int32}
theorem sm_isS {i : Int32} (hN : hm.1 7 0 8 = nI sn) (h6 : sn ≤ 6) (kn : (i < 0 ∨ nI sn ≤ i) → Q (some (v_i 0)) hm) (ky : ∀ s, s < sn → i = nI s → Q (some (v_i 1)) hm) : sd_E1 l y_X9_isSender [v_r 7 0, v_i i] hm Q := by
  refine sd_e1 [] 60 (cd := cd_X9_isSender) (by decide) rfl (Nat.le_of_ble_eq_true rfl) ?_
  refine sm_in (lo := 0) (hi := hm.1 7 0 8 - 1) (by decide) rfl (fun c => ?_) (fun c => ?_)
  · refine ⟨Or.inl rfl, kn ?_⟩
    by_cases c1 : i < 0
    · exact Or.inl c1
    · right
      obtain ⟨j, hj, rfl⟩ := nI_of c1
      rcases Nat.lt_or_ge j sn with q | q
      · exfalso
        apply c
        refine ⟨nI_pos' hj, ?_⟩
        rw [hN, show nI sn - 1 = nI (sn - 1) by rw [show sn = (sn - 1) + 1 by omega, nI_pred]; rfl]
        exact nI_le (by omega) (by omega)
      · exact nI_le q hj
  · refine ⟨Or.inr rfl, ?_⟩
    obtain ⟨j, hj, rfl⟩ := nI_of (Int32.not_lt.mpr c.1)
    refine ky j ?_ rfl
    have c2 := c.2
    rw [hN] at c2
    rcases Nat.eq_zero_or_pos sn with q | q
    · subst q
      exact absurd (show nI j ≤ -1 from c2) (Int32.not_le.mpr (by
        have := nI_pos' hj
        rw [Int32.le_iff_toInt_le] at this
        rw [Int32.lt_iff_toInt_lt]
        have e0 : (0 : Int32).toInt = 0 := rfl
        have e1 : (-1 : Int32).toInt = -1 := rfl
        omega))
    · rw [show nI sn - 1 = nI (sn - 1) by rw [show sn = (sn - 1) + 1 by omega, nI_pred]; rfl] at c2
      have := (nI_leI hj (by omega)).mp c2
      omega
theorem sm_dueOf (hs : s < 6) (m : MN hm s f) (k : Q (some (v_i (nb_due f))) hm) : sd_E1 l y_X9_dueOf [v_r 7 0, v_i (nI s)] hm Q := by
  refine sd_e1 [] 60 (cd := cd_X9_dueOf) (by decide) rfl (Nat.le_of_ble_eq_true rfl) ?_
  have s6 : s < 6 := hs
  refine ⟨s, ⟨s6, rfl⟩, s, ⟨s6, rfl⟩, s, ⟨s6, rfl⟩, ?_⟩
  show Q (some (v_i (hm.1 23 0 s + hm.1 22 0 s - hm.1 24 0 s + 1))) hm
  rw [show hm.1 23 0 s = f 1 from m 1 (by decide), show hm.1 22 0 s = f 0 from m 0 (by decide), show hm.1 24 0 s = f 2 from m 2 (by decide)]
  exact k
theorem sm_lostOf (hs : s < 6) (m : MN hm s f) (k : Q (some (v_i (nb_lost f))) hm) : sd_E1 l y_X9_lostOf [v_r 7 0, v_i (nI s)] hm Q := by
  refine sd_e1 [] 60 (cd := cd_X9_lostOf) (by decide) rfl (Nat.le_of_ble_eq_true rfl) ?_
  have s6 : s < 6 := hs
  refine sm_dueOf hs m ?_
  refine ⟨s, ⟨s6, rfl⟩, ?_⟩
  unfold nb_lost at k
  rw [show hm.1 27 0 s = f 5 from m 5 (by decide)]
  refine ⟨fun c1 => ?_, fun c1 => ?_⟩
  rotate_left
  · rw [lo_1 c1] at k; exact k
  refine ⟨fun c2 => ?_, fun c2 => ?_⟩
  · rw [lo_2 c1 c2] at k; exact k
  · rw [lo_3 c1 c2] at k; exact k
theorem sm_sender {e t : Nat} {nw i w : Int32} (hN : hm.1 7 0 8 = nI sn) (h6 : sn ≤ 6) (r : ∀ s, s < sn → RS hc hm s e t nw) (kn : (i < 0 ∨ nI sn ≤ i) → Q (some (v_i (-2147483648))) hm) (ky : ∀ s, s < sn → i = nI s → Q (some (v_i (sn_fld hc s w))) hm) : sd_E1 l y_X9_sender [v_r 7 0, v_i i, v_i w] hm Q := by
  refine sd_e1 [] 60 (cd := cd_X9_sender) (by decide) rfl (Nat.le_of_ble_eq_true rfl) ?_
  refine sm_isS hN h6 (fun c => ⟨fun q => absurd rfl q, fun _ => kn c⟩) (fun s hs es => ⟨fun _ => ?_, fun q => absurd q (by decide)⟩)
  subst es
  have k := ky s hs rfl
  have s6 : s < 6 := by omega
  obtain ⟨t1, t2, t3, t4, t5, t6, t7, t8, t9, t10, t11, t12⟩ := r s hs
  have m0 : hm.1 22 0 s = hc.1 4 s 0 := t2 0 (by decide)
  have m1 : hm.1 23 0 s = hc.1 4 s 1 := t2 1 (by decide)
  have m2 : hm.1 24 0 s = hc.1 4 s 2 := t2 2 (by decide)
  have m3 : hm.1 25 0 s = hc.1 4 s 3 := t2 3 (by decide)
  have m4 : hm.1 26 0 s = hc.1 4 s 4 := t2 4 (by decide)
  have m5 : hm.1 27 0 s = hc.1 4 s 5 := t2 5 (by decide)
  have b4 : hc.1 4 s 4 ≤ 0 ↔ hc.1 4 s 4 = 0 := by
    have := t3.2.2.2.1
    rw [i_le0, i_z]; omega
  have cnt : ∀ (x : Nat), 1 ≤ x → x ≤ 5 → hm.1 43 0 (6 * s + x) = hc.1 16 s x := t9.2.2.2.2.2.2.1
  unfold sn_fld at k
  refine ⟨fun (c : w = 0) => ?_, fun (c : ¬ w = 0) => ?_⟩
  · rw [if_pos c, ← t1] at k; exact ⟨s, ⟨s6, rfl⟩, k⟩
  rw [if_neg c] at k
  refine ⟨fun (c : w = 1) => ?_, fun (c : ¬ w = 1) => ?_⟩
  · rw [if_pos c, ← m0] at k; exact ⟨s, ⟨s6, rfl⟩, k⟩
  rw [if_neg c] at k
  refine ⟨fun (c : w = 2) => ?_, fun (c : ¬ w = 2) => ?_⟩
  · rw [if_pos c, ← m1] at k; exact ⟨s, ⟨s6, rfl⟩, k⟩
  rw [if_neg c] at k
  refine ⟨fun (c : w = 3) => ?_, fun (c : ¬ w = 3) => ?_⟩
  · rw [if_pos c, ← m2] at k; exact ⟨s, ⟨s6, rfl⟩, k⟩
  rw [if_neg c] at k
  refine ⟨fun (c : w = 4) => ?_, fun (c : ¬ w = 4) => ?_⟩
  · rw [if_pos c, ← m3] at k; exact ⟨s, ⟨s6, rfl⟩, k⟩
  rw [if_neg c] at k
  refine ⟨fun (c : w = 5) => ?_, fun (c : ¬ w = 5) => ?_⟩
  · rw [if_pos c, ← m4] at k; exact ⟨s, ⟨s6, rfl⟩, k⟩
  rw [if_neg c] at k
  refine ⟨fun (c : w = 6) => ?_, fun (c : ¬ w = 6) => ?_⟩
  · rw [if_pos c, ← m5] at k; exact ⟨s, ⟨s6, rfl⟩, k⟩
  rw [if_neg c] at k
  refine ⟨fun (c : w = 7) => ?_, fun (c : ¬ w = 7) => ?_⟩
  · rw [if_pos c, ← t4.1] at k; exact ⟨s, ⟨s6, rfl⟩, k⟩
  rw [if_neg c] at k
  refine ⟨fun (c : w = 8) => ?_, fun (c : ¬ w = 8) => ?_⟩
  · rw [if_pos c] at k
    refine ⟨s, ⟨s6, rfl⟩, fun (z : hm.1 26 0 s ≤ 0) => ?_, fun (z : ¬ hm.1 26 0 s ≤ 0) => ?_⟩
    · rw [m4] at z; rw [if_pos (b4.mp z)] at k
      exact sm_dueOf s6 t2 k
    · rw [m4] at z; rw [if_neg (fun y => z (b4.mpr y))] at k
      exact k
  rw [if_neg c] at k
  refine ⟨fun (c : w = 9) => ?_, fun (c : ¬ w = 9) => ?_⟩
  · rw [if_pos c] at k
    refine ⟨s, ⟨s6, rfl⟩, fun (z : hm.1 26 0 s ≤ 0) => ?_, fun (z : ¬ hm.1 26 0 s ≤ 0) => ?_⟩
    · rw [m4] at z; rw [if_pos (b4.mp z)] at k
      exact sm_lostOf s6 t2 k
    · rw [m4] at z; rw [if_neg (fun y => z (b4.mpr y))] at k
      exact k
  rw [if_neg c] at k
  have cx : ∀ x : Nat, 1 ≤ x → x ≤ 5 → w = nI (x + 9) → (6 : Int32) * nI s + w - 9 = nI (6 * s + x) := fun x h1 h2 ew => by
    rw [ew, ix6, show (9 : Int32) = nI 9 from rfl, pk_sub (by omega)]
    congr 1
  refine ⟨fun (c : w = 10) => ?_, fun (c : ¬ w = 10) => ?_⟩
  · rw [if_pos c, ← cnt 1 (by decide) (by decide)] at k
    exact ⟨6 * s + 1, ⟨show 6 * s + 1 < 36 by omega, cx 1 (by decide) (by decide) c⟩, k⟩
  rw [if_neg c] at k
  refine ⟨fun (c : w = 11) => ?_, fun (c : ¬ w = 11) => ?_⟩
  · rw [if_pos c, ← cnt 2 (by decide) (by decide)] at k
    exact ⟨6 * s + 2, ⟨show 6 * s + 2 < 36 by omega, cx 2 (by decide) (by decide) c⟩, k⟩
  rw [if_neg c] at k
  refine ⟨fun (c : w = 12) => ?_, fun (c : ¬ w = 12) => ?_⟩
  · rw [if_pos c, ← cnt 3 (by decide) (by decide)] at k
    exact ⟨6 * s + 3, ⟨show 6 * s + 3 < 36 by omega, cx 3 (by decide) (by decide) c⟩, k⟩
  rw [if_neg c] at k
  refine ⟨fun (c : w = 13) => ?_, fun (c : ¬ w = 13) => ?_⟩
  · rw [if_pos c, ← cnt 4 (by decide) (by decide)] at k
    exact ⟨6 * s + 4, ⟨show 6 * s + 4 < 36 by omega, cx 4 (by decide) (by decide) c⟩, k⟩
  rw [if_neg c] at k
  refine ⟨fun (c : w = 14) => ?_, fun (c : ¬ w = 14) => ?_⟩
  · rw [if_pos c, ← cnt 5 (by decide) (by decide)] at k
    exact ⟨6 * s + 5, ⟨show 6 * s + 5 < 36 by omega, cx 5 (by decide) (by decide) c⟩, k⟩
  rw [if_neg c] at k
  refine ⟨fun (c : w = 15) => ?_, fun (c : ¬ w = 15) => ?_⟩
  · rw [if_pos c, t9.2.2.2.2.2.1] at k
    exact sm_waiting s6 k
  rw [if_neg c] at k
  refine ⟨fun (c : w = 16) => ?_, fun (c : ¬ w = 16) => ?_⟩
  · rw [if_pos c] at k
    refine ⟨s, ⟨s6, rfl⟩, fun (z : hm.1 33 0 s = 0) => ?_, fun (z : ¬ hm.1 33 0 s = 0) => ?_⟩
    · rw [t5.1] at z; rw [if_pos z] at k; exact k
    · rw [t5.1] at z; rw [if_neg z] at k; exact k
  rw [if_neg c] at k
  exact k
theorem RS.next {e t : Nat} {nw : Int32} (r : RS hc hm s e t nw) : hc.2.1 6 s 6 = hm.2.1 38 0 s := by
  rw [r.2.2.2.2.2.2.2.2.1.2.1]; exact Int64.add_zero _
theorem sm_next {e t : Nat} {nw i : Int32} (hN : hm.1 7 0 8 = nI sn) (h6 : sn ≤ 6) (r : ∀ s, s < sn → RS hc hm s e t nw) (kn : (i < 0 ∨ nI sn ≤ i) → Q (some (v_l 0)) hm) (ky : ∀ s, s < sn → i = nI s → Q (some (v_l (hc.2.1 6 s 6))) hm) : sd_E1 l y_X9_next [v_r 7 0, v_i i] hm Q := by
  refine sd_e1 [] 60 (cd := cd_X9_next) (by decide) rfl (Nat.le_of_ble_eq_true rfl) ?_
  refine sm_isS hN h6 (fun c => ⟨fun _ => kn c, fun q => absurd rfl q⟩) (fun s hs es => ⟨fun q => absurd q (by decide), fun _ => ?_⟩)
  subst es
  have k := ky s hs rfl
  have s6 : s < 6 := by omega
  have R := r s hs
  rw [R.next] at k
  obtain ⟨t1, t2, t3, t4, t5, t6, t7, t8, t9, t10, t11, t12⟩ := R
  refine ⟨s, ⟨s6, rfl⟩, fun (z : hm.1 37 0 s = 0) => ?_, fun (z : ¬ hm.1 37 0 s = 0) => ?_⟩
  · rw [t11] at z
    have z4 : ¬ hc.1 4 s 4 = 0 := fun y => by rw [if_pos y] at z; exact absurd z (by decide)
    rw [(t12 z4).1] at k
    exact k
  · exact ⟨s, ⟨s6, rfl⟩, k⟩
theorem sm_time {e t : Nat} {nw i : Int32} {n : Int64} (hN : hm.1 7 0 8 = nI sn) (h6 : sn ≤ 6) (r : ∀ s, s < sn → RS hc hm s e t nw) (kn : (i < 0 ∨ nI sn ≤ i) → Q (some (v_l (-2))) hm) (ky : ∀ s, s < sn → i = nI s → Q (some (v_l (if pl_waits hc s n = 0 then -1 else hc.2.1 17 s (sl n)))) hm) : sd_E1 l y_X9_time [v_r 7 0, v_i i, v_l n] hm Q := by
  refine sd_e1 [] 60 (cd := cd_X9_time) (by decide) rfl (Nat.le_of_ble_eq_true rfl) ?_
  refine sm_isS hN h6 (fun c => ⟨fun q => absurd rfl q, fun _ => kn c⟩) (fun s hs es => ⟨fun _ => ?_, fun q => absurd q (by decide)⟩)
  subst es
  have k := ky s hs rfl
  have s6 : s < 6 := by omega
  have R := r s hs
  have hn := R.next
  obtain ⟨t1, t2, t3, t4, t5, t6, t7, t8, t9, t10, t11, t12⟩ := R
  obtain ⟨u1, u2, u3, u4, u5, u6, u7, u8, u9, u10, u11⟩ := t9
  unfold pl_waits at k
  rw [hn] at k
  refine ⟨s, ⟨s6, rfl⟩, fun (z : hm.1 37 0 s = 0) => ?_, fun (z : ¬ hm.1 37 0 s = 0) => ?_⟩
  · rw [t11] at z
    have z4 : ¬ hc.1 4 s 4 = 0 := fun y => by rw [if_pos y] at z; exact absurd z (by decide)
    have ez : hc.1 18 s (sl n) = 0 := by
      have hl := sl_lt n
      have e1 := u3 (sl n) hl
      rw [if_neg (by omega), (t12 z4).1, (t12 z4).2 _ hl] at e1
      have e2 : sl (0 + lN (sl n)) = sl n := by
        rw [sl_add _ _ (by omega), show sl 0 = 0 from rfl]; omega
      rw [e2] at e1
      exact e1
    have ew : (if n < hm.2.1 38 0 s then (0 : Int32) else if ¬ n - hm.2.1 38 0 s < 32 then 0 else if hc.1 18 s (sl n) = 0 then 0 else 1) = 0 := by
      rw [if_pos ez]
      split
      · rfl
      · split <;> rfl
    rw [if_pos ew] at k
    exact k
  · refine ⟨s, ⟨s6, rfl⟩, fun c1 => ?_, fun c1 => ?_⟩
    · rw [if_pos (lc_lt.mp c1)] at k
      exact k
    have c1 : ¬ n < hm.2.1 38 0 s := fun q => c1 (lc_lt.mpr q)
    rw [if_neg c1] at k
    have l31 : (31 < n - hm.2.1 38 0 s) ↔ ¬ n - hm.2.1 38 0 s < 32 := by
      rw [Int64.lt_iff_toInt_lt, Int64.lt_iff_toInt_lt, show (31 : Int64).toInt = 31 from rfl, show (32 : Int64).toInt = 32 from rfl]
      omega
    refine ⟨s, ⟨s6, rfl⟩, fun c2 => ?_, fun c2 => ?_⟩
    rotate_left
    · have c2 : 31 < n - hm.2.1 38 0 s := Classical.not_not.mp fun q => c2 (lc_le.mpr q)
      rw [if_pos (l31.mp c2)] at k
      exact k
    have c2 : ¬ 31 < n - hm.2.1 38 0 s := lc_le.mp c2
    rw [if_neg (fun q => c2 (l31.mpr q))] at k
    have c2' : n - hm.2.1 38 0 s < 32 := Classical.not_not.mp fun q => c2 (l31.mpr q)
    have hmin := Int64.minValue_le_toInt n
    have hmax := Int64.toInt_le n
    have c1' : (hm.2.1 38 0 s).toInt ≤ n.toInt := by
      have := c1; rw [Int64.lt_iff_toInt_lt] at this; omega
    have hmax2 := Int64.toInt_lt n
    have hd : (n - hm.2.1 38 0 s).toInt = n.toInt - (hm.2.1 38 0 s).toInt := by
      rw [Int64.toInt_sub]
      exact Int.bmod_eq_of_le (by omega) (by omega)
    rw [Int64.lt_iff_toInt_lt, hd, show (32 : Int64).toInt = 32 from rfl] at c2'
    obtain ⟨x, hx, ex⟩ : ∃ x : Nat, x < 32 ∧ n - hm.2.1 38 0 s = lN x := by
      refine ⟨(n.toInt - (hm.2.1 38 0 s).toInt).toNat, by omega, Int64.toInt_inj.mp ?_⟩
      rw [hd, lN_toInt (by omega)]
      omega
    have en : n = hm.2.1 38 0 s + lN x := by
      rw [← ex, Int64.add_comm, Int64.sub_add_cancel]
    have I : 32 * s + x < 192 := by omega
    have ei : (32 : Int32) * nI s + (n - hm.2.1 38 0 s).toInt32 = nI (32 * s + x) := by rw [ex, lN_i, ix32]
    have hh : hc.1 18 s (sl n) = hm.1 41 0 (32 * s + x) := by rw [en, u3 x hx, if_neg (by omega)]
    refine ⟨s, ⟨s6, rfl⟩, 32 * s + x, ⟨I, ei⟩, fun (c3 : hm.1 41 0 (32 * s + x) = 0) => ?_, fun (c3 : ¬ hm.1 41 0 (32 * s + x) = 0) => ?_⟩
    · rw [hh, if_pos c3] at k
      exact k
    · rw [hh, if_neg c3, if_neg (by decide), en, ← u4 x hx (by omega) c3] at k
      exact ⟨32 * s + x, ⟨I, ei⟩, k⟩
theorem sm_event {e : Nat} {i w : Int32} (v : EV hc hm e) (hb : e < 2 ^ 30) (kn : (i < 0 ∨ 64 ≤ i ∨ nI e ≤ i) → Q (some (v_l (-1))) hm) (kb : ∀ i0, i0 < 64 → i0 < e → i = nI i0 → (w < 0 ∨ 3 < w) → Q (some (v_l (-2))) hm) (ky : ∀ i0, i0 < 64 → i0 < e → i = nI i0 → 0 ≤ w → w ≤ 3 → Q (some (v_l (ev_fld hc ((e - 1 - i0) % 64) w))) hm) : sd_E1 l y_X9_event [v_r 7 0, v_i i, v_i w] hm Q := by
  obtain ⟨v1, v2, v3⟩ := v
  refine sd_e1 [] 60 (cd := cd_X9_event) (by decide) rfl (Nat.le_of_ble_eq_true rfl) ?_
  refine sm_in (lo := 0) (hi := 63) (by decide) (by decide) (fun c => ?_) (fun c => ?_)
  · refine ⟨fun _ => kn ?_, fun q => absurd rfl q⟩
    by_cases c1 : i < 0
    · exact Or.inl c1
    · right; left
      rw [Int32.le_iff_toInt_le]
      have e1 : (64 : Int32).toInt = 64 := rfl
      have e2 : (63 : Int32).toInt = 63 := rfl
      have : ¬ i ≤ 63 := fun q => c ⟨i_nlt c1, q⟩
      rw [Int32.le_iff_toInt_le] at this
      omega
  refine ⟨fun q => absurd q (by decide), fun _ => ?_⟩
  obtain ⟨i0, hi0, rfl⟩ := nI_of2 (M := 63) (n := 63) rfl (Int32.not_lt.mpr c.1) c.2
  refine ⟨fun (c1 : nI i0 < hm.1 7 0 35) => ?_, fun (c1 : ¬ nI i0 < hm.1 7 0 35) => ?_⟩
  rotate_left
  · rw [v2] at c1
    exact kn (Or.inr (Or.inr (i_nlt c1)))
  rw [v2] at c1
  have c1 := (nI_ltI (by omega) (by omega)).mp c1
  refine sm_in (lo := 0) (hi := 3) (by decide) (by decide) (fun c2 => ?_) (fun c2 => ?_)
  · refine ⟨fun _ => kb i0 (by omega) c1 rfl ?_, fun q => absurd rfl q⟩
    by_cases c3 : w < 0
    · exact Or.inl c3
    · exact Or.inr (i_nle fun q => c2 ⟨i_nlt c3, q⟩)
  refine ⟨fun q => absurd q (by decide), fun _ => ?_⟩
  have k := ky i0 (by omega) c1 rfl c2.1 c2.2
  refine ⟨by decide, ?_⟩
  obtain ⟨w0, hw, rfl⟩ := nI_of2 (M := 3) (n := 3) rfl (Int32.not_lt.mpr c2.1) c2.2
  have e1 : hm.1 7 0 35 - 1 - nI i0 = nI (e - 1 - i0) := by
    rw [v2, show (1 : Int32) = nI 1 from rfl, pk_sub (by omega), pk_sub (by omega)]
  have ej : (4 : Int32) * (hm.1 7 0 35 - 1 - nI i0 - (hm.1 7 0 35 - 1 - nI i0) / 64 * 64) + nI w0 = nI (4 * ((e - 1 - i0) % 64) + w0) := by
    rw [e1, show nI (e - 1 - i0) - nI (e - 1 - i0) / 64 * 64 = nI ((e - 1 - i0) % 64) from pk_rem (d := 64) (by omega) (by decide) (by decide), show (4 : Int32) = nI 4 from rfl, pk_mul, nI_add]
  have hm64 : (e - 1 - i0) % 64 < 64 := Nat.mod_lt _ (by decide)
  refine ⟨4 * ((e - 1 - i0) % 64) + w0, ⟨show 4 * ((e - 1 - i0) % 64) + w0 < 256 by omega, ej⟩, ?_⟩
  have v := v3 _ hm64
  have ek : hm.2.1 44 0 (4 * ((e - 1 - i0) % 64) + w0) = ev_fld hc ((e - 1 - i0) % 64) (nI w0) := by
    generalize (e - 1 - i0) % 64 = j at v
    unfold ev_fld
    rcases (show w0 = 0 ∨ w0 = 1 ∨ w0 = 2 ∨ w0 = 3 by omega) with rfl | rfl | rfl | rfl
    · rw [if_pos (by rfl)]; exact v.1
    · rw [if_neg (by decide), if_pos (by rfl)]; exact v.2.1
    · rw [if_neg (by decide), if_neg (by decide), if_pos (by rfl)]; exact v.2.2.1
    · rw [if_neg (by decide), if_neg (by decide), if_neg (by decide), if_pos (by rfl)]; exact v.2.2.2
  show Q (some (v_l (hm.2.1 44 0 (4 * ((e - 1 - i0) % 64) + w0)))) hm
  rw [ek]
  exact k
end RD
