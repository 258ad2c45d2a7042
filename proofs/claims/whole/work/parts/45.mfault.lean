/-! the reference: endOf, partFault, reportFault; the parts of a packet without fault -/
def enN (g : Nat → Nat) (i : Nat) : Nat := i + 4 + 4 * g2 g (i + 2)
def llN (so n : Nat) : Nat := if so = 200 then 28 + 24 * n else if so = 201 then 8 + 24 * n else if so = 203 then 4 + 4 * n else 4
theorem ll_n {so n : Nat} (h : so < 256) : rf_ll (nI so) (nI n) = nI (llN so n) := by
  have e : ∀ c : Nat, c < 256 → (nI so = nI c ↔ so = c) := fun c hc => nI_eq (by omega) (by omega)
  have m : ∀ a b : Nat, nI a + nI b * nI n = nI (a + b * n) := fun a b => by rw [pk_mul, nI_add]
  unfold rf_ll llN
  by_cases c1 : so = 200
  · rw [if_pos (show nI so = 200 from (e 200 (by decide)).mpr c1), if_pos c1]; exact m 28 24
  rw [if_neg (show ¬ nI so = 200 from fun q => c1 ((e 200 (by decide)).mp q)), if_neg c1]
  by_cases c2 : so = 201
  · rw [if_pos (show nI so = 201 from (e 201 (by decide)).mpr c2), if_pos c2]; exact m 8 24
  rw [if_neg (show ¬ nI so = 201 from fun q => c2 ((e 201 (by decide)).mp q)), if_neg c2]
  by_cases c3 : so = 203
  · rw [if_neg (show ¬ nI so = 202 from fun q => absurd ((e 202 (by decide)).mp q) (by omega)), if_pos (show nI so = 203 from (e 203 (by decide)).mpr c3), if_pos c3]; exact m 4 4
  rw [if_neg (show ¬ nI so = 203 from fun q => c3 ((e 203 (by decide)).mp q)), if_neg c3]
  split <;> rfl
def WF (g : Nat → Nat) (sz : Nat) : Nat → Nat → Prop
  | 0, i => sz ≤ i
  | n + 1, i => sz ≤ i ∨ (i + 3 < sz ∧ enN g i ≤ sz ∧ i + llN (g (i + 1)) (g i % 32) ≤ enN g i ∧ WF g sz n (enN g i))
theorem pf_le {h : sd_H} {p : Int32} (q : rf_pf h p ≤ 0) : rf_pf h p = 0 := by
  revert q
  unfold rf_pf
  split
  · split
    · split
      · split
        · intro q; exact absurd q (by decide)
        · split
          · split
            · intro _; rfl
            · split
              · intro _; rfl
              · intro q; exact absurd q (by decide)
          · intro q; exact absurd q (by decide)
      · intro q; exact absurd q (by decide)
    · intro q; exact absurd q (by decide)
  · intro q; exact absurd q (by decide)
section RF
variable {l : Launch} {Q : Option sd_V → sd_H → Prop} {hc hm : sd_H} {sz i : Nat} {g : Nat → Nat}
theorem g2_lt {j : Nat} (h1 : g j < 256) (h2 : g (j + 1) < 256) : g2 g j < 65536 := by unfold g2; omega
theorem PK.en (P : PK hc hm sz g) (hi : i + 3 < sz) : rf_en hc (nI i) = nI (enN g i) ∧ enN g i < 300000 := by
  have hb := g2_lt (g := g) (j := i + 2) (P.lt (by omega)) (P.lt (by omega))
  have := P.2.2.1
  refine ⟨?_, by unfold enN; omega⟩
  unfold rf_en enN
  rw [show (2 : Int32) = nI 2 from rfl, nI_add, P.h (j := i + 2) (by omega), show (4 : Int32) = nI 4 from rfl, nI_add, pk_mul, nI_add]
theorem PK.so (P : PK hc hm sz g) (hi : i + 1 < sz) : rf_so hc (nI i) = nI (g (i + 1)) ∧ g (i + 1) < 256 := by
  refine ⟨?_, P.lt hi⟩
  unfold rf_so
  rw [nI_1, P.b hi]
theorem PK.ct (P : PK hc hm sz g) (hi : i < sz) : rf_ct hc (nI i) = nI (g i % 32) := by
  unfold rf_ct
  rw [P.b hi]
  exact pk_andN (by have := P.lt hi; omega) 5 (by decide)
theorem pf_0 (P : PK hc hm sz g) (hi : i + 3 < sz) (q : rf_pf hc (nI i) = 0) : enN g i ≤ sz ∧ i + llN (g (i + 1)) (g i % 32) ≤ enN g i := by
  obtain ⟨e1, e2⟩ := P.en hi
  obtain ⟨s1, s2⟩ := P.so (i := i) (by omega)
  have c1 := P.ct (i := i) (by omega)
  have hz : pk_s hc = nI sz := P.1
  have h3 := P.2.2.1
  have lb : llN (g (i + 1)) (g i % 32) < 1000 := by
    have : g i % 32 < 32 := Nat.mod_lt _ (by decide)
    unfold llN
    split
    · omega
    · split
      · omega
      · split <;> omega
  have hle : i ≤ enN g i := by unfold enN; omega
  unfold rf_pf at q
  rw [e1, s1, c1, hz, ll_n s2, pk_sub hle] at q
  by_cases k1 : pk_b hc (nI i) >>> 6 = 2
  · rw [if_pos k1] at q
    by_cases k2 : nI (enN g i) ≤ nI sz
    · rw [if_pos k2] at q
      by_cases k3 : nI (llN (g (i + 1)) (g i % 32)) ≤ nI (enN g i - i)
      · have := (nI_leI (by omega) (by omega)).mp k2
        have := (nI_leI (by omega) (by omega)).mp k3
        omega
      · rw [if_neg k3] at q; exact absurd q (by decide)
    · rw [if_neg k2] at q; exact absurd q (by decide)
  · rw [if_neg k1] at q; exact absurd q (by decide)
theorem enN_4 (hi : i % 4 = 0) : enN g i % 4 = 0 := by unfold enN; omega
theorem WF.of (P : PK hc hm sz g) (h4 : sz % 4 = 0) : ∀ (n i : Nat), i % 4 = 0 → sz ≤ i + 4 * n → i ≤ sz → rf_lp hc n (nI i) = 0 → WF g sz n i
  | 0, i, hi, hn, _, _ => by show sz ≤ i; omega
  | n + 1, i, hi, hn, hl, q => by
    have h3 := P.2.2.1
    rcases Nat.lt_or_ge i sz with c | c
    · right
      have hi3 : i + 3 < sz := by omega
      unfold rf_lp at q
      rw [show pk_s hc = nI sz from P.1, if_neg (nI_ge c (by omega))] at q
      by_cases z : rf_pf hc (nI i) = 0
      · obtain ⟨w1, w2⟩ := pf_0 P hi3 z
        rw [if_pos z, (P.en hi3).1] at q
        refine ⟨hi3, w1, w2, WF.of P h4 n _ (enN_4 hi) ?_ w1 q⟩
        unfold enN; omega
      · rw [if_neg z] at q; exact absurd q z
    · exact Or.inl c
theorem WF.fault (P : PK hc hm sz g) (q : rf_fault hc = 0) : WF g sz 75 0 := by
  have h3 := P.2.2.1
  unfold rf_fault at q
  rw [show pk_s hc = nI sz from P.1] at q
  by_cases c1 : nI sz < 8
  · rw [if_pos c1] at q; exact absurd q (by decide)
  rw [if_neg c1] at q
  by_cases c2 : nI sz - nI sz / 4 * 4 = 0
  · rw [if_pos c2] at q
    have c2 : nI (sz % 4) = nI 0 := by rw [← pk_rem (d := 4) (by omega) (by decide) (by decide)]; exact c2
    have c2 := (nI_eq (by omega) (by decide)).mp c2
    refine WF.of P c2 75 0 rfl (by omega) (by omega) ?_
    by_cases c3 : rf_so hc 0 = 200
    · rw [if_pos c3] at q
      by_cases c4 : rf_fi hc 0 = 0
      · rw [if_pos c4] at q; exact q
      · rw [if_neg c4] at q; exact absurd q (by decide)
    · rw [if_neg c3] at q
      by_cases c5 : rf_so hc 0 = 201
      · rw [if_neg (fun z => z c5)] at q
        by_cases c4 : rf_fi hc 0 = 0
        · rw [if_pos c4] at q; exact q
        · rw [if_neg c4] at q; exact absurd q (by decide)
      · rw [if_pos c5] at q; exact absurd q (by decide)
  · rw [if_neg c2] at q; exact absurd q (by decide)
theorem sm_endOf (P : PK hc hm sz g) (hi : i + 3 < sz) (k : Q (some (v_i (rf_en hc (nI i)))) hm) : sd_E1 l y_X9_endOf [v_r 7 0, v_i (nI i)] hm Q := by
  have h3 := P.2.2.1
  refine sd_e1 [] 60 (cd := cd_X9_endOf) (by decide) rfl (Nat.le_of_ble_eq_true rfl) ?_
  have e2 : nI i + 2 = nI (i + 2) := by rw [show (2 : Int32) = nI 2 from rfl, nI_add]
  refine sm_two (j := i + 2) (by omega) e2 ?_
  rw [P.two (by omega)]
  unfold rf_en at k
  rw [e2] at k
  exact k
theorem sm_partFault (P : PK hc hm sz g) (hi : i + 3 < sz) (k : Q (some (v_i (rf_pf hc (nI i)))) hm) : sd_E1 l y_X9_partFault [v_r 7 0, v_i (nI i)] hm Q := by
  have h3 := P.2.2.1
  have i3 : i < 300 := by omega
  have i4 : i + 1 < 300 := by omega
  have b0 : hm.1 19 0 i = pk_b hc (nI i) := by rw [P.m i3, P.b (by omega)]
  have b1 : hm.1 19 0 (i + 1) = rf_so hc (nI i) := by rw [P.m i4, (P.so (i := i) (by omega)).1]
  have hz : hm.1 7 0 2 = pk_s hc := by rw [P.2.1]; exact P.1.symm
  have ef : (pk_b hc (nI i) >>> 5 &&& 1 = 1) ↔ ¬ pk_b hc (nI i) &&& 32 = 0 := by
    rw [P.b (j := i) (by omega)]
    exact by_32 _ (P.lt (by omega))
  refine sd_e1 [106] 120 (cd := cd_X9_partFault) (by decide) rfl (Nat.le_of_ble_eq_true rfl) ?_
  refine ⟨i, ⟨i3, rfl⟩, ?_⟩
  unfold rf_pf at k
  refine ⟨fun (c : hm.1 19 0 i >>> 6 = 2) => ?_, fun (c : ¬ hm.1 19 0 i >>> 6 = 2) => ?_⟩
  rotate_left
  · rw [b0] at c; rw [if_neg c] at k; exact k
  rw [b0] at c; rw [if_pos c] at k
  refine sm_endOf P hi ?_
  refine ⟨fun (c2 : rf_en hc (nI i) ≤ hm.1 7 0 2) => ?_, fun (c2 : ¬ rf_en hc (nI i) ≤ hm.1 7 0 2) => ?_⟩
  rotate_left
  · rw [hz] at c2; rw [if_neg c2] at k; exact k
  rw [hz] at c2; rw [if_pos c2] at k
  refine ⟨i, ⟨i3, rfl⟩, i + 1, ⟨i4, nI_1 i⟩, ?_⟩
  have at138 : ∀ (x y : Int32), (x = 0 ↔ rf_fi hc (nI i) = 0) → Q (some (v_i (if rf_so hc (nI i) < 200 then 16 else if rf_so hc (nI i) ≤ 203 then (if rf_fi hc (nI i) = 0 then 0 else if pk_s hc ≤ rf_en hc (nI i) then 0 else 16) else 16))) hm → sd_Wq l none y_X9_partFault true Q 138 [some (v_r 7 0), some (v_i (nI i)), some (v_i (rf_en hc (nI i))), some (v_i (rf_ct hc (nI i))), some (v_i (rf_so hc (nI i))), some (v_i y), none] [v_i x] hm 0 0 := by
    intro x y hx k
    refine sd_go [] 60 (cd := cd_X9_partFault) (by decide) rfl ?_
    refine sm_in (lo := 200) (hi := 203) (by decide) (by decide) (fun c3 => ?_) (fun c3 => ?_)
    · refine ⟨fun _ => ?_, fun q => absurd rfl q⟩
      by_cases c4 : rf_so hc (nI i) < 200
      · rw [if_pos c4] at k; exact k
      · rw [if_neg c4, if_neg (fun q => c3 ⟨i_nlt c4, q⟩)] at k; exact k
    · rw [if_neg (Int32.not_lt.mpr c3.1), if_pos c3.2] at k
      refine ⟨fun q => absurd q (by decide), fun _ => ?_⟩
      refine ⟨fun (c4 : x = 0) => ?_, fun (c4 : ¬ x = 0) => ?_⟩
      · rw [if_pos (hx.mp c4)] at k; exact k
      · rw [if_neg (fun q => c4 (hx.mpr q))] at k
        refine ⟨fun (c5 : hm.1 7 0 2 ≤ rf_en hc (nI i)) => ?_, fun (c5 : ¬ hm.1 7 0 2 ≤ rf_en hc (nI i)) => ?_⟩
        · rw [hz] at c5; rw [if_pos c5] at k; exact k
        · rw [hz] at c5; rw [if_neg c5] at k; exact k
  have at106 : ∀ x : Int32, x = rf_ll (rf_so hc (nI i)) (rf_ct hc (nI i)) → sd_Wq l none y_X9_partFault true Q 106 [some (v_r 7 0), some (v_i (nI i)), some (v_i (rf_en hc (nI i))), some (v_i (rf_ct hc (nI i))), some (v_i (rf_so hc (nI i))), none, none] [v_i x] hm 0 0 := by
    intro x hx
    refine sd_go [138] 60 (cd := cd_X9_partFault) (by decide) rfl ?_
    refine ⟨fun (c3 : x ≤ rf_en hc (nI i) - nI i) => ?_, fun (c3 : ¬ x ≤ rf_en hc (nI i) - nI i) => ?_⟩
    rotate_left
    · rw [hx] at c3; rw [if_neg c3] at k; exact k
    rw [hx] at c3; rw [if_pos c3] at k
    refine ⟨i, ⟨i3, rfl⟩, ?_⟩
    refine ⟨fun (c4 : ¬ hm.1 19 0 i >>> 5 &&& 1 = 1) => ?_, fun (c4 : hm.1 19 0 i >>> 5 &&& 1 = 1) => ?_⟩
    · rw [b0, ef] at c4
      have c4 := Classical.not_not.mp c4
      exact at138 0 x (by unfold rf_fi; rw [if_pos c4]) k
    · rw [b0, ef] at c4
      exact at138 1 x (by unfold rf_fi; rw [if_neg c4]) k
  have ct0 : hm.1 19 0 i &&& 31 = rf_ct hc (nI i) := by rw [b0]; rfl
  rw [ct0, b1]
  unfold rf_ll at at106
  refine ⟨fun (c3 : ¬ rf_so hc (nI i) = 200) => ?_, fun (c3 : rf_so hc (nI i) = 200) => ?_⟩
  rotate_left
  · exact at106 _ (by rw [if_pos c3])
  rw [if_neg c3] at at106
  refine ⟨fun (c4 : ¬ rf_so hc (nI i) = 201) => ?_, fun (c4 : rf_so hc (nI i) = 201) => ?_⟩
  rotate_left
  · exact at106 _ (by rw [if_pos c4])
  rw [if_neg c4] at at106
  refine ⟨fun (c5 : ¬ rf_so hc (nI i) = 203) => ?_, fun (c5 : rf_so hc (nI i) = 203) => ?_⟩
  rotate_left
  · exact at106 _ (by rw [if_neg (fun q => absurd (c5.symm.trans q) (by decide)), if_pos c5])
  exact at106 _ (by rw [if_neg c5]; split <;> rfl)
theorem sq_mrf (P : PK hc hm sz g) (h4 : sz % 4 = 0) : ∀ (n i : Nat) (j2 : Option sd_V), i % 4 = 0 → sz ≤ i + 4 * n → i ≤ sz → Q (some (v_i (rf_lp hc n (nI i)))) hm → sd_Wq l none y_X9_reportFault true Q 59 [some (v_r 7 0), some (v_i (nI i)), j2] [] hm 0 0
  | 0, i, j2, hi, hn, hl, k => by
    have h3 := P.2.2.1
    refine sd_go [59] 60 (cd := cd_X9_reportFault) (by decide) rfl ?_
    refine ⟨fun _ => k, fun c => absurd ?_ c⟩
    show hm.1 7 0 2 ≤ nI i
    rw [P.2.1]; exact nI_le (by omega) (by omega)
  | n + 1, i, j2, hi, hn, hl, k => by
    have h3 := P.2.2.1
    refine sd_go [59] 60 (cd := cd_X9_reportFault) (by decide) rfl ?_
    unfold rf_lp at k
    rw [show pk_s hc = nI sz from P.1] at k
    refine ⟨fun (c : hm.1 7 0 2 ≤ nI i) => ?_, fun (c : ¬ hm.1 7 0 2 ≤ nI i) => ?_⟩
    · rw [P.2.1] at c; rw [if_pos c] at k; exact k
    rw [P.2.1] at c; rw [if_neg c] at k
    have c : i < sz := by
      rcases Nat.lt_or_ge i sz with q | q
      · exact q
      · exact absurd (nI_le q (by omega)) c
    have hi3 : i + 3 < sz := by omega
    refine sm_partFault P hi3 ?_
    refine ⟨fun (c2 : rf_pf hc (nI i) ≤ 0) => ?_, fun (c2 : ¬ rf_pf hc (nI i) ≤ 0) => ?_⟩
    · have z := pf_le c2
      rw [if_pos z] at k
      refine sm_endOf P hi3 ?_
      rw [(P.en hi3).1] at k ⊢
      obtain ⟨w1, w2⟩ := pf_0 P hi3 z
      exact sq_mrf P h4 n _ _ (enN_4 hi) (by unfold enN; omega) w1 k
    · rw [if_neg (fun q => c2 (by rw [q]; decide))] at k; exact k
theorem sm_reportFault (P : PK hc hm sz g) (k : Q (some (v_i (rf_fault hc))) hm) : sd_E1 l y_X9_reportFault [v_r 7 0] hm Q := by
  have h3 := P.2.2.1
  have hz : hm.1 7 0 2 = pk_s hc := by rw [P.2.1]; exact P.1.symm
  refine sd_e1 [59] 80 (cd := cd_X9_reportFault) (by decide) rfl (Nat.le_of_ble_eq_true rfl) ?_
  unfold rf_fault at k
  refine ⟨fun (c1 : hm.1 7 0 2 < 8) => ?_, fun (c1 : ¬ hm.1 7 0 2 < 8) => ?_⟩
  · rw [hz] at c1; rw [if_pos c1] at k; exact k
  rw [hz] at c1; rw [if_neg c1] at k
  refine ⟨by decide, ?_⟩
  refine ⟨fun (c2 : hm.1 7 0 2 - hm.1 7 0 2 / 4 * 4 = 0) => ?_, fun (c2 : ¬ hm.1 7 0 2 - hm.1 7 0 2 / 4 * 4 = 0) => ?_⟩
  rotate_left
  · rw [hz] at c2; rw [if_neg c2] at k; exact k
  rw [hz] at c2; rw [if_pos c2] at k
  have h8 : 8 ≤ sz := by
    rcases Nat.lt_or_ge sz 8 with q | q
    · exact absurd (show pk_s hc < 8 by rw [show pk_s hc = nI sz from P.1]; exact nI_lt (b := 8) q (by decide)) c1
    · exact q
  have c2 : nI (sz % 4) = nI 0 := by rw [← pk_rem (d := 4) (by omega) (by decide) (by decide), ← show pk_s hc = nI sz from P.1]; exact c2
  have c2 := (nI_eq (by omega) (by decide)).mp c2
  have so : hm.1 19 0 1 = rf_so hc 0 := by rw [P.m (by decide)]; exact ((P.so (i := 0) (by omega)).1).symm
  have ef : (hm.1 19 0 0 >>> 5 &&& 1 = 1) ↔ ¬ rf_fi hc 0 = 0 := by
    have b : pk_b hc 0 = nI (g 0) := P.b (j := 0) (by omega)
    unfold rf_fi
    rw [P.m (by decide), b, by_32 _ (P.lt (by omega))]
    by_cases q : nI (g 0) &&& 32 = 0
    · rw [if_pos q]; exact ⟨fun z => absurd q z, fun z => absurd rfl z⟩
    · rw [if_neg q]; exact ⟨fun _ => by decide, fun _ => q⟩
  refine ⟨1, ⟨by decide, rfl⟩, ?_⟩
  rw [so]
  have i201 : ∀ x : Int32, (200 ≤ x ∧ x ≤ 201) ↔ (x = 200 ∨ x = 201) := by
    intro x
    rw [Int32.le_iff_toInt_le, Int32.le_iff_toInt_le, ← Int32.toInt_inj, ← Int32.toInt_inj, show (200 : Int32).toInt = 200 from rfl, show (201 : Int32).toInt = 201 from rfl]
    omega
  have fin : (rf_so hc 0 = 200 ∨ rf_so hc 0 = 201) → Q (some (v_i (if rf_fi hc 0 = 0 then rf_lp hc 75 0 else 12))) hm := by
    intro z
    by_cases q : rf_so hc 0 = 200
    · rw [if_pos q] at k; exact k
    · rw [if_neg q, if_neg (fun y => y (z.resolve_left q))] at k; exact k
  refine sm_in (lo := 200) (hi := 201) (by decide) (by decide) (fun c3 => ?_) (fun c3 => ?_)
  · rw [i201] at c3
    rw [if_neg (fun q => c3 (Or.inl q)), if_pos (fun q => c3 (Or.inr q))] at k
    exact ⟨fun _ => k, fun q => absurd rfl q⟩
  · have k := fin ((i201 _).mp c3)
    refine ⟨fun q => absurd q (by decide), fun _ => ?_⟩
    refine ⟨0, ⟨by decide, rfl⟩, ?_⟩
    refine ⟨fun (c4 : ¬ hm.1 19 0 0 >>> 5 &&& 1 = 1) => ?_, fun (c4 : hm.1 19 0 0 >>> 5 &&& 1 = 1) => ?_⟩
    · rw [ef] at c4
      rw [if_pos (Classical.not_not.mp c4)] at k
      exact sq_mrf P c2 75 0 _ rfl (by omega) (by omega) k
    · rw [ef] at c4
      rw [if_neg c4] at k; exact k
end RF
