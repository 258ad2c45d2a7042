/-! a SENDER comes; the reference's take as a whole -/
section NW
variable {h : sd_H} {sn : Nat} {b q : Int32}
theorem dk_new_i {k : Nat} (hC : SC h sn) (hk : k ≠ sn) : CA h (dk_new h sn b q) k := by
  obtain ⟨s3, s4, s5, s6, s16, s17, s18, -⟩ := hC
  unfold CA
  refine ⟨?_, ?_, ?_, ?_, ?_, ?_, ?_, ?_⟩ <;> simp [dk_new, sn_new, pl_new, sd_pi, sd_pr, sd_nw, sd_ri, s3, s4, s5, s6, s16, s17, s18, hk]
theorem dk_new_n (hC : SC h sn) : (∀ i, (dk_new h sn b q).1 3 sn i = if i = 0 then b else 0) ∧ (dk_new h sn b q).1 4 sn = nb_new (fun _ => 0) q ∧ (∀ i, (dk_new h sn b q).1 5 sn i = 0) ∧ (∀ i, (dk_new h sn b q).1 6 sn i = if i = 1 then nI sn else 0) ∧ (∀ i, (dk_new h sn b q).2.1 6 sn i = 0) ∧ (∀ i, (dk_new h sn b q).1 16 sn i = 0) ∧ (∀ i, (dk_new h sn b q).1 18 sn i = 0) := by
  obtain ⟨s3, s4, s5, s6, s16, s17, s18, -⟩ := hC
  refine ⟨?_, ?_, ?_, ?_, ?_, ?_, ?_⟩
  · intro i; simp [dk_new, sn_new, pl_new, sd_pi, sd_pr, sd_nw, sd_ri, s3]
  · simp [dk_new, sn_new, pl_new, sd_pi, sd_pr, sd_nw, sd_ri, s4]
  · intro i; simp [dk_new, sn_new, pl_new, sd_pi, sd_pr, sd_nw, sd_ri, s5]
  · intro i; simp [dk_new, sn_new, pl_new, sd_pi, sd_pr, sd_nw, sd_ri, s6]
  · intro i; simp [dk_new, sn_new, pl_new, sd_pi, sd_pr, sd_nw, sd_ri, s6]
  · intro i; simp [dk_new, sn_new, pl_new, sd_pi, sd_pr, sd_nw, sd_ri, s16]
  · intro i; simp [dk_new, sn_new, pl_new, sd_pi, sd_pr, sd_nw, sd_ri, s18]
theorem dk_new_0 {i : Nat} (hi : i ≠ 5) : (dk_new h sn b q).1 0 0 i = h.1 0 0 i := by
  simp [dk_new, sn_new, pl_new, sd_pi, sd_pr, sd_nw, sd_ri, hi]
theorem dk_new_sn (hN : SN h sn) (hC : SC h sn) (h6 : sn < 6) : SN (dk_new h sn b q) (sn + 1) := by
  refine ⟨rfl, by omega, fun s hs => ?_⟩
  show (sd_pr (sn_new (sd_nw (pl_new (sd_nw h 6) (h.2.2.2 6) (nI sn)) 3) (h.2.2.2 3) b q (h.2.2.2 6)) 9 0 sn (some (h.2.2.2 3))).2.2.1 9 0 s = some s
  by_cases z : s = sn
  · rw [z, sd_pr_eq, hC.1]
  · rw [sd_pr_ne (fun y => z y.2.2)]
    exact hN.2.2 s (by omega)
theorem RR.new {hm hm' : sd_H} {sz nw e t : Nat} {g : Nat → Nat} (R : RR h hm sz g nw sn e t) (h6 : sn < 6) (hq : 0 ≤ q.toInt ∧ q.toInt < 65536) (f : Fx (PC0 sn) hm hm') (e21 : hm'.1 21 0 sn = b) (mn : MN hm' sn (nb_new (fun _ => 0) q)) (e8 : hm'.1 7 0 8 = nI (sn + 1)) : RR (dk_new h sn b q) hm' sz g nw (sn + 1) e t := by
  obtain ⟨r1, r2, r3, r4, r5, r6, r7, r8⟩ := R
  obtain ⟨a1, a2, a3, a4, a5, a6, a7, a8, a9, a10⟩ := r2
  have f7 : ∀ i, i ≠ 8 → hm'.1 7 0 i = hm.1 7 0 i := fun i hi => f.1 7 0 i (by unfold PC0; omega)
  have ma : ∀ s, s ≠ sn → MA hm hm' s := fun s hs => MA.fx f (fun T h1 h2 => by unfold PC0; omega) (fun T i h1 h2 h3 => by unfold PC0; omega) (fun i h1 h2 => by unfold PC0; omega)
  refine ⟨⟨r1.1, (f7 2 (by decide)).trans r1.2.1, r1.2.2.1, fun i hi => ?_⟩, ?_, dk_new_sn r3 r4 h6, dk_new_c r4, ?_, r6, fun s hs => ?_, fun s h1 h2 => (r8 s (by omega) h2).cg (ma s (by omega))⟩
  · rw [f.1 19 0 i (by unfold PC0; omega)]; exact r1.2.2.2 i hi
  · refine ⟨fun i hi => ?_, ⟨(f7 0 (by decide)).trans a2.1, ?_, a2.2.2⟩, ?_, ?_, ?_, ?_, ?_, ?_, fun i hi => ?_, e8⟩
    · rw [f.1 20 0 i (by unfold PC0; omega)]; exact a1 i hi
    · rw [dk_new_0 (by decide)]; exact a2.2.1
    · rw [dk_new_0 (by decide)]; exact (f7 1 (by decide)).trans a3
    · rw [dk_new_0 (by decide)]; exact (f7 32 (by decide)).trans a4
    · rw [dk_new_0 (by decide)]; exact (f7 33 (by decide)).trans a5
    · rw [dk_new_0 (by decide)]; exact (f7 34 (by decide)).trans a6
    · rw [dk_new_0 (by decide)]; exact (f7 39 (by decide)).trans a7
    · rw [dk_new_0 (by decide)]; exact (f7 38 (by decide)).trans a8
    · exact (f.1 45 0 i (by unfold PC0; omega)).trans (a9 i hi)
  · exact r5.cg rfl (fun _ => rfl) (fun _ => rfl) (fun _ => rfl) (fun _ => rfl) (f7 35 (by decide)) (fun j => f.2.1 44 0 j (by unfold PC0; omega))
  · by_cases z : s = sn
    · subst z
      obtain ⟨d3, d4, d5, d6, d6L, d16, d18⟩ := dk_new_n (b := b) (q := q) r4
      obtain ⟨z1, z2, z3⟩ := r8 s (Nat.le_refl _) h6
      have zi : ∀ T, 30 ≤ T → T ≤ 40 → hm'.1 T 0 s = 0 := fun T y1 y2 => (f.1 T 0 s (by unfold PC0; omega)).trans (z1 T y1 y2).1
      have zl : ∀ T, 30 ≤ T → T ≤ 40 → hm'.2.1 T 0 s = 0 := fun T y1 y2 => (f.2.1 T 0 s (by unfold PC0; omega)).trans (z1 T y1 y2).2
      have zw : ∀ k, k < 32 → hm'.1 41 0 (32 * s + k) = 0 := fun k hk => (f.1 41 0 _ (by unfold PC0; omega)).trans (z2 k hk)
      refine ⟨?_, ?_, ?_, ?_, ?_, ?_, ?_, ?_, ⟨?_, ?_, ?_, ?_, ?_, ?_, ?_, ?_, ?_, ?_, ?_⟩, ?_, ?_, ?_⟩
      · rw [e21, d3]; rfl
      · rw [d4]; exact mn
      · rw [d4]; exact nb_new_b hq
      · exact ⟨by rw [d5, zi 32 (by decide) (by decide)], by rw [d5, zi 31 (by decide) (by decide)], by rw [d5, zi 30 (by decide) (by decide)], Or.inl (d5 2)⟩
      · exact ⟨by rw [d3, zi 33 (by decide) (by decide)]; rfl, Or.inl (by rw [d3]; rfl)⟩
      · exact ⟨by rw [d3, zi 34 (by decide) (by decide)]; rfl, Or.inl (by rw [d3]; rfl)⟩
      · rw [d3, zi 35 (by decide) (by decide)]; rfl
      · rw [d3, zi 36 (by decide) (by decide)]; rfl
      · rw [d6]; rfl
      · rw [d6L, zl 38 (by decide) (by decide)]; rfl
      · intro k hk; rw [d18, if_neg (by omega), zw k hk]
      · intro k hk _ hw; exact absurd (zw k hk) hw
      · intro k hk; exact Or.inl (zw k hk)
      · rw [d6, wc_z _ _ (fun k hk => by rw [Nat.zero_add]; exact zw k (by omega))]; rfl
      · intro c c1 c5; rw [d16, f.1 43 0 _ (by unfold PC0; omega)]; exact z3 c (by omega)
      · rw [d6L, zl 39 (by decide) (by decide)]
      · rw [d6, zi 40 (by decide) (by decide)]; rfl
      · rw [zl 38 (by decide) (by decide)]; decide
      · rw [zl 38 (by decide) (by decide), show ((0 : Int64).toInt) = 0 from rfl]; omega
      · intro k hk hw; exact absurd (zw k hk) hw
      · rw [d4, zi 37 (by decide) (by decide), if_neg (show ¬ nb_new (fun _ => 0) q 4 = 0 from (show ¬ (2 : Int32) = 0 by decide))]
      · intro _; exact ⟨zl 38 (by decide) (by decide), zw⟩
    · exact (r7 s (by omega)).cg (dk_new_i r4 z) (ma s z) (Nat.le_refl _) (Nat.le_refl _)
end NW
section MTK
variable {l : Launch} {Q : Option sd_V → sd_H → Prop}
theorem sm_take {hc hm : sd_H} {sz nw sn e t : Nat} {g : Nat → Nat} (R : RR hc hm sz g nw sn e t) (ht : t ≤ 1000) (kf : ¬ dk_fault hc sn = 0 → ∀ hm', RR (sd_pi hc 0 0 10 (hc.1 0 0 10 + 1)) hm' sz g nw sn e (t + 1) → Fx PMo hm hm' → Q (some (v_i (-10 - dk_fault hc sn))) hm')
    (ky : dk_fault hc sn = 0 → ∀ (h1 : sd_H) (s sn' : Nat), ((dk_find hc (pk_4 hc 8) 0 sn = some s ∧ h1 = hc) ∨ (dk_find hc (pk_4 hc 8) 0 sn = none ∧ sn < 6 ∧ s = sn ∧ h1 = dk_new hc sn (pk_4 hc 8) (pk_2 hc 2))) → ∀ hm' e', RR (dk_take h1 s e).2 hm' sz g nw sn' e' (t + 1) → Fx PMo hm hm' → Q (some (v_i (dk_take h1 s e).1)) hm') : sd_E1 l y_X9_take [v_r 7 0] hm Q := by
  have R' := R
  obtain ⟨r1, r2, r3, r4, r5, r6, r7, r8⟩ := R
  obtain ⟨a1, a2, a3, a4, a5, a6, a7, a8, a9, a10⟩ := r2
  refine sd_e1 [86] 80 (cd := cd_X9_take) (by decide) rfl (Nat.le_of_ble_eq_true rfl) ?_
  refine sm_faultOf r1 a10 r3.2.1 (fun s hs => (r7 s hs).1) (fun i hi => (a1 i hi).1) (fun hm0 f0 v0 => ?_)
  have F0 : Fx PMo hm hm0 := f0.mono (fun T k i q => Or.inl q.1)
  have R0 : RR hc hm0 sz g nw sn e t := by
    have ma : ∀ s, MA hm hm0 s := fun s => MA.fx f0 (fun T h1 h2 => by omega) (fun T i h1 h2 h3 => by omega) (fun i h1 h2 => by omega)
    have f7 : ∀ i, ¬ (5 ≤ i ∧ i ≤ 7) → hm0.1 7 0 i = hm.1 7 0 i := fun i hi => f0.1 7 0 i (by omega)
    refine ⟨r1.fx f0 (by omega) (by omega), ⟨fun i hi => ?_, ⟨(f7 0 (by decide)).trans a2.1, a2.2⟩, (f7 1 (by decide)).trans a3, (f7 32 (by decide)).trans a4, (f7 33 (by decide)).trans a5, (f7 34 (by decide)).trans a6, (f7 39 (by decide)).trans a7, (f7 38 (by decide)).trans a8, fun i hi => ?_, (f7 8 (by decide)).trans a10⟩, r3, r4, r5.cg rfl (fun _ => rfl) (fun _ => rfl) (fun _ => rfl) (fun _ => rfl) (f7 35 (by decide)) (fun j => f0.2.1 44 0 j (by omega)), r6, fun s hs => (r7 s hs).cg .rf (ma s) (Nat.le_refl _) (Nat.le_refl _), fun s h1 h2 => (r8 s h1 h2).cg (ma s)⟩
    · rw [f0.1 20 0 i (by omega)]; exact a1 i hi
    · rw [f0.1 45 0 i (by omega)]; exact a9 i hi
  clear r1 r3 r4 r5 r6 r7 r8 a1 a2 a3 a4 a5 a6 a7 a8 a9 a10
  have R0' := R0
  obtain ⟨r1, r2, r3, r4, r5, r6, r7, r8⟩ := R0
  obtain ⟨a1, a2, a3, a4, a5, a6, a7, a8, a9, a10⟩ := r2
  refine ⟨fun (c1 : dk_fault hc sn ≤ 0) => ?_, fun (c1 : ¬ dk_fault hc sn ≤ 0) => ?_⟩
  rotate_left
  · have f2 : Fx (fun T _ i => T = 7 ∧ i = 34) hm0 (sd_pi hm0 7 0 34 (hm0.1 7 0 34 + 1)) := Fx.rf.pi ⟨rfl, rfl⟩
    have x2 : Fx (fun T _ i => T = 0 ∧ i = 10) hc (sd_pi hc 0 0 10 (hc.1 0 0 10 + 1)) := Fx.rf.pi ⟨rfl, rfl⟩
    have ma : ∀ s, MA hm0 (sd_pi hm0 7 0 34 (hm0.1 7 0 34 + 1)) s := fun s => MA.fx f2 (fun T h1 h2 => by omega) (fun T i h1 h2 h3 => by omega) (fun i h1 h2 => by omega)
    refine kf (fun z => c1 (by rw [z]; decide)) (sd_pi hm0 7 0 34 (hm0.1 7 0 34 + 1)) ?_ (F0.pi (Or.inl rfl))
    refine ⟨r1.cg x2 f2 (by omega) (by omega) (by omega) (by omega), ⟨a1, a2, a3, a4, a5, ?_, a7, a8, a9, a10⟩, r3.fx x2 (by omega), r4.fx x2, r5.cg rfl (fun _ => rfl) (fun _ => rfl) (fun _ => rfl) (fun _ => rfl) rfl (fun _ => rfl), by omega, fun s hs => (r7 s hs).cg (CA.fx x2 (fun T i h => by omega)) (ma s) (Nat.le_refl _) (by omega), fun s h1 h2 => (r8 s h1 h2).cg (ma s)⟩
    show hm0.1 7 0 34 + 1 = hc.1 0 0 10 + 1
    rw [a6]
  have c1 : dk_fault hc sn = 0 := by
    rcases dk_fault_c hc sn with ⟨e, z⟩ | ⟨e, z⟩
    · rw [e] at c1 ⊢
      rcases df_shape_c hc with q | q | q | q | q | q
      · exact q
      all_goals (rw [q] at c1; exact absurd c1 (by decide))
    · rcases z with q | q | q
      · exact q
      all_goals (rw [q] at c1; exact absurd c1 (by decide))
  have ky := ky c1
  have c0 : df_shape hc = 0 := by
    rcases dk_fault_c hc sn with ⟨e, z⟩ | ⟨e, z⟩
    · exact absurd (e.symm.trans c1) z
    · exact e
  obtain ⟨hsz, -⟩ := v0 c0
  have crt : ¬ dk_rt hc = 0 ∧ (sn < 6 ∨ ¬ dk_find hc (pk_4 hc 8) 0 sn = none) := by
    unfold dk_fault at c1
    rw [if_pos c0] at c1
    by_cases z : dk_rt hc = 0
    · rw [if_pos z] at c1; exact absurd c1 (by decide)
    · rw [if_neg z] at c1
      refine ⟨z, ?_⟩
      by_cases y : sn < 6
      · exact Or.inl y
      · rw [if_neg y] at c1
        by_cases x : dk_find hc (pk_4 hc 8) 0 sn = none
        · rw [if_pos x] at c1; exact absurd c1 (by decide)
        · exact Or.inr x
  obtain ⟨s1, s2, s3⟩ := r1.sort hsz
  have hrt0 : 0 < dk_rt hc := by
    have := (a1 (g 1 % 128) (by omega)).2
    rw [← s3] at this
    have nz : ¬ (dk_rt hc).toInt = 0 := fun z => crt.1 (i_z.mpr z)
    rw [Int32.lt_iff_toInt_lt]
    show (0 : Int) < _
    omega
  refine sm_four (j := 8) (by decide) rfl ?_
  refine sm_two (j := 2) (by decide) rfl ?_
  refine sm_four (j := 4) (by decide) rfl ?_
  have g8 : m4 hm0 8 = pk_4 hc 8 := r1.four (j := 8) (by omega)
  have g4' : m4 hm0 4 = pk_4 hc 4 := r1.four (j := 4) (by omega)
  have g2' : m2 hm0 2 = pk_2 hc 2 := r1.two (j := 2) (by omega)
  rw [g8, g4', g2']
  refine ⟨1, ⟨show 1 < 300 by decide, rfl⟩, g 1 % 128, ⟨show g 1 % 128 < 128 by omega, s2⟩, ?_⟩
  have er : hm0.1 20 0 (g 1 % 128) = dk_rt hc := by rw [s3]; exact (a1 _ (by omega)).1
  rw [er]
  have hqb : 0 ≤ (pk_2 hc 2).toInt ∧ (pk_2 hc 2).toInt < 65536 := by
    rw [show (2 : Int32) = nI 2 from rfl]
    obtain ⟨b, b1, b2, -⟩ := r1.h0 (j := 2) (by omega)
    rw [b2, nI_toInt (by omega)]; omega
  refine sm_senderOf (hc := hc) (sn := sn) a10 r3.2.1 (fun s hs => (r7 s hs).1) ?_
  have hfl : ∀ s, dk_find hc (pk_4 hc 8) 0 sn = some s → s < 6 := fun s q => by have := dk_find_lt _ _ _ q; have := r3.2.1; omega
  show (¬ m_o (dk_find hc (pk_4 hc 8) 0 sn) = -1 → _) ∧ (m_o (dk_find hc (pk_4 hc 8) 0 sn) = -1 → _)
  cases hf : dk_find hc (pk_4 hc 8) 0 sn with
  | some s =>
    rw [hf] at hfl
    refine ⟨fun _ => ?_, fun c => absurd ((m_o_n hfl).mp c) (by intro z; cases z)⟩
    have hs : s < sn := by have := dk_find_lt _ _ _ hf; omega
    exact sq_take86 (h1 := hc) (s := s) R0' hs ht hsz rfl rfl rfl hrt0 (fun hm' e' rr f => ky hc s sn (Or.inl ⟨hf, rfl⟩) hm' e' rr (F0.tr f))
  | none =>
    have h6 : sn < 6 := by
      rcases crt.2 with z | z
      · exact z
      · exact absurd hf z
    refine ⟨fun c => absurd rfl c, fun _ => ?_⟩
    refine sm_comes (sn := sn) a10 h6 (fun hm1 f1 e21 mn e8 => ?_)
    have R1 := RR.new R0' h6 hqb f1 e21 mn e8
    refine sq_take86 (h1 := dk_new hc sn (pk_4 hc 8) (pk_2 hc 2)) (s := sn) R1 (by omega) ht hsz rfl rfl rfl hrt0 (fun hm' e' rr f => ky _ sn (sn + 1) (Or.inr ⟨hf, h6, rfl, rfl⟩) hm' e' rr ((F0.tr (f1.mono (fun T k i q => ?_))).tr f))
    unfold PC0 at q; unfold PMo; omega
end MTK
