/-! the reference: putBlock, report -/
def PBc (s T k _i : Nat) : Prop := T = 1 ∨ T = 11 ∨ (T = 4 ∧ k = s)
def PBm (s T _k i : Nat) : Prop := (T = 7 ∧ i = 2) ∨ T = 19 ∨ ((T = 28 ∨ T = 29) ∧ i = s)
theorem i_64 {x : Int32} : x.toInt64 = 0 ↔ x = 0 := by
  rw [i_z, ← Int32.toInt_toInt64]
  constructor
  · intro q; rw [q]; rfl
  · intro q; exact Int64.toInt_inj.mp q
theorem i_ff (x : Int32) : x &&& 255 &&& 255 = x &&& 255 := by
  rw [Int32.and_assoc]; rfl
section FR
variable {f : Nat → Int32} {t : Nat}
theorem nb_due_i (b : NBd f t) (ht : t ≤ 1000) : (nb_due f).toInt = (f 1).toInt + (f 0).toInt - (f 2).toInt + 1 := by
  unfold NBd at b
  have e1 : (1 : Int32).toInt = 1 := rfl
  have a1 : (f 1 + f 0).toInt = (f 1).toInt + (f 0).toInt := i_addI (by omega) (by omega)
  have a2 : (f 1 + f 0 - f 2).toInt = (f 1).toInt + (f 0).toInt - (f 2).toInt := by rw [i_subI (by omega) (by omega), a1]
  unfold nb_due
  rw [i_addI (by omega) (by omega), a2, e1]
theorem NBd.tf (b : NBd f t) (ht : t ≤ 1000) : NBd (nb_tf f) t := by
  have e := nb_due_i b ht
  show (0 ≤ (f 0).toInt ∧ (f 0).toInt < 65536) ∧ (0 ≤ (f 1).toInt ∧ (f 1).toInt ≤ 65536 * t) ∧ (0 ≤ (f 2).toInt ∧ (f 2).toInt < 65536) ∧ (0 ≤ (f 4).toInt ∧ (f 4).toInt ≤ 2) ∧ (0 ≤ (f 5).toInt ∧ (f 5).toInt ≤ t) ∧ (0 ≤ (f 5).toInt ∧ (f 5).toInt ≤ t) ∧ -65536 ≤ (nb_due f).toInt ∧ (nb_due f).toInt ≤ 65536 * (t + 1)
  unfold NBd at b
  omega
theorem nb_dif (b : NBd f t) (ht : t ≤ 1000) : (nb_due f - f 7 - (f 5 - f 6)).toInt64 = (nb_due f - f 7).toInt64 - (f 5 - f 6).toInt64 := by
  have e := nb_due_i b ht
  unfold NBd at b
  have a1 : (nb_due f - f 7).toInt = (nb_due f).toInt - (f 7).toInt := i_subI (by omega) (by omega)
  have a2 : (f 5 - f 6).toInt = (f 5).toInt - (f 6).toInt := i_subI (by omega) (by omega)
  have a3 : (nb_due f - f 7 - (f 5 - f 6)).toInt = (nb_due f - f 7).toInt - (f 5 - f 6).toInt := i_subI (by omega) (by omega)
  apply Int64.toInt_inj.mp
  rw [Int32.toInt_toInt64, Int64.toInt_sub, Int32.toInt_toInt64, Int32.toInt_toInt64, a3, Int.bmod_eq_of_le (by omega) (by omega)]
theorem i_64p {x : Int32} : 0 < x.toInt64 ↔ 0 < x := by
  rw [Int64.lt_iff_toInt_lt, Int32.lt_iff_toInt_lt, Int32.toInt_toInt64]; rfl
end FR
section PB
variable {hc hm : sd_H} {sz nw sn e t s : Nat} {g : Nat → Nat}
theorem RR.blk {hc' hm' : sd_H} {sz' : Nat} {g' : Nat → Nat} (R : RR hc hm sz g nw sn e t) (ht : t ≤ 1000) (hs : s < sn) (x : Fx (PBc s) hc hc') (z : Fx (PBm s) hm hm') (p : PK hc' hm' sz' g') (e4 : hc'.1 4 s = nb_tf (hc.1 4 s)) (m4 : MN hm' s (nb_tf (hc.1 4 s))) : RR hc' hm' sz' g' nw sn e t := by
  obtain ⟨r1, r2, r3, r4, r5, r6, r7, r8⟩ := R
  have ma : ∀ s', s' ≠ s → MA hm hm' s' := fun s' hs' => MA.fx z (fun T h1 h2 => by unfold PBm; omega) (fun T i h1 h2 h3 => by unfold PBm; omega) (fun i h1 h2 => by unfold PBm; omega)
  have ca : ∀ s', s' ≠ s → CA hc hc' s' := fun s' hs' => CA.fx x (fun T i h => by unfold PBc; omega)
  refine ⟨p, r2.fx x z (fun T i h => by unfold PBc; omega) (fun i => by unfold PBm; omega) (fun i => by unfold PBm; omega) (fun i h => by unfold PBm; omega), r3.fx x (by unfold PBc; omega), r4.fx x, r5.cg (x.1 2 0 4 (by unfold PBc; omega)) (fun j => x.1 12 0 j (by unfold PBc; omega)) (fun j => x.1 13 0 j (by unfold PBc; omega)) (fun j => x.2.1 14 0 j (by unfold PBc; omega)) (fun j => x.1 15 0 j (by unfold PBc; omega)) (z.1 7 0 35 (by unfold PBm; omega)) (fun j => z.2.1 44 0 j (by unfold PBm; omega)), r6, fun s' hs' => ?_, fun s' h1 h2 => (r8 s' h1 h2).cg (ma s' (by omega))⟩
  by_cases q : s' = s
  · subst q
    obtain ⟨t1, t2, t3, t4, t5, t6, t7, t8, t9, t10, t11, t12⟩ := r7 s' hs'
    have c3 : hc'.1 3 s' = hc.1 3 s' := funext fun i => x.1 3 s' i (by unfold PBc; omega)
    have c5 : hc'.1 5 s' = hc.1 5 s' := funext fun i => x.1 5 s' i (by unfold PBc; omega)
    have mi : ∀ T, (T = 21 ∨ (30 ≤ T ∧ T ≤ 40)) → hm'.1 T 0 s' = hm.1 T 0 s' := fun T h => z.1 T 0 s' (by unfold PBm; omega)
    have ml : ∀ T, 38 ≤ T → T ≤ 40 → hm'.2.1 T 0 s' = hm.2.1 T 0 s' := fun T h1 h2 => z.2.1 T 0 s' (by unfold PBm; omega)
    have cp : CP hc hc' s' := CP.fx x (fun T i h => by unfold PBc; omega)
    have mp : MP hm hm' s' := MP.fx z (fun T h1 h2 => by unfold PBm; omega) (fun T i h1 h2 h3 => by unfold PBm; omega) (fun i h1 h2 => by unfold PBm; omega)
    refine ⟨?_, by rw [e4]; exact m4, by rw [e4]; exact t3.tf ht, ?_, ?_, ?_, ?_, ?_, t9.cg cp mp (Nat.le_refl _), ?_, ?_, ?_⟩
    · rw [c3, mi 21 (by omega)]; exact t1
    · obtain ⟨j1, j2, j3, j4⟩ := t4
      rw [c5]
      exact ⟨(mi 32 (by omega)).trans j1, (mi 31 (by omega)).trans j2, (mi 30 (by omega)).trans j3, j4⟩
    · rw [c3, mi 33 (by omega)]; exact t5
    · rw [c3, mi 34 (by omega)]; exact t6
    · rw [c3, mi 35 (by omega)]; exact t7
    · rw [c3, mi 36 (by omega)]; exact t8
    · intro k hk; rw [(mp.2.2.2.1 k hk).1, (mp.2.2.2.1 k hk).2]; exact t10 k hk
    · rw [e4, mi 37 (by omega)]; exact t11
    · rw [e4, ml 38 (by omega) (by omega)]
      intro q
      exact ⟨(t12 q).1, fun k hk => by rw [(mp.2.2.2.1 k hk).1]; exact (t12 q).2 k hk⟩
  · exact (r7 s' hs').cg (ca s' q) (ma s' q) (Nat.le_refl _) (Nat.le_refl _)
theorem sn_b3_fx {nwi : Int32} : Fx (PBc s) hc (sn_b3 hc s sz nwi) := by
  have p1 : PBc s 1 0 1 := Or.inl rfl
  have p2 : ∀ i, PBc s 11 0 i := fun i => Or.inr (Or.inl rfl)
  unfold sn_b3 sn_b2 sn_b1
  exact pk_app_fx p1 p2 _ _ _ (pk_app_fx p1 p2 _ _ _ (pk_app_fx p1 p2 _ _ _ (pk_app_fx p1 p2 _ _ _ (pk_app_fx p1 p2 _ _ _ (pk_app_fx p1 p2 _ _ _ ((pk_app_fx p1 p2 _ _ _ Fx.rf).ri (fun i => Or.inr (Or.inr ⟨rfl, rfl⟩))))))))
variable {l : Launch} {Q : Option sd_V → sd_H → Prop}
theorem sm_putBlock (R : RR hc hm sz g nw sn e t) (ht : t ≤ 1000) (hs : s < sn) (hz : sz + 24 ≤ 300) (k : ∀ hm' g', RR (sn_b3 hc s sz (nI nw)) hm' (sz + 24) g' nw sn e t → Fx PMo hm hm' → Q none hm') : sd_E1 l y_X9_putBlock [v_r 7 0, v_i (nI s)] hm Q := by
  have R' := R
  obtain ⟨r1, r2, r3, r4, r5, r6, r7, r8⟩ := R
  have s6 : s < 6 := by have := r3.2.1; omega
  obtain ⟨t1, t2, t3, t4, t5, t6, t7, t8, t9, t10, t11, t12⟩ := r7 s hs
  have m5 : hm.1 27 0 s = hc.1 4 s 5 := t2 5 (by decide)
  have m6 : hm.1 28 0 s = hc.1 4 s 6 := t2 6 (by decide)
  have m7 : hm.1 29 0 s = hc.1 4 s 7 := t2 7 (by decide)
  refine sd_e1 [87, 151, 190] 120 (cd := cd_X9_putBlock) (by decide) rfl (Nat.le_of_ble_eq_true rfl) ?_
  refine sm_dueOf s6 t2 ?_
  refine ⟨s, ⟨s6, rfl⟩, s, ⟨s6, rfl⟩, s, ⟨s6, rfl⟩, s, ⟨s6, rfl⟩, s, ⟨s6, rfl⟩, s, ⟨s6, rfl⟩, s, ⟨s6, rfl⟩, ?_⟩
  have eg : (sd_pi hm 29 0 s (nb_due (hc.1 4 s))).1 27 0 s = hc.1 4 s 5 := by rw [sd_pi_ne (by omega)]; exact m5
  show sd_E1 l y_X9_putAll [v_r 7 0, v_i ((sd_pi (sd_pi hm 29 0 s (nb_due (hc.1 4 s))) 28 0 s ((sd_pi hm 29 0 s (nb_due (hc.1 4 s))).1 27 0 s)).1 21 0 s), v_i (nI 4)] (sd_pi (sd_pi hm 29 0 s (nb_due (hc.1 4 s))) 28 0 s ((sd_pi hm 29 0 s (nb_due (hc.1 4 s))).1 27 0 s)) _
  rw [eg, m5, m6, m7]
  have n0 : MN (sd_pi (sd_pi hm 29 0 s (nb_due (hc.1 4 s))) 28 0 s (hc.1 4 s 5)) s (nb_tf (hc.1 4 s)) := (t2.pi (j := 7) (by decide)).pi (j := 6) (by decide)
  have f0 : Fx (PBm s) hm (sd_pi (sd_pi hm 29 0 s (nb_due (hc.1 4 s))) 28 0 s (hc.1 4 s 5)) := (Fx.rf.pi (Or.inr (Or.inr ⟨Or.inr rfl, rfl⟩))).pi (Or.inr (Or.inr ⟨Or.inl rfl, rfl⟩))
  have f00 : Fx (fun T _ i => (T = 28 ∨ T = 29) ∧ i = s) hm (sd_pi (sd_pi hm 29 0 s (nb_due (hc.1 4 s))) 28 0 s (hc.1 4 s 5)) := (Fx.rf.pi ⟨Or.inr rfl, rfl⟩).pi ⟨Or.inl rfl, rfl⟩
  have p0 := r1.fx f00 (by omega) (fun i => by omega)
  generalize sd_pi (sd_pi hm 29 0 s (nb_due (hc.1 4 s))) 28 0 s (hc.1 4 s 5) = m0 at n0 f0 f00 p0 ⊢
  clear f00
  have q1 : PKm 7 0 2 := Or.inl ⟨rfl, rfl⟩
  have q2 : ∀ i, PKm 19 0 i := fun i => Or.inr rfl
  have rd : ∀ hx : sd_H, Fx PKm m0 hx → (MN hx s (nb_tf (hc.1 4 s)) ∧ hx.1 21 0 s = hc.1 3 s 0 ∧ hx.1 32 0 s = hc.1 5 s 0 ∧ hx.1 34 0 s = hc.1 3 s 5 ∧ hx.1 35 0 s = hc.1 3 s 6 ∧ hx.1 36 0 s = hc.1 3 s 7 ∧ hx.1 7 0 0 = nI nw) := by
    intro hx fx
    refine ⟨fun i hi => by rw [fx.1 _ _ _ (by unfold PKm; omega)]; exact n0 i hi, ?_, ?_, ?_, ?_, ?_, ?_⟩
    · rw [fx.1 _ _ _ (by unfold PKm; omega), f0.1 _ _ _ (by unfold PBm; omega)]; exact t1
    · rw [fx.1 _ _ _ (by unfold PKm; omega), f0.1 _ _ _ (by unfold PBm; omega)]; exact t4.1
    · rw [fx.1 _ _ _ (by unfold PKm; omega), f0.1 _ _ _ (by unfold PBm; omega)]; exact t6.1
    · rw [fx.1 _ _ _ (by unfold PKm; omega), f0.1 _ _ _ (by unfold PBm; omega)]; exact t7
    · rw [fx.1 _ _ _ (by unfold PKm; omega), f0.1 _ _ _ (by unfold PBm; omega)]; exact t8
    · rw [fx.1 _ _ _ (by unfold PKm; omega), f0.1 _ _ _ (by unfold PBm; omega)]; exact r2.2.1.1
  rw [(rd m0 .rf).2.1]
  refine sm_putAll (m := 4) (sz := sz) p0.2.1 (by omega) ?_
  obtain ⟨g1, p1⟩ := PK.app (v := (hc.1 3 s 0).toInt64) (b := mb (hc.1 3 s 0)) 4 hc m0 sz g p0 (by omega) (fun k hk => ab_mbI _ hk)
  have x1 : Fx PKm m0 (mp_all (mb (hc.1 3 s 0)) 4 m0 sz) := mp_all_fx q1 q2 _ _ _ .rf
  generalize mp_all (mb (hc.1 3 s 0)) 4 m0 sz = h1 at p1 x1 ⊢
  have p1 : PK (sd_ri (pk_app (hc.1 3 s 0).toInt64 4 hc sz) 4 s (nb_tf (hc.1 4 s))) h1 (sz + 4) g1 := p1.cg (P := fun T _ _ => T = 4) (P' := fun _ _ _ => False) (Fx.rf.ri (fun _ => rfl)) .rf (by omega) (fun i => by omega) id (fun _ => id)
  have at190 : ∀ (h7 : sd_H) (x : Int32) (g7 : Nat → Nat) (lx : List (Option sd_V)), lx.length = 5 → Fx PKm m0 h7 → x = (sn_since hc s (nI nw)).toInt32 → PK (pk_app (sn_last hc s) 4 (pk_app (hc.1 5 s 0 >>> 4).toInt64 4 (sn_b2 hc s sz) (sz + 12)) (sz + 16)) h7 (sz + 20) g7 → sd_Wq l none y_X9_putBlock true Q 190 lx [v_i x, v_r 7 0] h7 0 0 := by
    intro h7 x g7 lx hlx x7 ex p7
    refine sd_go [] 120 (cd := cd_X9_putBlock) (by decide) rfl ?_
    refine sm_putAll (m := 4) (sz := sz + 20) p7.2.1 (by omega) ?_
    obtain ⟨g8, p8⟩ := PK.app (v := sn_since hc s (nI nw)) (b := mb x) 4 _ h7 _ _ p7 (by omega) (fun k hk => by rw [ex]; exact ab_mb _ k hk)
    have x8 : Fx PKm m0 (mp_all (mb x) 4 h7 (sz + 20)) := mp_all_fx q1 q2 _ _ _ x7
    refine k _ g8 ?_ ?_
    · refine R'.blk ht hs sn_b3_fx (f0.tr (x8.mono (fun T k i q => by unfold PKm at q; unfold PBm; omega))) p8 ?_ (rd _ x8).1
      unfold sn_b3 sn_b2
      rw [pk_app_T (by decide) (by decide), pk_app_T (by decide) (by decide), pk_app_T (by decide) (by decide), pk_app_T (by decide) (by decide), pk_app_T (by decide) (by decide)]
      exact sn_b1_4
    · exact (f0.mono (fun T k i q => by unfold PBm at q; unfold PMo; omega)).tr (x8.mono (fun T k i q => by unfold PKm at q; unfold PMo; omega))
  have at151 : ∀ (h5 : sd_H) (x : Int32) (g5 : Nat → Nat) (lx : List (Option sd_V)), lx = [some (v_r 7 0), some (v_i (nI s)), lx.getD 2 none, lx.getD 3 none, lx.getD 4 none] → Fx PKm m0 h5 → x = (sn_last hc s).toInt32 → PK (pk_app (hc.1 5 s 0 >>> 4).toInt64 4 (sn_b2 hc s sz) (sz + 12)) h5 (sz + 16) g5 → sd_Wq l none y_X9_putBlock true Q 151 lx [v_i x, v_r 7 0] h5 0 0 := by
    intro h5 x g5 lx hlx x5 ex p5
    rw [hlx]
    refine sd_go [190] 120 (cd := cd_X9_putBlock) (by decide) rfl ?_
    refine sm_putAll (m := 4) (sz := sz + 16) p5.2.1 (by omega) ?_
    obtain ⟨g6, p6⟩ := PK.app (v := sn_last hc s) (b := mb x) 4 _ h5 _ _ p5 (by omega) (fun k hk => by rw [ex]; exact ab_mb _ k hk)
    have x6 : Fx PKm m0 (mp_all (mb x) 4 h5 (sz + 16)) := mp_all_fx q1 q2 _ _ _ x5
    generalize mp_all (mb x) 4 h5 (sz + 16) = h6 at p6 x6 ⊢
    obtain ⟨u1, u2, u3, u4, u5, u6, u7⟩ := rd h6 x6
    refine ⟨s, ⟨s6, rfl⟩, fun (c : h6.1 34 0 s = 0) => ?_, fun (c : ¬ h6.1 34 0 s = 0) => ?_⟩
    · rw [u4] at c
      refine at190 h6 0 g6 _ rfl x6 ?_ p6
      unfold sn_since; rw [if_pos c]; rfl
    · rw [u4] at c
      refine ⟨s, ⟨s6, rfl⟩, by decide, ?_⟩
      refine at190 h6 _ g6 _ rfl x6 ?_ p6
      unfold sn_since; rw [if_neg c, u6, u7]
  have at87 : ∀ (x : Int32) (lx : List (Option sd_V)), lx = [some (v_r 7 0), some (v_i (nI s)), lx.getD 2 none, lx.getD 3 none, lx.getD 4 none] → x &&& 255 = nb_frac (hc.1 4 s) &&& 255 → sd_Wq l none y_X9_putBlock true Q 87 lx [v_i x, v_r 7 0] h1 0 0 := by
    intro x lx hlx ex
    rw [hlx]
    refine sd_go [151, 190] 120 (cd := cd_X9_putBlock) (by decide) rfl ?_
    refine sm_put (sz := sz + 4) p1.2.1 (by omega) ?_
    obtain ⟨g2, p2⟩ := PK.app (v := (nb_frac (hc.1 4 s)).toInt64) (b := fun _ => x &&& 255) 1 _ h1 _ _ p1 (by omega) (fun k hk => by rw [show k = 0 by omega, ab_mbI _ (by omega), mb_0]; exact ex.symm)
    have x2 : Fx PKm m0 (mp_all (fun _ => x &&& 255) 1 h1 (sz + 4)) := mp_all_fx q1 q2 _ _ _ x1
    have p2 : PK (sn_b1 hc s sz) (mp_all (fun _ => x &&& 255) 1 h1 (sz + 4)) (sz + 5) g2 := p2
    show sd_E1 l y_X9_lostOf [v_r 7 0, v_i (nI s)] (mp_all (fun _ => x &&& 255) 1 h1 (sz + 4)) _
    generalize mp_all (fun _ => x &&& 255) 1 h1 (sz + 4) = h2 at p2 x2 ⊢
    refine sm_lostOf s6 (rd h2 x2).1 ?_
    refine sm_putAll (m := 3) (sz := sz + 5) p2.2.1 (by omega) ?_
    have el : nb_lost (nb_tf (hc.1 4 s)) = nb_lost (hc.1 4 s) := rfl
    rw [el]
    obtain ⟨g3, p3⟩ := PK.app (v := (nb_lost (hc.1 4 s)).toInt64) (b := mb (nb_lost (hc.1 4 s))) 3 _ h2 _ _ p2 (by omega) (fun k hk => ab_mbI _ (by omega))
    have x3 : Fx PKm m0 (mp_all (mb (nb_lost (hc.1 4 s))) 3 h2 (sz + 5)) := mp_all_fx q1 q2 _ _ _ x2
    generalize mp_all (mb (nb_lost (hc.1 4 s))) 3 h2 (sz + 5) = h3 at p3 x3 ⊢
    refine ⟨s, ⟨s6, rfl⟩, s, ⟨s6, rfl⟩, ?_⟩
    have u0 : h3.1 22 0 s = hc.1 4 s 0 := (rd h3 x3).1 0 (by decide)
    have u1 : h3.1 23 0 s = hc.1 4 s 1 := (rd h3 x3).1 1 (by decide)
    show sd_E1 l y_X9_putAll [v_r 7 0, v_i (h3.1 23 0 s + h3.1 22 0 s), v_i (nI 4)] h3 _
    rw [u0, u1]
    refine sm_putAll (m := 4) (sz := sz + 8) p3.2.1 (by omega) ?_
    obtain ⟨g4, p4⟩ := PK.app (v := (hc.1 4 s 1 + hc.1 4 s 0).toInt64) (b := mb (hc.1 4 s 1 + hc.1 4 s 0)) 4 _ h3 _ _ p3 (by omega) (fun k hk => ab_mbI _ (by omega))
    have x4 : Fx PKm m0 (mp_all (mb (hc.1 4 s 1 + hc.1 4 s 0)) 4 h3 (sz + 8)) := mp_all_fx q1 q2 _ _ _ x3
    have p4 : PK (sn_b2 hc s sz) (mp_all (mb (hc.1 4 s 1 + hc.1 4 s 0)) 4 h3 (sz + 8)) (sz + 12) g4 := p4
    generalize mp_all (mb (hc.1 4 s 1 + hc.1 4 s 0)) 4 h3 (sz + 8) = h4 at p4 x4 ⊢
    refine ⟨s, ⟨s6, rfl⟩, ?_⟩
    show sd_E1 l y_X9_putAll [v_r 7 0, v_i (h4.1 32 0 s >>> 4), v_i (nI 4)] h4 _
    rw [(rd h4 x4).2.2.1]
    refine sm_putAll (m := 4) (sz := sz + 12) p4.2.1 (by omega) ?_
    obtain ⟨g5, p5⟩ := PK.app (v := (hc.1 5 s 0 >>> 4).toInt64) (b := mb (hc.1 5 s 0 >>> 4)) 4 _ h4 _ _ p4 (by omega) (fun k hk => ab_mbI _ (by omega))
    have x5 : Fx PKm m0 (mp_all (mb (hc.1 5 s 0 >>> 4)) 4 h4 (sz + 12)) := mp_all_fx q1 q2 _ _ _ x4
    generalize mp_all (mb (hc.1 5 s 0 >>> 4)) 4 h4 (sz + 12) = h5 at p5 x5 ⊢
    obtain ⟨u1, u2, u3, u4, u5, u6, u7⟩ := rd h5 x5
    refine ⟨s, ⟨s6, rfl⟩, fun (c : h5.1 34 0 s = 0) => ?_, fun (c : ¬ h5.1 34 0 s = 0) => ?_⟩
    · rw [u4] at c
      refine at151 h5 0 g5 _ rfl x5 ?_ p5
      unfold sn_last; rw [if_pos c]; rfl
    · rw [u4] at c
      refine ⟨s, ⟨s6, rfl⟩, ?_⟩
      refine at151 h5 _ g5 _ rfl x5 ?_ p5
      unfold sn_last; rw [if_neg c, u5, Int32.toInt32_toInt64]
  have ed := nb_dif t3 ht
  refine ⟨fun (c : nb_due (hc.1 4 s) - hc.1 4 s 7 = 0) => ?_, fun (c : ¬ nb_due (hc.1 4 s) - hc.1 4 s 7 = 0) => ?_⟩
  · refine at87 0 _ rfl ?_
    unfold nb_frac; rw [if_pos (i_64.mpr c)]
  refine ⟨fun (c2 : 0 < nb_due (hc.1 4 s) - hc.1 4 s 7 - (hc.1 4 s 5 - hc.1 4 s 6)) => ?_, fun (c2 : ¬ 0 < nb_due (hc.1 4 s) - hc.1 4 s 7 - (hc.1 4 s 5 - hc.1 4 s 6)) => ?_⟩
  · refine ⟨fun q => c (i_64.mp q), ?_⟩
    refine at87 _ _ rfl ?_
    unfold nb_frac; rw [if_neg (fun q => c (i_64.mp q)), ← ed, if_neg (fun q => q (i_64p.mpr c2)), i_ff]
  · refine at87 0 _ rfl ?_
    unfold nb_frac; rw [if_neg (fun q => c (i_64.mp q)), ← ed, if_pos (fun q => c2 (i_64p.mp q))]
end PB
