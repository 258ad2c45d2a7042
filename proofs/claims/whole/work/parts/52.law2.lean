/-! the law's other calls -/
section LW
variable {l : Launch} {L : Nat} {xs : Nat → Int32} {i t : Nat} {h : sd_H} {sz nw sn e cs ss : Nat} {g : Nat → Nat}
theorem l_5 (K : KT l L xs i t) (R : RR h h sz g nw sn e t) (ht : t ≤ 512) (c1 : cs ≤ 40 + 7 * t) (c2 : ss ≤ 3000 + 100 * t) (hi : i + 3 < L) (hL : L ≤ 2048) : sd_Wq l (some (L, xs)) y_L_law true lw_Qr 285 (lw_S i) [] h cs ss := by
  have he := R.2.2.2.2.2.1
  refine sd_go [618] 60 (cd := cd_L_law) (by decide) rfl ?_
  refine ⟨⟨show cs + 7 ≤ 600000 by omega, show ss + 100 ≤ 7302250 by omega⟩, ?_⟩
  refine sp_take R.2.2.1 R.2.2.2.1 R.2.2.2.2.1.1 (by omega) (fun q => ?_) (fun q h1 s cs1 => ?_)
  · have R1 := R.mo (CO.of (Fx.rf.pi (T := 0) (k := 0) (i := 10) (v := h.1 0 0 10 + 1) (show PCl 0 0 10 by unfold PCl; omega)))
    refine sm_take R1 (by omega) (fun _ hm' R2 f2 => ?_) (fun z => absurd z q)
    exact ⟨fun _ => K.to R2 f2 (by omega) (by omega), fun z => absurd rfl z⟩
  · have co : CO h (dk_take h1 s e).2 := by
      rcases cs1 with ⟨_, rfl⟩ | ⟨_, _, _, rfl⟩
      · exact CO.of dk_take_cl
      · exact dk_new_co.tr (CO.of dk_take_cl)
    have R1 := R.mo co
    refine sm_take R1 (by omega) (fun z => absurd q z) (fun _ h1' s' sn' cs2 hm' e' R2 f2 => ?_)
    have es : s' = s ∧ h1' = h1 := by
      rcases cs1 with ⟨x1, x2⟩ | ⟨x1, x2, x3, x4⟩
      · rcases cs2 with ⟨y1, y2⟩ | ⟨y1, y2, y3, y4⟩
        · rw [x1] at y1
          exact ⟨(Option.some.inj y1).symm, y2.trans x2.symm⟩
        · rw [x1] at y1; cases y1
      · rcases cs2 with ⟨y1, y2⟩ | ⟨y1, y2, y3, y4⟩
        · rw [x1] at y1; cases y1
        · exact ⟨y3.trans x3.symm, y4.trans x4.symm⟩
    obtain ⟨rfl, rfl⟩ := es
    exact ⟨fun _ => K.to R2 f2 (by omega) (by omega), fun z => absurd rfl z⟩
theorem RR.form {hm' : sd_H} (R : RR h h sz g nw sn e t) (x : Fx (fun T _ i => T = 7 ∧ 5 ≤ i ∧ i ≤ 7) h hm') : RR hm' hm' sz g nw sn e (t + 1) := by
  have p : PK h hm' sz g := R.1.fx x (by omega) (fun i => by omega)
  have r : RR h hm' sz g nw sn e (t + 1) := R.small (P := fun _ _ _ => False) .rf x (fun T k i q => q.elim) (fun T k i q => by omega) p (R.2.1.fx (P := fun _ _ _ => False) .rf x (fun _ _ _ => id) (fun i => by omega) (fun i => by omega) (fun i h => by omega))
  exact r.co (x.mono (fun T k i q => Or.inl q.1))
theorem l_6 (K : KT l L xs i t) (R : RR h h sz g nw sn e t) (c1 : cs ≤ 40 + 7 * t) (c2 : ss ≤ 3000 + 100 * t) (hi : i + 3 < L) (hL : L ≤ 2048) : sd_Wq l (some (L, xs)) y_L_law true lw_Qr 298 (lw_S i) [] h cs ss := by
  have a1 : nI i + 1 = nI (i + 1) := nI_1 i
  refine sd_go [618] 60 (cd := cd_L_law) (by decide) rfl ?_
  refine ⟨rfl, i + 1, ⟨by omega, by omega, a1⟩, ?_⟩
  refine sp_data R.2.2.1 ?_
  refine ⟨rfl, i + 1, ⟨by omega, by omega, a1⟩, ?_⟩
  refine sm_data R.1 R.2.1.2.2.2.2.2.2.2.2.2 R.2.2.1.2.1 (fun s hs => (R.2.2.2.2.2.2.1 s hs).1) (fun j hj => (R.2.1.1 j hj).1) (fun hm' f => ?_)
  exact ⟨fun _ => K hm' cs ss ⟨⟨sz, g, nw, sn, e, R.form f⟩, by omega, by omega⟩, fun z => absurd rfl z⟩
theorem l_7 (K : KT l L xs i t) (R : RR h h sz g nw sn e t) (ht : t ≤ 512) (c1 : cs ≤ 40 + 7 * t) (c2 : ss ≤ 3000 + 100 * t) (hi : i + 3 < L) (hL : L ≤ 2048) : sd_Wq l (some (L, xs)) y_L_law true lw_Qr 321 (lw_S i) [] h cs ss := by
  have a1 : nI i + 1 = nI (i + 1) := nI_1 i
  have he := R.2.2.2.2.2.1
  have bad : ∀ m : Nat, m ≤ 10000 → xs (i + 1) = nI m → ¬ (xs (i + 1) < 0 ∨ 10000 < xs (i + 1)) := fun m m8 em q => by
    rw [em] at q
    rcases q with q | q
    · exact nI_pos (by omega) q
    · exact nI_nlt (a := 10000) (b := m) m8 (by decide) q
  refine sd_go [618] 60 (cd := cd_L_law) (by decide) rfl ?_
  refine ⟨rfl, i + 1, ⟨by omega, by omega, a1⟩, ?_⟩
  refine sp_pass R.2.2.1 R.2.1.2.1.2.1 R.2.1.2.1.2.2 R.2.2.2.2.1.1 (by omega) (fun q => ?_) (fun m m8 em ml => ?_) (fun m m8 em ml => ?_)
  · refine ⟨rfl, i + 1, ⟨by omega, by omega, a1⟩, ?_⟩
    exact sm_pass R (by omega) (fun _ => ⟨fun _ => K.same R c1 c2, fun z => absurd rfl z⟩) (fun m m8 em _ => absurd q (bad m m8 em)) (fun m m8 em _ => absurd q (bad m m8 em))
  · refine ⟨rfl, i + 1, ⟨by omega, by omega, a1⟩, ?_⟩
    refine sm_pass R (by omega) (fun q => absurd q (bad m m8 em)) (fun _ _ _ _ => ⟨fun _ => K.same R c1 c2, fun z => absurd rfl z⟩) (fun m' m8' em' ml' => ?_)
    have : m = m' := (nI_eq (by omega) (by omega)).mp (em.symm.trans em')
    omega
  · refine ⟨rfl, i + 1, ⟨by omega, by omega, a1⟩, ?_⟩
    have x : Fx PCl h (dk_pass (nI (nw + m)) 0 sn (sd_pi h 0 0 6 (nI (nw + m))) e 0).2.1 := dk_pass_cl _ _ _ _ _ (Fx.rf.pi (by unfold PCl; omega))
    have R1 := R.mo (CO.of x)
    refine sm_pass R1 (by omega) (fun q => absurd q (bad m m8 em)) (fun m' m8' em' ml' => ?_) (fun m' m8' em' ml' hm' e' R2 f2 => ?_)
    · have : m = m' := (nI_eq (by omega) (by omega)).mp (em.symm.trans em')
      omega
    · have : m = m' := (nI_eq (by omega) (by omega)).mp (em.symm.trans em')
      subst this
      exact ⟨fun _ => K.to R2 f2 (by omega) (by omega), fun z => absurd rfl z⟩
theorem s_no {x : Int32} {s : Nat} (h6 : sn ≤ 6) (hs : s < sn) (es : x = nI s) : ¬ (x < 0 ∨ nI sn ≤ x) := fun q => by
  rw [es] at q
  rcases q with q | q
  · exact nI_pos (by omega) q
  · exact nI_ge hs (by omega) q
theorem l_9 (K : KT l L xs i t) (R : RR h h sz g nw sn e t) (c1 : cs ≤ 40 + 7 * t) (c2 : ss ≤ 3000 + 100 * t) (hi : i + 3 < L) (hL : L ≤ 2048) : sd_Wq l (some (L, xs)) y_L_law true lw_Qr 367 (lw_S i) [] h cs ss := by
  have a1 : nI i + 1 = nI (i + 1) := nI_1 i
  have a2 : nI i + 2 = nI (i + 2) := nI_add i 2
  have h6 := R.2.2.1.2.1
  have hN : h.1 7 0 8 = nI sn := R.2.1.2.2.2.2.2.2.2.2.2
  refine sd_go [618] 60 (cd := cd_L_law) (by decide) rfl ?_
  refine ⟨rfl, i + 1, ⟨by omega, by omega, a1⟩, rfl, i + 2, ⟨by omega, by omega, a2⟩, ?_⟩
  refine sp_sender R.2.2.1 (fun q => ?_) (fun s hs es => ?_)
  · refine ⟨rfl, i + 1, ⟨by omega, by omega, a1⟩, rfl, i + 2, ⟨by omega, by omega, a2⟩, ?_⟩
    exact sm_sender hN h6 R.2.2.2.2.2.2.1 (fun _ => ⟨fun _ => K.same R c1 c2, fun z => absurd rfl z⟩) (fun s hs es => absurd q (s_no h6 hs es))
  · refine ⟨rfl, i + 1, ⟨by omega, by omega, a1⟩, rfl, i + 2, ⟨by omega, by omega, a2⟩, ?_⟩
    refine sm_sender hN h6 R.2.2.2.2.2.2.1 (fun q => absurd q (s_no h6 hs es)) (fun s' hs' es' => ?_)
    have : s = s' := (nI_eq (by omega) (by omega)).mp (es.symm.trans es')
    subst this
    exact ⟨fun _ => K.same R c1 c2, fun z => absurd rfl z⟩
theorem l_10 (K : KT l L xs i t) (R : RR h h sz g nw sn e t) (c1 : cs ≤ 40 + 7 * t) (c2 : ss ≤ 3000 + 100 * t) (hi : i + 3 < L) (hL : L ≤ 2048) : sd_Wq l (some (L, xs)) y_L_law true lw_Qr 400 (lw_S i) [] h cs ss := by
  have a1 : nI i + 1 = nI (i + 1) := nI_1 i
  have h6 := R.2.2.1.2.1
  have hN : h.1 7 0 8 = nI sn := R.2.1.2.2.2.2.2.2.2.2.2
  refine sd_go [618] 60 (cd := cd_L_law) (by decide) rfl ?_
  refine ⟨rfl, i + 1, ⟨by omega, by omega, a1⟩, ?_⟩
  refine sp_next R.2.2.1 (fun q => ?_) (fun s hs es => ?_)
  · refine ⟨rfl, i + 1, ⟨by omega, by omega, a1⟩, ?_⟩
    exact sm_next hN h6 R.2.2.2.2.2.2.1 (fun _ => ⟨fun _ => K.same R c1 c2, fun z => absurd (lc_eq.mpr rfl) z⟩) (fun s hs es => absurd q (s_no h6 hs es))
  · refine ⟨rfl, i + 1, ⟨by omega, by omega, a1⟩, ?_⟩
    refine sm_next hN h6 R.2.2.2.2.2.2.1 (fun q => absurd q (s_no h6 hs es)) (fun s' hs' es' => ?_)
    have : s = s' := (nI_eq (by omega) (by omega)).mp (es.symm.trans es')
    subst this
    exact ⟨fun _ => K.same R c1 c2, fun z => absurd (lc_eq.mpr rfl) z⟩
theorem l_11 (K : KT l L xs i t) (R : RR h h sz g nw sn e t) (c1 : cs ≤ 40 + 7 * t) (c2 : ss ≤ 3000 + 100 * t) (hi : i + 3 < L) (hL : L ≤ 2048) : sd_Wq l (some (L, xs)) y_L_law true lw_Qr 424 (lw_S i) [] h cs ss := by
  have a1 : nI i + 1 = nI (i + 1) := nI_1 i
  have a2 : nI i + 2 = nI (i + 2) := nI_add i 2
  have a3 : nI i + 3 = nI (i + 3) := nI_add i 3
  have h6 := R.2.2.1.2.1
  have hN : h.1 7 0 8 = nI sn := R.2.1.2.2.2.2.2.2.2.2.2
  refine sd_go [618] 60 (cd := cd_L_law) (by decide) rfl ?_
  refine ⟨rfl, i + 1, ⟨by omega, by omega, a1⟩, rfl, i + 2, ⟨by omega, by omega, a2⟩, rfl, i + 3, ⟨by omega, by omega, a3⟩, ?_⟩
  refine sp_time R.2.2.1 (fun q => ?_) (fun s hs es => ?_)
  · refine ⟨rfl, i + 1, ⟨by omega, by omega, a1⟩, rfl, i + 2, ⟨by omega, by omega, a2⟩, rfl, i + 3, ⟨by omega, by omega, a3⟩, ?_⟩
    exact sm_time hN h6 R.2.2.2.2.2.2.1 (fun _ => ⟨fun _ => K.same R c1 c2, fun z => absurd (lc_eq.mpr rfl) z⟩) (fun s hs es => absurd q (s_no h6 hs es))
  · refine ⟨rfl, i + 1, ⟨by omega, by omega, a1⟩, rfl, i + 2, ⟨by omega, by omega, a2⟩, rfl, i + 3, ⟨by omega, by omega, a3⟩, ?_⟩
    refine sm_time hN h6 R.2.2.2.2.2.2.1 (fun q => absurd q (s_no h6 hs es)) (fun s' hs' es' => ?_)
    have : s = s' := (nI_eq (by omega) (by omega)).mp (es.symm.trans es')
    subst this
    exact ⟨fun _ => K.same R c1 c2, fun z => absurd (lc_eq.mpr rfl) z⟩
theorem l_12 (K : KT l L xs i t) (R : RR h h sz g nw sn e t) (ht : t ≤ 512) (c1 : cs ≤ 40 + 7 * t) (c2 : ss ≤ 3000 + 100 * t) (hi : i + 3 < L) (hL : L ≤ 2048) : sd_Wq l (some (L, xs)) y_L_law true lw_Qr 488 (lw_S i) [] h cs ss := by
  have a1 : nI i + 1 = nI (i + 1) := nI_1 i
  have a2 : nI i + 2 = nI (i + 2) := nI_add i 2
  have he := R.2.2.2.2.2.1
  have V := R.2.2.2.2.1
  have no : ∀ i0, i0 < 64 → i0 < e → xs (i + 1) = nI i0 → ¬ (xs (i + 1) < 0 ∨ 64 ≤ xs (i + 1) ∨ nI e ≤ xs (i + 1)) := fun i0 q1 q2 q3 q => by
    rw [q3] at q
    rcases q with q | q | q
    · exact nI_pos (by omega) q
    · exact nI_ge (a := i0) (b := 64) q1 (by decide) q
    · exact nI_ge q2 (by omega) q
  have nw : (xs (i + 2) < 0 ∨ 3 < xs (i + 2)) → ¬ (0 ≤ xs (i + 2) ∧ xs (i + 2) ≤ 3) := fun q z => by
    rcases q with q | q
    · exact absurd q (Int32.not_lt.mpr z.1)
    · exact absurd q (Int32.not_lt.mpr z.2)
  refine sd_go [618] 60 (cd := cd_L_law) (by decide) rfl ?_
  refine ⟨rfl, i + 1, ⟨by omega, by omega, a1⟩, rfl, i + 2, ⟨by omega, by omega, a2⟩, ?_⟩
  refine sp_event V.1 (by omega) (fun q => ?_) (fun i0 q1 q2 q3 q4 => ?_) (fun i0 q1 q2 q3 q4 q5 => ?_)
  · refine ⟨rfl, i + 1, ⟨by omega, by omega, a1⟩, rfl, i + 2, ⟨by omega, by omega, a2⟩, ?_⟩
    exact sm_event V (by omega) (fun _ => ⟨fun _ => K.same R c1 c2, fun z => absurd (lc_eq.mpr rfl) z⟩) (fun i0 q1 q2 q3 _ => absurd q (no i0 q1 q2 q3)) (fun i0 q1 q2 q3 _ _ => absurd q (no i0 q1 q2 q3))
  · refine ⟨rfl, i + 1, ⟨by omega, by omega, a1⟩, rfl, i + 2, ⟨by omega, by omega, a2⟩, ?_⟩
    exact sm_event V (by omega) (fun q => absurd q (no i0 q1 q2 q3)) (fun _ _ _ _ _ => ⟨fun _ => K.same R c1 c2, fun z => absurd (lc_eq.mpr rfl) z⟩) (fun _ _ _ _ w1 w2 => absurd ⟨w1, w2⟩ (nw q4))
  · refine ⟨rfl, i + 1, ⟨by omega, by omega, a1⟩, rfl, i + 2, ⟨by omega, by omega, a2⟩, ?_⟩
    refine sm_event V (by omega) (fun q => absurd q (no i0 q1 q2 q3)) (fun _ _ _ _ w => absurd ⟨q4, q5⟩ (nw w)) (fun i1 w1 w2 w3 _ _ => ?_)
    have : i0 = i1 := (nI_eq (by omega) (by omega)).mp (q3.symm.trans w3)
    subst this
    exact ⟨fun _ => K.same R c1 c2, fun z => absurd (lc_eq.mpr rfl) z⟩
theorem l_13 (K : KT l L xs i t) (R : RR h h sz g nw sn e t) (ht : t ≤ 512) (c1 : cs ≤ 40 + 7 * t) (c2 : ss ≤ 3000 + 100 * t) (hi : i + 3 < L) (hL : L ≤ 2048) : sd_Wq l (some (L, xs)) y_L_law true lw_Qr 522 (lw_S i) [] h cs ss := by
  have a1 : nI i + 1 = nI (i + 1) := nI_1 i
  refine sd_go [618] 60 (cd := cd_L_law) (by decide) rfl ?_
  refine ⟨rfl, i + 1, ⟨by omega, by omega, a1⟩, ?_⟩
  refine sp_report R.2.2.1 ?_
  refine ⟨rfl, i + 1, ⟨by omega, by omega, a1⟩, ?_⟩
  have R1 := R.mo (CO.of (dk_report_cl (sn := sn) (own := xs (i + 1))))
  refine sm_report R1 (by omega) (fun hm' g' R2 f2 => ?_)
  exact ⟨fun _ => K.to R2 f2 (by omega) (by omega), fun z => absurd rfl z⟩
theorem l_14 (K : KT l L xs i t) (R : RR h h sz g nw sn e t) (ht : t ≤ 512) (c1 : cs ≤ 40 + 7 * t) (c2 : ss ≤ 3000 + 100 * t) (hi : i + 3 < L) (hL : L ≤ 2048) : sd_Wq l (some (L, xs)) y_L_law true lw_Qr 545 (lw_S i) [] h cs ss := by
  have he := R.2.2.2.2.2.1
  refine sd_go [618] 60 (cd := cd_L_law) (by decide) rfl ?_
  refine sp_hear R.2.2.1 R.2.2.2.2.1.1 (by omega) (fun q => ?_) (fun q => ?_)
  · exact sm_hear (by omega) R (fun _ => ⟨fun _ => K.same R c1 c2, fun z => absurd rfl z⟩) (fun z => absurd z q)
  · have x : Fx PCl h (W1 (dk_hear sn 75 h e 0).2.1) := (dk_hear_cl _ _ _ _ .rf).pi (by unfold PCl; omega)
    have R1 := R.mo (CO.of x)
    refine sm_hear (hm := W1 (dk_hear sn 75 h e 0).2.1) (by omega) R1 (fun z => absurd q z) (fun _ hm' R2 f2 => ?_)
    exact ⟨fun _ => K.to R2 f2 (by omega) (by omega), fun z => absurd rfl z⟩
end LW
