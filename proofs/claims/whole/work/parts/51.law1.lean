/-! the law's calls, one after the other -/
theorem sd_up {l : Launch} {sc : Option (Nat × (Nat → Int32))} {y : Nat} {Q : Option sd_V → sd_H → Prop} {pc : Nat} {ls : List (Option sd_V)} {st : List sd_V} {h : sd_H} {cs ss : Nat} (hok : sd_OK h) (w : sd_Wq l sc y true Q pc ls st h cs ss) : sd_Wq l sc y false Q pc ls st h cs ss := by
  intro p e s m args below meth c R D base ad H locs lsA Z C hb hS hV hlv hst hls _ hsc hRT hcs
  exact w p e s m args below meth c R D base ad H locs lsA Z C hb hS hV hlv hst hls (fun _ => hok) hsc (fun r h' ad' H' locs' cs' ss' pc' lsA' q1 _ => hRT r h' ad' H' locs' cs' ss' pc' lsA' q1 (fun z => by cases z)) hcs
def lw_Qr (r : Option sd_V) (_ : sd_H) : Prop := r = some (v_i 1)
abbrev lw_S (i : Nat) : List (Option sd_V) := [some (v_r 46 0), some (v_r 0 0), some (v_r 7 0), some (v_i (nI i))]
def LI (h : sd_H) (t cs ss : Nat) : Prop := (∃ sz g nw sn e, RR h h sz g nw sn e t) ∧ cs ≤ 40 + 7 * t ∧ ss ≤ 3000 + 100 * t
/-- where a call has come through -/
def KT (l : Launch) (L : Nat) (xs : Nat → Int32) (i t : Nat) : Prop := ∀ (h' : sd_H) (cs' ss' : Nat), LI h' (t + 1) cs' ss' → sd_Wq l (some (L, xs)) y_L_law true lw_Qr 618 (lw_S i) [] h' cs' ss'
section LW
variable {l : Launch} {L : Nat} {xs : Nat → Int32} {i t : Nat} {h : sd_H} {sz nw sn e cs ss : Nat} {g : Nat → Nat}
theorem KT.same (K : KT l L xs i t) (R : RR h h sz g nw sn e t) (c1 : cs ≤ 40 + 7 * t) (c2 : ss ≤ 3000 + 100 * t) : sd_Wq l (some (L, xs)) y_L_law true lw_Qr 618 (lw_S i) [] h cs ss :=
  K h cs ss ⟨⟨sz, g, nw, sn, e, R.up (by omega)⟩, by omega, by omega⟩
theorem KT.to {hc' hm' : sd_H} {sz' nw' sn' e' : Nat} {g' : Nat → Nat} (K : KT l L xs i t) (R : RR hc' hm' sz' g' nw' sn' e' (t + 1)) (x : Fx PMo hc' hm') (c1 : cs ≤ 40 + 7 * (t + 1)) (c2 : ss ≤ 3000 + 100 * (t + 1)) : sd_Wq l (some (L, xs)) y_L_law true lw_Qr 618 (lw_S i) [] hm' cs ss :=
  K hm' cs ss ⟨⟨sz', g', nw', sn', e', R.co x⟩, c1, c2⟩
theorem l_0 (K : KT l L xs i t) (R : RR h h sz g nw sn e t) (c1 : cs ≤ 40 + 7 * t) (c2 : ss ≤ 3000 + 100 * t) (hi : i + 3 < L) (hL : L ≤ 2048) : sd_Wq l (some (L, xs)) y_L_law true lw_Qr 120 (lw_S i) [] h cs ss := by
  have a1 : nI i + 1 = nI (i + 1) := nI_1 i
  have a2 : nI i + 2 = nI (i + 2) := nI_add i 2
  have a3 : nI i + 3 = nI (i + 3) := nI_add i 3
  refine sd_go [618] 60 (cd := cd_L_law) (by decide) rfl ?_
  refine ⟨rfl, i + 1, ⟨by omega, by omega, a1⟩, rfl, i + 2, ⟨by omega, by omega, a2⟩, rfl, i + 3, ⟨by omega, by omega, a3⟩, ?_⟩
  refine sp_type R.1.1 R.1.2.2.1 (fun q => ?_) (fun m m8 em ml => ?_) (fun m m8 em ml => ?_)
  · refine ⟨rfl, i + 1, ⟨by omega, by omega, a1⟩, rfl, i + 2, ⟨by omega, by omega, a2⟩, rfl, i + 3, ⟨by omega, by omega, a3⟩, ?_⟩
    refine sm_type R.1.2.1 R.1.2.2.1 (fun _ => ⟨fun _ => K.same R c1 c2, fun z => absurd rfl z⟩) (fun m m8 em ml => ?_) (fun m m8 em ml => ?_)
    · exfalso
      rw [em] at q
      rcases q with q | q
      · exact nI_pos (by omega) q
      · exact nI_nlt (a := 8) (b := m) m8 (by decide) q
    · exfalso
      rw [em] at q
      rcases q with q | q
      · exact nI_pos (by omega) q
      · exact nI_nlt (a := 8) (b := m) m8 (by decide) q
  · refine ⟨rfl, i + 1, ⟨by omega, by omega, a1⟩, rfl, i + 2, ⟨by omega, by omega, a2⟩, rfl, i + 3, ⟨by omega, by omega, a3⟩, ?_⟩
    refine sm_type R.1.2.1 R.1.2.2.1 (fun q => ?_) (fun _ _ _ _ => ⟨fun _ => K.same R c1 c2, fun z => absurd rfl z⟩) (fun m' m8' em' ml' => ?_)
    · exfalso
      rw [em] at q
      rcases q with q | q
      · exact nI_pos (by omega) q
      · exact nI_nlt (a := 8) (b := m) m8 (by decide) q
    · exfalso
      have : m = m' := (nI_eq (by omega) (by omega)).mp (em.symm.trans em')
      omega
  · have R1 := R.mo (CO.of (pk_app_cl (v := (xs (i + 1)).toInt64 <<< ((32 : Int32).toInt64 &&& 63) ||| (xs (i + 2)).toInt64 &&& 4294967295) (m := m) (sz := sz) .rf))
    refine ⟨rfl, i + 1, ⟨by omega, by omega, a1⟩, rfl, i + 2, ⟨by omega, by omega, a2⟩, rfl, i + 3, ⟨by omega, by omega, a3⟩, ?_⟩
    refine sm_type R1.1.2.1 R.1.2.2.1 (fun q => ?_) (fun m' m8' em' ml' => ?_) (fun m' m8' em' ml' => ?_)
    · exfalso
      rw [em] at q
      rcases q with q | q
      · exact nI_pos (by omega) q
      · exact nI_nlt (a := 8) (b := m) m8 (by decide) q
    · exfalso
      have : m = m' := (nI_eq (by omega) (by omega)).mp (em.symm.trans em')
      omega
    · have : m = m' := (nI_eq (by omega) (by omega)).mp (em.symm.trans em')
      subst this
      refine ⟨fun _ => ?_, fun z => absurd rfl z⟩
      obtain ⟨g', R2⟩ := R1.type (v := (xs (i + 1)).toInt64 <<< ((32 : Int32).toInt64 &&& 63) ||| (xs (i + 2)).toInt64 &&& 4294967295) m8 ml
      exact K.to R2 (mp_all_fx (Or.inl rfl) (fun _ => Or.inr (by decide)) _ _ _ .rf) (by omega) (by omega)
theorem l_1 (K : KT l L xs i t) (R : RR h h sz g nw sn e t) (c1 : cs ≤ 40 + 7 * t) (c2 : ss ≤ 3000 + 100 * t) (hi : i + 3 < L) (hL : L ≤ 2048) : sd_Wq l (some (L, xs)) y_L_law true lw_Qr 183 (lw_S i) [] h cs ss := by
  refine sd_go [618] 60 (cd := cd_L_law) (by decide) rfl ?_
  refine sp_clear ?_
  have R1 := R.mo (CO.of (Fx.rf.pi (T := 1) (k := 0) (i := 1) (v := 0) (show PCl 1 0 1 by unfold PCl; omega)))
  refine sm_clear ?_
  refine ⟨fun _ => ?_, fun z => absurd ?_ z⟩
  · exact K.to R1.clear (Fx.rf.pi (Or.inl rfl)) (by omega) (by omega)
  · show h.1 1 0 1 = (sd_pi h 1 0 1 0).1 7 0 2
    rw [R.1.1]; exact R1.1.2.1.symm
theorem l_2 (K : KT l L xs i t) (R : RR h h sz g nw sn e t) (c1 : cs ≤ 40 + 7 * t) (c2 : ss ≤ 3000 + 100 * t) (hi : i + 3 < L) (hL : L ≤ 2048) : sd_Wq l (some (L, xs)) y_L_law true lw_Qr 196 (lw_S i) [] h cs ss := by
  have a1 : nI i + 1 = nI (i + 1) := nI_1 i
  have a2 : nI i + 2 = nI (i + 2) := nI_add i 2
  have P := R.1
  have h3 := P.2.2.1
  refine sd_go [618] 60 (cd := cd_L_law) (by decide) rfl ?_
  refine ⟨rfl, i + 1, ⟨by omega, by omega, a1⟩, rfl, i + 2, ⟨by omega, by omega, a2⟩, ?_⟩
  have iff : ∀ j, j < sz → xs (i + 1) = nI j → (0 ≤ xs (i + 1) ∧ xs (i + 1) < h.1 1 0 1 ∧ xs (i + 1) < 300) := fun j hj ej => by
    rw [ej, P.1]
    exact ⟨nI_pos' (by omega), nI_lt hj (by omega), nI_lt (b := 300) (by omega) (by decide)⟩
  have fi : (0 ≤ xs (i + 1) ∧ xs (i + 1) < h.1 1 0 1 ∧ xs (i + 1) < 300) → ∃ j, j < sz ∧ xs (i + 1) = nI j := fun q => by
    obtain ⟨j, hj, ej⟩ := nI_of (Int32.not_lt.mpr q.1)
    have q2 := q.2.1
    rw [P.1, ej] at q2
    exact ⟨j, (nI_ltI hj (by omega)).mp q2, ej⟩
  refine sp_alter (fun q => ?_) (fun q => ?_)
  · refine ⟨rfl, i + 1, ⟨by omega, by omega, a1⟩, rfl, i + 2, ⟨by omega, by omega, a2⟩, ?_⟩
    refine sm_alter P.2.1 h3 (fun _ => ⟨fun _ => K.same R c1 c2, fun z => absurd rfl z⟩) (fun j hj ej hv => ?_)
    exact absurd ⟨iff j hj ej, hv⟩ q
  · obtain ⟨j, hj, ej⟩ := fi q.1
    have ecl : (xs (i + 1)).toNatClampNeg = j := by rw [ej]; exact nI_clamp (by omega)
    rw [ecl]
    have R1 := R.mo (CO.of (Fx.rf.pi (T := 11) (k := 0) (i := j) (v := xs (i + 2) &&& 255) (show PCl 11 0 j by unfold PCl; omega)))
    refine ⟨rfl, i + 1, ⟨by omega, by omega, a1⟩, rfl, i + 2, ⟨by omega, by omega, a2⟩, ?_⟩
    refine sm_alter R1.1.2.1 h3 (fun z => absurd q.2 (z j hj ej)) (fun j' hj' ej' hv => ?_)
    have : j = j' := (nI_eq (by omega) (by omega)).mp (ej.symm.trans ej')
    subst this
    refine ⟨fun _ => ?_, fun z => absurd ?_ z⟩
    · obtain ⟨g', R2⟩ := R1.alter hj hv
      exact K.to R2 (Fx.rf.pi (Or.inr (by decide))) (by omega) (by omega)
    · show h.1 11 0 j = h.1 19 0 j
      rw [(P.2.2.2 j (by omega)).1, (P.2.2.2 j (by omega)).2.1]
theorem l_3 (K : KT l L xs i t) (R : RR h h sz g nw sn e t) (c1 : cs ≤ 40 + 7 * t) (c2 : ss ≤ 3000 + 100 * t) (hi : i + 3 < L) (hL : L ≤ 2048) : sd_Wq l (some (L, xs)) y_L_law true lw_Qr 229 (lw_S i) [] h cs ss := by
  have a1 : nI i + 1 = nI (i + 1) := nI_1 i
  have P := R.1
  have h3 := P.2.2.1
  refine sd_go [618] 60 (cd := cd_L_law) (by decide) rfl ?_
  refine ⟨rfl, i + 1, ⟨by omega, by omega, a1⟩, ?_⟩
  refine sp_at (fun q => ?_) (fun q => ?_)
  · refine ⟨rfl, i + 1, ⟨by omega, by omega, a1⟩, ?_⟩
    refine sm_at P.2.1 h3 (fun _ => ⟨fun _ => K.same R c1 c2, fun z => absurd rfl z⟩) (fun j hj ej => ?_)
    exfalso
    apply q
    rw [ej, P.1]
    exact ⟨nI_pos' (by omega), nI_lt hj (by omega), nI_lt (b := 300) (by omega) (by decide)⟩
  · obtain ⟨j, hj, ej⟩ := nI_of (Int32.not_lt.mpr q.1)
    have q2 := q.2.1
    rw [P.1, ej] at q2
    have hj := (nI_ltI hj (by omega)).mp q2
    have ecl : (xs (i + 1)).toNatClampNeg = j := by rw [ej]; exact nI_clamp (by omega)
    rw [ecl]
    refine ⟨rfl, i + 1, ⟨by omega, by omega, a1⟩, ?_⟩
    refine sm_at P.2.1 h3 (fun z => absurd ej (z j hj)) (fun j' hj' ej' => ?_)
    have : j = j' := (nI_eq (by omega) (by omega)).mp (ej.symm.trans ej')
    subst this
    refine ⟨fun _ => K.same R c1 c2, fun z => absurd ?_ z⟩
    rw [(P.2.2.2 j (by omega)).1, (P.2.2.2 j (by omega)).2.1]
theorem l_4 (K : KT l L xs i t) (R : RR h h sz g nw sn e t) (c1 : cs ≤ 40 + 7 * t) (c2 : ss ≤ 3000 + 100 * t) (hi : i + 3 < L) (hL : L ≤ 2048) : sd_Wq l (some (L, xs)) y_L_law true lw_Qr 252 (lw_S i) [] h cs ss := by
  have a1 : nI i + 1 = nI (i + 1) := nI_1 i
  have a2 : nI i + 2 = nI (i + 2) := nI_add i 2
  refine sd_go [618] 60 (cd := cd_L_law) (by decide) rfl ?_
  refine ⟨rfl, i + 1, ⟨by omega, by omega, a1⟩, rfl, i + 2, ⟨by omega, by omega, a2⟩, ?_⟩
  refine sp_rate (fun q => ?_) (fun q => ?_)
  · refine ⟨rfl, i + 1, ⟨by omega, by omega, a1⟩, rfl, i + 2, ⟨by omega, by omega, a2⟩, ?_⟩
    exact sm_rate (fun _ => ⟨fun _ => K.same R c1 c2, fun z => absurd rfl z⟩) (fun z => absurd z q)
  · refine ⟨rfl, i + 1, ⟨by omega, by omega, a1⟩, rfl, i + 2, ⟨by omega, by omega, a2⟩, ?_⟩
    have R1 := R.mo (CO.of (Fx.rf.pi (T := 8) (k := 0) (i := (xs (i + 1)).toNatClampNeg) (v := xs (i + 2)) (show PCl 8 0 _ by unfold PCl; omega)))
    obtain ⟨j1, j2⟩ := i_ix (N := 128) (Int32.not_lt.mpr q.1) q.2.1 (by decide)
    refine sm_rate (fun z => absurd q z) (fun _ => ?_)
    refine ⟨fun _ => ?_, fun z => absurd ?_ z⟩
    · exact K.to (R1.rate q.2.2) (Fx.rf.pi (Or.inr (by decide))) (by omega) (by omega)
    · show h.1 8 0 (xs (i + 1)).toNatClampNeg = h.1 20 0 (xs (i + 1)).toNatClampNeg
      exact ((R.2.1.1 _ j1).1).symm
theorem l_8 (K : KT l L xs i t) (R : RR h h sz g nw sn e t) (c1 : cs ≤ 40 + 7 * t) (c2 : ss ≤ 3000 + 100 * t) (hi : i + 3 < L) (hL : L ≤ 2048) : sd_Wq l (some (L, xs)) y_L_law true lw_Qr 344 (lw_S i) [] h cs ss := by
  have a1 : nI i + 1 = nI (i + 1) := nI_1 i
  refine sd_go [618] 60 (cd := cd_L_law) (by decide) rfl ?_
  refine ⟨rfl, i + 1, ⟨by omega, by omega, a1⟩, ?_⟩
  refine sp_delay (fun q => ?_) (fun q => ?_)
  · refine ⟨rfl, i + 1, ⟨by omega, by omega, a1⟩, ?_⟩
    exact sm_delay (fun _ => ⟨fun _ => K.same R c1 c2, fun z => absurd rfl z⟩) (fun z => absurd z q)
  · refine ⟨rfl, i + 1, ⟨by omega, by omega, a1⟩, ?_⟩
    have R1 := R.mo (CO.of (Fx.rf.pi (T := 0) (k := 0) (i := 7) (v := xs (i + 1)) (show PCl 0 0 7 by unfold PCl; omega)))
    refine sm_delay (fun z => absurd q z) (fun _ => ?_)
    refine ⟨fun _ => ?_, fun z => absurd ?_ z⟩
    · exact K.to R1.delay (Fx.rf.pi (Or.inl rfl)) (by omega) (by omega)
    · show h.1 0 0 7 = h.1 7 0 1
      exact R.2.1.2.2.1.symm
theorem l_15 (K : KT l L xs i t) (R : RR h h sz g nw sn e t) (c1 : cs ≤ 40 + 7 * t) (c2 : ss ≤ 3000 + 100 * t) (hi : i + 3 < L) (hL : L ≤ 2048) : sd_Wq l (some (L, xs)) y_L_law true lw_Qr 558 (lw_S i) [] h cs ss := by
  have a1 : nI i + 1 = nI (i + 1) := nI_1 i
  refine sd_go [618] 60 (cd := cd_L_law) (by decide) rfl ?_
  refine ⟨rfl, i + 1, ⟨by omega, by omega, a1⟩, ?_⟩
  refine sp_heard ?_
  refine ⟨rfl, i + 1, ⟨by omega, by omega, a1⟩, ?_⟩
  refine sm_heard ?_
  refine ⟨fun _ => K.same R c1 c2, fun z => absurd ?_ z⟩
  by_cases q : xs (i + 1) < 0
  · rw [if_pos q, if_pos q]
  rw [if_neg q, if_neg q]
  by_cases q2 : 7 ≤ xs (i + 1)
  · rw [if_pos q2, if_pos q2]
  rw [if_neg q2, if_neg q2]
  obtain ⟨j1, j2⟩ := i_ix (N := 7) q (i_nle q2) (by decide)
  exact (R.2.1.2.2.2.2.2.2.2.2.1 _ j1).symm
theorem l_16 (K : KT l L xs i t) (R : RR h h sz g nw sn e t) (c1 : cs ≤ 40 + 7 * t) (c2 : ss ≤ 3000 + 100 * t) (hi : i + 3 < L) (hL : L ≤ 2048) : sd_Wq l (some (L, xs)) y_L_law true lw_Qr 581 (lw_S i) [] h cs ss := by
  have a1 : nI i + 1 = nI (i + 1) := nI_1 i
  refine sd_go [618] 60 (cd := cd_L_law) (by decide) rfl ?_
  refine ⟨rfl, i + 1, ⟨by omega, by omega, a1⟩, ?_⟩
  refine sp_count ?_
  refine ⟨rfl, i + 1, ⟨by omega, by omega, a1⟩, ?_⟩
  refine sm_count ?_
  exact ⟨fun _ => K.same R c1 c2, fun z => absurd (R.count _).symm z⟩
theorem l_17 (K : KT l L xs i t) (R : RR h h sz g nw sn e t) (c1 : cs ≤ 40 + 7 * t) (c2 : ss ≤ 3000 + 100 * t) (hi : i + 3 < L) (hL : L ≤ 2048) : sd_Wq l (some (L, xs)) y_L_law true lw_Qr 604 (lw_S i) [] h cs ss := by
  refine sd_go [618] 60 (cd := cd_L_law) (by decide) rfl ?_
  refine sp_digest R.2.2.1 R.1.1 R.1.2.2.1 ?_
  refine sm_digest R ?_
  exact ⟨fun _ => K.same R c1 c2, fun z => absurd (lc_eq.mpr rfl) z⟩
end LW
