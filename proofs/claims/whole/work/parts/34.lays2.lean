/-! the reference: down, lays -/
section LZ
variable {l : Launch} {Q : Option sd_V → sd_H → Prop} {hc hm : sd_H} {e s : Nat} {nw : Int32}
theorem sm_down {a b : Int64} (hb : ¬ b = 0) (k : Q (some (v_l (fl_d a b))) hm) : sd_E1 l y_X9_down [v_l a, v_l b] hm Q := by
  refine sd_e1 [] 60 (cd := cd_X9_down) (by decide) rfl (Nat.le_of_ble_eq_true rfl) ?_
  refine ⟨hb, hb, ?_⟩
  unfold fl_d at k
  refine ⟨fun c1 => ?_, fun c1 => ?_⟩
  · have c1 := lc_eq.mp c1
    by_cases c2 : ¬ a < 0
    · rw [if_pos c2] at k; exact k
    · rw [if_neg c2, if_pos c1] at k; exact k
  · have c1 : ¬ a - a / b * b = 0 := fun q => c1 (lc_eq.mpr q)
    refine ⟨fun c2 => ?_, fun c2 => ?_⟩
    · rw [if_pos (lc_ge.mp c2)] at k; exact k
    · rw [if_neg (fun q => c2 (lc_ge.mpr q)), if_neg c1] at k; exact k
theorem pl_play_no {h : sd_H} {d : Int32} (p : PM h hm s e 0) (nd : ND hm s nw) : pl_play s nw 32 h e d = (d, h, e) := by
  unfold pl_play
  by_cases c1 : h.1 6 s 5 ≤ 0
  · rw [if_pos c1]
  rw [if_neg c1]
  have hle := pl_gap_le (h := h) (s := s) (nw := nw) 32 (Nat.le_refl _)
  rcases Nat.lt_or_ge (pl_gap h s nw 32) 32 with q | q
  · obtain ⟨-, b1, b2⟩ := pl_gap_hit (h := h) (s := s) (nw := nw) 32 _ (Nat.le_refl _) rfl q
    obtain ⟨g1, g2⟩ := p.g q
    rw [g1] at b1
    rw [g2 b1] at b2
    exact absurd (nd _ q b1) b2
  · rw [if_pos (by omega)]
theorem sq_l180 {h1 hm1 : sd_H} {e1 : Nat} {n : Int64} {st rt : Int32} {j6 : Option sd_V} (hs : s < 6) (p : PM h1 hm1 s e1 0) (v : EV h1 hm1 e1) (hnw : hm1.1 7 0 0 = nw) (hb : e1 + 2000 < 2 ^ 30) (k : ∀ hm', PM (pl_play s nw 32 h1 (evn h1) 0).2.1 hm' s (pl_play s nw 32 h1 (evn h1) 0).2.2 0 → EV (pl_play s nw 32 h1 (evn h1) 0).2.1 hm' (pl_play s nw 32 h1 (evn h1) 0).2.2 → Fx (PPm s) hm1 hm' → ND hm' s nw → Q none hm') : sd_Wq l none y_X9_lays true Q 180 [some (v_r 7 0), some (v_i (nI s)), some (v_l n), none, some (v_i st), some (v_i rt), j6] [] hm1 0 0 := by
  refine sd_go [] 60 (cd := cd_X9_lays) (by decide) rfl ?_
  have ee : evn h1 = e1 := evn_of v.1 (by omega)
  rw [ee] at k
  exact sm_plays hs p v hnw hb (fun hm' p' v' f' n' => k hm' p' v' f' n')
theorem sm_lays_b {n : Int64} {st rt dl : Int32} (hs : s < 6) (hB : hm.1 37 0 s = 0 ∨ ¬ hm.1 7 0 37 = 0) (p : PM hc hm s e 0) (v : EV hc hm e) (hnw : hm.1 7 0 0 = nw) (hdl : hm.1 7 0 1 = dl) (hb : e + 3000 < 2 ^ 30) (n1 : 0 ≤ n.toInt) (n2 : n.toInt ≤ 1099511627776) (k : ∀ hm', PM (pl_play s nw 32 (pl_begin hc s e n st nw dl) (evn (pl_begin hc s e n st nw dl)) 0).2.1 hm' s (pl_play s nw 32 (pl_begin hc s e n st nw dl) (evn (pl_begin hc s e n st nw dl)) 0).2.2 0 → EV (pl_play s nw 32 (pl_begin hc s e n st nw dl) (evn (pl_begin hc s e n st nw dl)) 0).2.1 hm' (pl_play s nw 32 (pl_begin hc s e n st nw dl) (evn (pl_begin hc s e n st nw dl)) 0).2.2 → Fx (PLm s) hm hm' → ND hm' s nw → hm'.1 37 0 s = 1 → Q none hm') : sd_E1 l y_X9_lays [v_r 7 0, v_i (nI s), v_l n, v_i st, v_i rt] hm Q := by
  refine sd_e1 [39, 180] 80 (cd := cd_X9_lays) (by decide) rfl (Nat.le_of_ble_eq_true rfl) ?_
  have at39 : sd_Wq l none y_X9_lays true Q 39 [some (v_r 7 0), some (v_i (nI s)), some (v_l n), none, some (v_i st), some (v_i rt), none] [] hm 0 0 := by
    refine sd_go [180] 60 (cd := cd_X9_lays) (by decide) rfl ?_
    refine sm_begins hs p v hnw hdl (by omega) n1 n2 (fun hm1 p1 v1 f1 z1 => ?_)
    refine sq_l180 hs p1 v1 ?_ (by omega) (fun hm' p' v' f' n' => k hm' p' v' (f1.tr (f'.mono (fun T k i q => Or.inl q))) n' ?_)
    · rw [f1.1 7 0 0 (by unfold PLm PPm; omega), hnw]
    · rw [f'.1 37 0 s (by unfold PPm; omega), z1]
  refine ⟨s, ⟨show s < 6 from hs, rfl⟩, ?_⟩
  refine ⟨fun (c1 : hm.1 37 0 s = 0) => at39, fun (c1 : ¬ hm.1 37 0 s = 0) => ?_⟩
  refine ⟨fun (c2 : ¬ hm.1 7 0 37 = 0) => at39, fun (c2 : hm.1 7 0 37 = 0) => ?_⟩
  rcases hB with q | q
  · exact absurd q c1
  · exact absurd c2 q
theorem sm_lays_a {n : Int64} {st rt dl : Int32} (hs : s < 6) (h37 : hm.1 37 0 s = 1) (h7 : hm.1 7 0 37 = 0) (nd : ND hm s nw) (hrt : 0 < rt) (p : PM hc hm s e 0) (v : EV hc hm e) (hnw : hm.1 7 0 0 = nw) (hdl : hm.1 7 0 1 = dl) (hb : e + 3000 < 2 ^ 30) (n1 : -1099511627776 ≤ n.toInt) (n2 : n.toInt ≤ 1099511627776) (k : ∀ hm', PM (pl_play s nw 32 (pl_arrive hc s e n st rt nw dl) (evn (pl_arrive hc s e n st rt nw dl)) 0).2.1 hm' s (pl_play s nw 32 (pl_arrive hc s e n st rt nw dl) (evn (pl_arrive hc s e n st rt nw dl)) 0).2.2 0 → EV (pl_play s nw 32 (pl_arrive hc s e n st rt nw dl) (evn (pl_arrive hc s e n st rt nw dl)) 0).2.1 hm' (pl_play s nw 32 (pl_arrive hc s e n st rt nw dl) (evn (pl_arrive hc s e n st rt nw dl)) 0).2.2 → Fx (PLm s) hm hm' → ND hm' s nw → hm'.1 37 0 s = 1 → Q none hm') : sd_E1 l y_X9_lays [v_r 7 0, v_i (nI s), v_l n, v_i st, v_i rt] hm Q := by
  have s6 : s < 6 := hs
  have hN : hc.2.1 6 s 6 = hm.2.1 38 0 s := by rw [p.2.1]; exact Int64.add_zero _
  have b1 := p.2.2.2.2.2.2.2.2.2.1
  have b2 := p.2.2.2.2.2.2.2.2.2.2
  have hd : (n - hm.2.1 38 0 s).toInt = n.toInt - (hm.2.1 38 0 s).toInt := by
    rw [Int64.toInt_sub]
    exact Int.bmod_eq_of_le (by omega) (by omega)
  have l32 : n - hm.2.1 38 0 s < 32 ↔ n.toInt - (hm.2.1 38 0 s).toInt < 32 := by
    rw [Int64.lt_iff_toInt_lt, hd]; rfl
  have llt : n < hm.2.1 38 0 s ↔ n.toInt < (hm.2.1 38 0 s).toInt := Int64.lt_iff_toInt_lt
  have noted : ∀ c, 3 ≤ c → c ≤ 5 → pl_arrive hc s e n st rt nw dl = pl_note hc s e c n nw → Q none (mh2 hm e c s n) := by
    intro c c3 c5 ea
    obtain ⟨p1, v1⟩ := p.note (c := c) (nw := nw) (n := n) v (by omega) hnw hs (by omega) (by omega)
    have f1 := mh2_pp (s := s) (hm := hm) (e := e) (c := c) (n := n) c5
    have f2 := mh2_fx (s := s) (hm := hm) (e := e) (c := c) (n := n)
    have nd1 : ND (mh2 hm e c s n) s nw := fun k hk hw => by
      rw [f2.1 41 0 _ (by omega)] at hw
      rw [f2.2.1 42 0 _ (by omega)]
      exact nd k hk hw
    have ee : evn (pl_note hc s e c n nw) = e + 1 := evn_of v1.1 (by omega)
    rw [ea, ee, pl_play_no p1 nd1] at k
    exact k _ p1 v1 (f1.mono (fun T k i q => Or.inl q)) nd1 (by rw [f2.1 37 0 s (by omega), h37])
  refine sd_e1 [39, 50, 180] 80 (cd := cd_X9_lays) (by decide) rfl (Nat.le_of_ble_eq_true rfl) ?_
  refine ⟨s, ⟨s6, rfl⟩, ?_⟩
  refine ⟨fun (c1 : hm.1 37 0 s = 0) => absurd (h37.symm.trans c1) (by decide), fun _ => ?_⟩
  refine ⟨fun (c2 : ¬ hm.1 7 0 37 = 0) => absurd h7 c2, fun _ => ?_⟩
  refine ⟨s, ⟨s6, rfl⟩, ?_⟩
  refine ⟨fun c3 => ?_, fun c3 => ?_⟩
  · have c3 := l32.mp (lc_lt.mp c3)
    refine sd_go [180] 80 (cd := cd_X9_lays) (by decide) rfl ?_
    refine ⟨s, ⟨s6, rfl⟩, ?_⟩
    refine ⟨fun c4 => ?_, fun c4 => ?_⟩
    rotate_left
    · have c4 : n < hm.2.1 38 0 s := Classical.not_not.mp fun q => c4 (lc_ge.mpr q)
      refine sm_happens (e := e) (c := 3) (s := s) v.2.1 (by omega) hs (by decide) ?_
      exact noted 3 (by omega) (by omega) (by unfold pl_arrive; rw [hN, if_pos c4])
    have c4 : ¬ n < hm.2.1 38 0 s := lc_ge.mp c4
    have c4' : ¬ n.toInt < (hm.2.1 38 0 s).toInt := fun q => c4 (llt.mpr q)
    obtain ⟨x, hx⟩ : ∃ x : Nat, n.toInt - (hm.2.1 38 0 s).toInt = x := ⟨(n.toInt - (hm.2.1 38 0 s).toInt).toNat, by omega⟩
    have x32 : x < 32 := by omega
    have ex : n - hm.2.1 38 0 s = lN x := Int64.toInt_inj.mp (by rw [hd, hx, lN_toInt (by omega)])
    have en : n = hm.2.1 38 0 s + lN x := by
      rw [← ex]
      apply Int64.toInt_inj.mp
      rw [Int64.toInt_add, hd]
      have h1 := Int64.minValue_le_toInt n
      have h2 := Int64.toInt_le n
      rw [show (hm.2.1 38 0 s).toInt + (n.toInt - (hm.2.1 38 0 s).toInt) = n.toInt by omega]
      exact (Int.bmod_eq_of_le (by omega) (by omega)).symm
    refine ⟨s, ⟨s6, rfl⟩, ?_⟩
    refine ⟨fun _ => ?_, fun c5 => absurd (lc_lt.mpr (l32.mpr c3)) c5⟩
    have hc32 : hc.1 18 s (sl n) = hm.1 41 0 (32 * s + x) := by
      rw [en, p.2.2.1 x x32, if_neg (by omega)]
    have I : 32 * s + x < 192 := by omega
    have ei : (32 : Int32) * nI s + (n - hm.2.1 38 0 s).toInt32 = nI (32 * s + x) := by rw [ex, lN_i, ix32]
    refine ⟨s, ⟨s6, rfl⟩, 32 * s + x, ⟨I, ei⟩, ?_⟩
    refine ⟨fun (c5 : hm.1 41 0 (32 * s + x) = 0) => ?_, fun (c5 : ¬ hm.1 41 0 (32 * s + x) = 0) => ?_⟩
    · refine ⟨s, ⟨s6, rfl⟩, ?_⟩
      refine ⟨32 * s + x, ⟨I, ei, Or.inr rfl⟩, ?_⟩
      refine ⟨s, ⟨s6, rfl⟩, s, ⟨s6, rfl⟩, ?_⟩
      have a8 := p.2.2.2.2.2.2.2.1
      have a9 := p.2.2.2.2.2.2.2.2.1
      have hrt0 : ¬ rt ≤ 0 := Int32.not_le.mpr hrt
      have ha : pl_arrive hc s e n st rt nw dl = pl_hold hc s n (hm.2.1 39 0 s + fl_d ((st - hm.1 40 0 s).toInt64 * 1000) rt.toInt64) := by
        unfold pl_arrive
        rw [hN, if_neg c4, if_pos (l32.mpr c3)]
        have ew : pl_waits hc s n = 0 := by
          unfold pl_waits
          rw [hN, if_neg c4, if_neg (fun q => q (l32.mpr c3)), hc32, if_pos c5]
        rw [if_pos ew, a8, a9]
        unfold pl_since
        rw [if_neg hrt0]
      refine sm_down (fun q => ?_) ?_
      · have := i_l0.mp q
        rw [this] at hrt0
        exact hrt0 (by decide)
      refine ⟨32 * s + x, ⟨I, ei⟩, ?_⟩
      have p1 := p.hold (k := x) (t := hm.2.1 39 0 s + fl_d ((st - hm.1 40 0 s).toInt64 * 1000) rt.toInt64) x32 c5
      rw [← en, ← ha] at p1
      have v1 : EV (pl_arrive hc s e n st rt nw dl) (sd_pl (sd_pi hm 41 0 (32 * s + x) 1) 42 0 (32 * s + x) (hm.2.1 39 0 s + fl_d ((st - hm.1 40 0 s).toInt64 * 1000) rt.toInt64)) e := by
        rw [ha]
        exact v.cg rfl (fun _ => rfl) (fun _ => rfl) (fun _ => rfl) (fun _ => rfl) rfl (fun _ => rfl)
      have F1 : Fx (PLm s) hm (sd_pl (sd_pi hm 41 0 (32 * s + x) 1) 42 0 (32 * s + x) (hm.2.1 39 0 s + fl_d ((st - hm.1 40 0 s).toInt64 * 1000) rt.toInt64)) := by
        refine (Fx.rf.pi ?_).pl ?_
        all_goals (unfold PLm PPm; omega)
      exact sq_l180 hs p1 v1 hnw (by omega) (fun hm' p' v' f' n' => k hm' p' v' (F1.tr (f'.mono (fun T k i q => Or.inl q))) n' (by rw [f'.1 37 0 s (by unfold PPm; omega)]; exact h37))
    · refine sm_happens (e := e) (c := 5) (s := s) v.2.1 (by omega) hs (by decide) ?_
      refine noted 5 (by omega) (by omega) ?_
      unfold pl_arrive
      rw [hN, if_neg c4, if_pos (l32.mpr c3), if_neg]
      unfold pl_waits
      rw [hN, if_neg c4, if_neg (fun q => q (l32.mpr c3)), hc32, if_neg c5]
      decide
  · have c3 : ¬ n.toInt - (hm.2.1 38 0 s).toInt < 32 := fun q => c3 (lc_lt.mpr (l32.mpr q))
    have c4 : ¬ n < hm.2.1 38 0 s := fun q => by have := llt.mp q; omega
    have c3' : ¬ n - hm.2.1 38 0 s < 32 := fun q => c3 (l32.mp q)
    refine sm_waiting hs ?_
    have a6 : hc.1 6 s 5 = nI (wc (fun k => hm.1 41 0 (32 * s + k)) 0 32) := p.2.2.2.2.2.1
    refine ⟨fun c5 => ?_, fun c5 => ?_⟩
    · rw [← a6] at c5
      refine sd_go [180] 80 (cd := cd_X9_lays) (by decide) rfl ?_
      refine ⟨s, ⟨s6, rfl⟩, ?_⟩
      refine ⟨fun _ => ?_, fun c6 => absurd (lc_ge.mpr c4) c6⟩
      refine ⟨s, ⟨s6, rfl⟩, ?_⟩
      refine ⟨fun c6 => absurd (lc_lt.mp c6) c3', fun _ => ?_⟩
      refine sm_happens (e := e) (c := 4) (s := s) v.2.1 (by omega) hs (by decide) ?_
      exact noted 4 (by omega) (by omega) (by unfold pl_arrive; rw [hN, if_neg c4, if_neg c3', if_neg c5])
    · rw [← a6] at c5
      have ha : pl_arrive hc s e n st rt nw dl = pl_begin hc s e n st nw dl := by unfold pl_arrive; rw [hN, if_neg c4, if_neg c3', if_pos c5]
      rw [ha] at k
      refine sd_go [180] 60 (cd := cd_X9_lays) (by decide) rfl ?_
      refine sm_begins hs p v hnw hdl (by omega) (by omega) n2 (fun hm1 p1 v1 f1 z1 => ?_)
      refine sq_l180 hs p1 v1 ?_ (by omega) (fun hm' p' v' f' n' => k hm' p' v' (f1.tr (f'.mono (fun T k i q => Or.inl q))) n' ?_)
      · rw [f1.1 7 0 0 (by unfold PLm PPm; omega), hnw]
      · rw [f'.1 37 0 s (by unfold PPm; omega), z1]
end LZ
