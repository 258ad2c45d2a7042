/-! the reference's plays goes as the class's playDue -/
section PG
variable {h : sd_H} {s : Nat} {nw : Int32}
theorem pl_gap_hit : ∀ (n g : Nat), n ≤ 32 → pl_gap h s nw n = g → g < 32 → 32 - n ≤ g ∧ ¬ h.1 18 s (sl (h.2.1 6 s 6 + (nI g).toInt64)) = 0 ∧ ¬ nw.toInt64 < h.2.1 17 s (sl (h.2.1 6 s 6 + (nI g).toInt64))
  | 0, g, _, e, hg => by unfold pl_gap at e; omega
  | n + 1, g, hn, e, hg => by
    unfold pl_gap at e
    split at e
    · obtain ⟨b1, b2⟩ := pl_gap_hit n g (by omega) e hg
      exact ⟨by omega, b2⟩
    · split at e
      · obtain ⟨b1, b2⟩ := pl_gap_hit n g (by omega) e hg
        exact ⟨by omega, b2⟩
      · next q1 q2 =>
        subst e
        exact ⟨Nat.le_refl _, q1, q2⟩
theorem pl_gap_no : ∀ (n : Nat), n ≤ 32 → pl_gap h s nw n = 32 → ∀ g, 32 - n ≤ g → g < 32 → h.1 18 s (sl (h.2.1 6 s 6 + (nI g).toInt64)) = 0 ∨ nw.toInt64 < h.2.1 17 s (sl (h.2.1 6 s 6 + (nI g).toInt64))
  | 0, _, _, g, h1, h2 => by omega
  | n + 1, hn, e, g, h1, h2 => by
    unfold pl_gap at e
    split at e
    · next q =>
      by_cases z : g = 32 - (n + 1)
      · rw [z]; exact Or.inl q
      · exact pl_gap_no n (by omega) e g (by omega) h2
    · split at e
      · next q =>
        by_cases z : g = 32 - (n + 1)
        · rw [z]; exact Or.inr q
        · exact pl_gap_no n (by omega) e g (by omega) h2
      · omega
theorem pl_gap_z (hz : ∀ g, g < 32 → h.1 18 s (sl (h.2.1 6 s 6 + (nI g).toInt64)) = 0) : ∀ n, n ≤ 32 → pl_gap h s nw n = 32
  | 0, _ => rfl
  | n + 1, hn => by
    unfold pl_gap
    rw [if_pos (hz (32 - (n + 1)) (by omega))]
    exact pl_gap_z hz n (by omega)
end PG
theorem wc_0 {w : Nat → Int32} : ∀ (n i : Nat), wc w i n = 0 → ∀ k, k < n → w (i + k) = 0
  | 0, _, _, k, hk => by omega
  | n + 1, i, h, k, hk => by
    have h : (if w i = 0 then 0 else 1) + wc w (i + 1) n = 0 := h
    have h1 : w i = 0 := by
      by_cases q : w i = 0
      · exact q
      · rw [if_neg q] at h; omega
    cases k with
    | zero => exact h1
    | succ k =>
      rw [show i + (k + 1) = i + 1 + k by omega]
      exact wc_0 n (i + 1) (by omega) k (by omega)
/-- none that waits is due -/
def ND (hm : sd_H) (s : Nat) (nw : Int32) : Prop := ∀ k, k < 32 → ¬ hm.1 41 0 (32 * s + k) = 0 → nw.toInt64 < hm.2.1 42 0 (32 * s + k)
section PY2
variable {l : Launch} {Q : Option sd_V → sd_H → Prop} {s : Nat} {nw : Int32}
theorem PM.g {hc hm : sd_H} {e g : Nat} (p : PM hc hm s e 0) (hg : g < 32) : hc.1 18 s (sl (hc.2.1 6 s 6 + (nI g).toInt64)) = hm.1 41 0 (32 * s + g) ∧ (¬ hm.1 41 0 (32 * s + g) = 0 → hc.2.1 17 s (sl (hc.2.1 6 s 6 + (nI g).toInt64)) = hm.2.1 42 0 (32 * s + g)) := by
  obtain ⟨a1, a2, a3, a4, a5, a6, a7, a8, a9, a10, a11⟩ := p
  have e2 : hc.2.1 6 s 6 = hm.2.1 38 0 s := by rw [a2]; exact Int64.add_zero _
  rw [e2, nI_l (by omega)]
  refine ⟨?_, fun q => (a4 g hg (by omega) q).symm⟩
  rw [a3 g hg, if_neg (by omega)]
theorem sq_scan {hc hm : sd_H} {e : Nat} {d : Int32} (p : PM hc hm s e 0) (hs : s < 6) (hnw : hm.1 7 0 0 = nw) : ∀ (n : Nat) (j4 : Option sd_V), n ≤ 32 → (pl_gap hc s nw n = 32 → Q (some (v_i d)) hm) → (∀ g, pl_gap hc s nw n = g → g < 32 → sd_Wq l none y_X9_plays true Q 47 [some (v_r 7 0), some (v_i (nI s)), some (v_i d), some (v_i (nI g)), some (v_i 0)] [] hm 0 0) → sd_Wq l none y_X9_plays true Q 4 [some (v_r 7 0), some (v_i (nI s)), some (v_i d), some (v_i (nI (32 - n))), j4] [] hm 0 0
  | 0, j4, hn, k1, k2 => by
    refine sd_go [4, 47, 75] 60 (cd := cd_X9_plays) (by decide) rfl ?_
    exact ⟨fun _ => k1 rfl, fun c => absurd (show (32 : Int32) ≤ nI 32 by decide) c⟩
  | n + 1, j4, hn, k1, k2 => by
    refine sd_go [4, 47, 75] 60 (cd := cd_X9_plays) (by decide) rfl ?_
    unfold pl_gap at k1 k2
    generalize hi : 32 - (n + 1) = i at k1 k2 ⊢
    have hi2 : i < 32 := by omega
    refine ⟨fun c => absurd c (nI_ge (b := 32) hi2 (by decide)), fun _ => ?_⟩
    obtain ⟨g1, g2⟩ := p.g hi2
    have I : 32 * s + i < 192 := by omega
    refine ⟨32 * s + i, ⟨I, ix32 s i⟩, ?_⟩
    have nxt : (pl_gap hc s nw n = 32 → Q (some (v_i d)) hm) → (∀ g, pl_gap hc s nw n = g → g < 32 → sd_Wq l none y_X9_plays true Q 47 [some (v_r 7 0), some (v_i (nI s)), some (v_i d), some (v_i (nI g)), some (v_i 0)] [] hm 0 0) → ∀ j, sd_Wq l none y_X9_plays true Q 4 [some (v_r 7 0), some (v_i (nI s)), some (v_i d), some (v_i (nI i + 1)), j] [] hm 0 0 := by
      intro k1 k2 j
      rw [nI_1, show i + 1 = 32 - n by omega]
      exact sq_scan p hs hnw n j (by omega) k1 k2
    refine ⟨fun (c1 : hm.1 41 0 (32 * s + i) = 0) => ?_, fun (c1 : ¬ hm.1 41 0 (32 * s + i) = 0) => ?_⟩
    · rw [← g1] at c1
      rw [if_pos c1] at k1 k2
      exact nxt k1 k2 _
    have g2 := g2 c1
    rw [← g1] at c1
    rw [if_neg c1] at k1 k2
    refine ⟨32 * s + i, ⟨I, ix32 s i⟩, ?_⟩
    refine ⟨fun c2 => ?_, fun c2 => ?_⟩
    · have c2 := lc_gt.mp c2
      rw [hnw, ← g2] at c2
      rw [if_pos c2] at k1 k2
      exact nxt k1 k2 _
    · have c2 : ¬ (hm.1 7 0 0).toInt64 < hm.2.1 42 0 (32 * s + i) := fun q => c2 (lc_gt.mpr q)
      rw [hnw, ← g2] at c2
      rw [if_neg c2] at k1 k2
      exact k2 i rfl hi2
theorem mh2_pp {hm : sd_H} {e c : Nat} {n : Int64} (h5 : c ≤ 5) : Fx (PPm s) hm (mh2 hm e c s n) :=
  (mh2_fx (hm := hm) (e := e) (c := c) (s := s) (n := n)).mono (fun T k i q => by unfold PPm; omega)
theorem sq_lost {g : Nat} {d : Int32} (hs : s < 6) (hg : g < 32) : ∀ (m : Nat) (hc hm : sd_H) (e : Nat), m ≤ g → PM hc hm s e (g - m) → EV hc hm e → hm.1 7 0 0 = nw → e + m < 2 ^ 30 → (∀ hm', PM (pl_steps s nw m hc e) hm' s (e + m) g → EV (pl_steps s nw m hc e) hm' (e + m) → Fx (PPm s) hm hm' → (∀ i, hm'.1 41 0 i = hm.1 41 0 i) → sd_Wq l none y_X9_plays true Q 75 [some (v_r 7 0), some (v_i (nI s)), some (v_i d), some (v_i (nI g)), some (v_i (nI g))] [] hm' 0 0) → sd_Wq l none y_X9_plays true Q 47 [some (v_r 7 0), some (v_i (nI s)), some (v_i d), some (v_i (nI g)), some (v_i (nI (g - m)))] [] hm 0 0
  | 0, hc, hm, e, hm0, p, v, hnw, hb, k => by
    refine sd_go [4, 47, 75] 60 (cd := cd_X9_plays) (by decide) rfl ?_
    exact ⟨fun _ => k hm p v .rf (fun _ => rfl), fun c => absurd (nI_le (Nat.le_refl g) (by omega)) c⟩
  | m + 1, hc, hm, e, hm0, p, v, hnw, hb, k => by
    refine sd_go [4, 47, 75] 60 (cd := cd_X9_plays) (by decide) rfl ?_
    refine ⟨fun c => absurd c (nI_ge (by omega) (by omega)), fun _ => ?_⟩
    refine ⟨s, ⟨show s < 6 by omega, rfl⟩, ?_⟩
    refine sm_happens (e := e) (c := 2) (s := s) v.2.1 (by omega) hs (by decide) ?_
    rw [nI_l (n := g - (m + 1)) (by omega)]
    have st := p.step (c := 2) (nw := nw) v (by omega) hs (by decide) (by decide) hnw
    have fx := mh2_pp (s := s) (hm := hm) (e := e) (c := 2) (n := hm.2.1 38 0 s + lN (g - (m + 1))) (by decide)
    show sd_Wq l none y_X9_plays true Q 47 [some (v_r 7 0), some (v_i (nI s)), some (v_i d), some (v_i (nI g)), some (v_i (nI (g - (m + 1)) + 1))] [] (mh2 hm e 2 s (hm.2.1 38 0 s + lN (g - (m + 1)))) 0 0
    rw [nI_1]
    have f2 := mh2_fx (hm := hm) (e := e) (c := 2) (s := s) (n := hm.2.1 38 0 s + lN (g - (m + 1)))
    generalize mh2 hm e 2 s (hm.2.1 38 0 s + lN (g - (m + 1))) = hm1 at st fx f2 ⊢
    rw [show g - (m + 1) + 1 = g - m by omega] at st ⊢
    refine sq_lost hs hg m (pl_step hc s e 2 nw) hm1 (e + 1) (by omega) st.1 st.2 (by rw [fx.1 7 0 0 (by unfold PPm; omega), hnw]) (by omega) (fun hm' p' v' f' w' => ?_)
    rw [show e + 1 + m = e + (m + 1) by omega] at p' v'
    exact k hm' p' v' (fx.tr f') (fun i => (w' i).trans (f2.1 41 0 i (by omega)))
theorem sq_plays (hs : s < 6) : ∀ (n : Nat) (hc hm : sd_H) (e : Nat) (d : Int32) (j4 : Option sd_V), PM hc hm s e 0 → EV hc hm e → hm.1 7 0 0 = nw → e + 33 * n < 2 ^ 30 → wc (fun k => hm.1 41 0 (32 * s + k)) 0 32 ≤ n → (∀ hm', PM (pl_play s nw n hc e d).2.1 hm' s (pl_play s nw n hc e d).2.2 0 → EV (pl_play s nw n hc e d).2.1 hm' (pl_play s nw n hc e d).2.2 → Fx (PPm s) hm hm' → ND hm' s nw → Q (some (v_i (pl_play s nw n hc e d).1)) hm') → sd_Wq l none y_X9_plays true Q 4 [some (v_r 7 0), some (v_i (nI s)), some (v_i d), some (v_i (nI (32 - 32))), j4] [] hm 0 0 := by
  intro n
  induction n with
  | zero =>
    intro hc hm e d j4 p v hnw hb hw k
    have hz : ∀ g, g < 32 → hm.1 41 0 (32 * s + g) = 0 := fun g hg => by
      have := wc_0 (w := fun k => hm.1 41 0 (32 * s + k)) 32 0 (by omega) g hg
      rw [Nat.zero_add] at this
      exact this
    have g32 : pl_gap hc s nw 32 = 32 := pl_gap_z (fun g hg => by rw [(p.g hg).1]; exact hz g hg) 32 (Nat.le_refl _)
    refine sq_scan p hs hnw 32 j4 (Nat.le_refl _) (fun _ => k hm p v .rf (fun g hg q => absurd (hz g hg) q)) (fun g e2 hg => by omega)
  | succ n ih =>
    intro hc hm e d j4 p v hnw hb hw k
    unfold pl_play at k
    have nd : pl_gap hc s nw 32 = 32 → ND hm s nw := fun q g hg hw => by
      have := pl_gap_no 32 (Nat.le_refl _) q g (by omega) hg
      obtain ⟨g1, g2⟩ := p.g hg
      rw [g1, g2 hw] at this
      rcases this with z | z
      · exact absurd z hw
      · exact z
    by_cases c1 : hc.1 6 s 5 ≤ 0
    · rw [if_pos c1] at k
      have e6 := p.2.2.2.2.2.1
      rw [e6] at c1
      have hw0 : wc (fun k => hm.1 41 0 (32 * s + k)) 0 32 = 0 := by
        have hle := wc_le (fun k => hm.1 41 0 (32 * s + k)) 32 0
        have := (nI_leI (a := wc (fun k => hm.1 41 0 (32 * s + k)) 0 32) (b := 0) (by omega) (by decide)).mp c1
        omega
      have hz : ∀ g, g < 32 → hm.1 41 0 (32 * s + g) = 0 := fun g hg => by
        have := wc_0 32 0 hw0 g hg
        rw [Nat.zero_add] at this
        exact this
      have g32 : pl_gap hc s nw 32 = 32 := pl_gap_z (fun g hg => by rw [(p.g hg).1]; exact hz g hg) 32 (Nat.le_refl _)
      exact sq_scan p hs hnw 32 j4 (Nat.le_refl _) (fun _ => k hm p v .rf (nd g32)) (fun g e2 hg => by omega)
    rw [if_neg c1] at k
    by_cases c2 : pl_gap hc s nw 32 = 32
    · rw [if_pos c2] at k
      exact sq_scan p hs hnw 32 j4 (Nat.le_refl _) (fun _ => k hm p v .rf (nd c2)) (fun g e2 hg => by omega)
    rw [if_neg c2] at k
    refine sq_scan p hs hnw 32 j4 (Nat.le_refl _) (fun q => absurd q c2) (fun g eg hg => ?_)
    obtain ⟨-, b2, -⟩ := pl_gap_hit 32 g (Nat.le_refl _) eg hg
    rw [(p.g hg).1] at b2
    rw [eg] at k
    have L := sq_lost (l := l) (Q := Q) (s := s) (nw := nw) (g := g) (d := d) hs hg g hc hm e (Nat.le_refl _) (by rw [Nat.sub_self]; exact p) v hnw (by omega) (fun hm1 p1 v1 f1 w1 => ?_)
    · rw [Nat.sub_self] at L; exact L
    refine sd_go [4, 47] 60 (cd := cd_X9_plays) (by decide) rfl ?_
    refine ⟨s, ⟨show s < 6 by omega, rfl⟩, ?_⟩
    refine sm_happens (e := e + g) (c := 1) (s := s) v1.2.1 (by omega) hs (by decide) ?_
    rw [nI_l (n := g) (by omega)]
    have hnw1 : hm1.1 7 0 0 = nw := by rw [f1.1 7 0 0 (by unfold PPm; omega), hnw]
    have st := p1.step (c := 1) (nw := nw) v1 hg hs (by decide) (by decide) hnw1
    have fx := mh2_pp (s := s) (hm := hm1) (e := e + g) (c := 1) (n := hm1.2.1 38 0 s + lN g) (by decide)
    have f2 := mh2_fx (hm := hm1) (e := e + g) (c := 1) (s := s) (n := hm1.2.1 38 0 s + lN g)
    generalize mh2 hm1 (e + g) 1 s (hm1.2.1 38 0 s + lN g) = hm2 at st fx f2 ⊢
    show sd_E1 l y_X9_shift [v_r 7 0, v_i (nI s), v_i (nI g + 1)] hm2 _
    rw [nI_1]
    refine sm_shift hs (by omega) (by omega) st.1.2.2.2.2.1 (fun hm3 f3 w3 w4 w5 => ?_)
    obtain ⟨p3, ew⟩ := st.1.shift (by omega) (by omega) f3 w3 w4 w5 (by omega)
    have v3 : EV (pl_step (pl_steps s nw g hc e) s (e + g) 1 nw) hm3 (e + g + 1) := st.2.cg rfl (fun _ => rfl) (fun _ => rfl) (fun _ => rfl) (fun _ => rfl) (f3.1 7 0 35 (by unfold PSh; omega)) (fun i => f3.2.1 44 0 i (by unfold PSh; omega))
    have F := (f1.tr fx).tr (f3.mono (P' := PPm s) (fun T k i q => by unfold PSh at q; unfold PPm; omega))
    show sd_Wq l none y_X9_plays true Q 4 [some (v_r 7 0), some (v_i (nI s)), some (v_i (d + nI (g + 1))), some (v_i (nI (32 - 32))), some (v_i (nI g))] [] hm3 0 0
    rw [← nI_1 g]
    refine ih (pl_turn hc s e nw g) hm3 (e + g + 1) (d + (nI g + 1)) _ p3 v3 ?_ (by omega) ?_ (fun hm' p' v' f' n' => k hm' p' v' (F.tr f') n')
    · rw [F.1 7 0 0 (by unfold PPm; omega), hnw]
    · rw [ew]
      have e1 : wc (fun k => hm2.1 41 0 (32 * s + k)) (g + 1) (32 - (g + 1)) = wc (fun k => hm.1 41 0 (32 * s + k)) (g + 1) (32 - (g + 1)) := wc_cg _ _ _ (fun k _ => (f2.1 41 0 _ (by omega)).trans (w1 _))
      have e2 := wc_app (fun k => hm.1 41 0 (32 * s + k)) g 0 (32 - g)
      have e3 : wc (fun k => hm.1 41 0 (32 * s + k)) (0 + g) (32 - g) = 1 + wc (fun k => hm.1 41 0 (32 * s + k)) (g + 1) (32 - (g + 1)) := by
        rw [Nat.zero_add, show 32 - g = (32 - (g + 1)) + 1 by omega]
        show (if hm.1 41 0 (32 * s + g) = 0 then 0 else 1) + _ = _
        rw [if_neg b2]
      rw [show g + (32 - g) = 32 by omega] at e2
      omega
theorem sm_plays {hc hm : sd_H} {e : Nat} (hs : s < 6) (p : PM hc hm s e 0) (v : EV hc hm e) (hnw : hm.1 7 0 0 = nw) (hb : e + 2000 < 2 ^ 30) (k : ∀ hm', PM (pl_play s nw 32 hc e 0).2.1 hm' s (pl_play s nw 32 hc e 0).2.2 0 → EV (pl_play s nw 32 hc e 0).2.1 hm' (pl_play s nw 32 hc e 0).2.2 → Fx (PPm s) hm hm' → ND hm' s nw → Q (some (v_i (pl_play s nw 32 hc e 0).1)) hm') : sd_E1 l y_X9_plays [v_r 7 0, v_i (nI s)] hm Q := by
  refine sd_e1 [4, 47, 75] 60 (cd := cd_X9_plays) (by decide) rfl (Nat.le_of_ble_eq_true rfl) ?_
  exact sq_plays hs 32 hc hm e 0 _ p v hnw (by omega) (wc_le _ _ _) k
end PY2
