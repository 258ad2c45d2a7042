/-! the reference: take -/
def PCt (s : Nat) (T k i : Nat) : Prop := ((T = 4 ∨ T = 5) ∧ k = s) ∨ PCp s T k i ∨ (T = 0 ∧ (i = 8 ∨ i = 9))
theorem PK.cg {hc hm hc' hm' : sd_H} {sz : Nat} {g : Nat → Nat} {P P' : Nat → Nat → Nat → Prop} (p : PK hc hm sz g) (x : Fx P hc hc') (z : Fx P' hm hm') (n1 : ¬ P 1 0 1) (n2 : ∀ i, ¬ P 11 0 i) (n3 : ¬ P' 7 0 2) (n4 : ∀ i, ¬ P' 19 0 i) : PK hc' hm' sz g :=
  ⟨by rw [x.1 _ _ _ n1]; exact p.1, by rw [z.1 _ _ _ n3]; exact p.2.1, p.2.2.1, fun i hi => by rw [x.1 _ _ _ (n2 i), z.1 _ _ _ (n4 i)]; exact p.2.2.2 i hi⟩
theorem SN.fx {P : Nat → Nat → Nat → Prop} {hc hc' : sd_H} {sn : Nat} (n : SN hc sn) (x : Fx P hc hc') (n1 : ¬ P 0 0 5) : SN hc' sn :=
  ⟨by rw [x.1 _ _ _ n1]; exact n.1, n.2.1, fun s hs => by rw [x.2.2]; exact n.2.2 s hs⟩
theorem SC.fx {P : Nat → Nat → Nat → Prop} {hc hc' : sd_H} {sn : Nat} (n : SC hc sn) (x : Fx P hc hc') : SC hc' sn := by
  unfold SC at n ⊢; rw [x.2.2]; exact n
theorem sn_r1_fx {h : sd_H} {s : Nat} {q st rt nw : Int32} : Fx (PCt s) h (sn_r1 h s q st rt nw) := by
  unfold sn_r1
  refine (Fx.rf.ri (fun i => ?_)).ri (fun i => ?_)
  all_goals (unfold PCt; omega)
theorem sn_rcv_fx {h : sd_H} {s e : Nat} {q st rt nw dl : Int32} : Fx (PCt s) h (sn_rcv h s e q st rt nw dl).2 := by
  unfold sn_rcv
  split
  · exact Fx.rf.ri (fun i => Or.inl ⟨Or.inl rfl, rfl⟩)
  · refine (sn_r1_fx (q := q) (st := st) (rt := rt) (nw := nw)).tr (Fx.mono (P := PCp s) ?_ (fun T k i q => Or.inr (Or.inl q)))
    refine pl_play_fx _ _ _ _ ?_
    unfold sn_r2
    split
    · exact pl_begin_fx .rf
    · exact pl_arrive_fx .rf
theorem dk_take_fx {h : sd_H} {s e : Nat} : Fx (PCt s) h (dk_take h s e).2 := by
  have x : Fx (PCt s) h (dk_rcv h s e).2 := sn_rcv_fx
  unfold dk_take
  split
  · exact x.pi (Or.inr (Or.inr ⟨rfl, by omega⟩))
  · exact x.pi (Or.inr (Or.inr ⟨rfl, by omega⟩))
section MT
variable {l : Launch} {Q : Option sd_V → sd_H → Prop}
theorem sq_take86 {h1 hm : sd_H} {sz nw sn e t s : Nat} {g : Nat → Nat} {q st rt fa nm : Int32} (R : RR h1 hm sz g nw sn e t) (hs : s < sn) (ht : t ≤ 1000) (hsz : 12 ≤ sz) (hq : q = pk_2 h1 2) (hst : st = pk_4 h1 4) (hrt : rt = dk_rt h1) (hr0 : 0 < rt)
    (k : ∀ hm' e', RR (dk_take h1 s e).2 hm' sz g nw sn e' (t + 1) → Fx PMo hm hm' → Q (some (v_i (dk_take h1 s e).1)) hm') : sd_Wq l none y_X9_take true Q 86 [some (v_r 7 0), some (v_i fa), some (v_i nm), some (v_i q), some (v_i st), some (v_i rt), some (v_i (nI s)), none, none] [] hm 0 0 := by
  have R' := R
  obtain ⟨r1, r2, r3, r4, r5, r6, r7, r8⟩ := R
  have s6 : s < 6 := by have := r3.2.1; omega
  obtain ⟨t1, t2, t3, t4, t5, t6, t7, t8, t9, t10, t11, t12⟩ := r7 s hs
  obtain ⟨a1, a2, a3, a4, a5, a6, a7, a8, a9, a10⟩ := r2
  have hnw : h1.1 0 0 6 = nI nw := a2.2.1
  have hb : e + 3000 < 2 ^ 30 := by omega
  have hqb : 0 ≤ q.toInt ∧ q.toInt < 65536 := by
    rw [hq, show (2 : Int32) = nI 2 from rfl]
    obtain ⟨b, b1, b2, -⟩ := r1.h0 (j := 2) (by omega)
    rw [b2, nI_toInt (by omega)]; omega
  obtain ⟨n1, n2⟩ := nb_j_f (f := h1.1 4 s) t3 hqb ht
  have T := dk_take_fx (h := h1) (s := s) (e := e)
  have others : ∀ hm', Fx (fun T k i => PN s T k i ∨ PJ s T k i ∨ PLm s T k i ∨ (T = 7 ∧ (i = 32 ∨ i = 33))) hm hm' → ∀ e', e ≤ e' → (∀ s', s' < sn → s' ≠ s → RS (dk_take h1 s e).2 hm' s' e' (t + 1) (nI nw)) ∧ (∀ s', sn ≤ s' → s' < 6 → RZ hm' s') := by
    intro hm' f e' he'
    have ma : ∀ s', s' ≠ s → s' < 6 → MA hm hm' s' := fun s' hne h6 => MA.fx f (fun T h1 h2 => by unfold PN PJ PLm PPm; omega) (fun T i h1 h2 h3 => by unfold PN PJ PLm PPm; omega) (fun i h1 h2 => by unfold PN PJ PLm PPm; omega)
    refine ⟨fun s' h1 h2 => (r7 s' h1).cg (CA.fx T (fun T i h => by unfold PCt PCp; omega)) (ma s' h2 (by have := r3.2.1; omega)) he' (by omega), fun s' h1 h2 => (r8 s' h1 h2).cg (ma s' (by omega) h2)⟩
  refine sd_go [] 80 (cd := cd_X9_take) (by decide) rfl ?_
  refine sm_believes s6 t2 (fun hm1 f1 m1 i1 => ?_)
  have hrcv : dk_rcv h1 s e = sn_rcv h1 s e q st rt (nI nw) (h1.1 0 0 7) := by unfold dk_rcv; rw [← hq, ← hst, ← hrt, hnw]
  refine ⟨fun c1 => ?_, fun c1 => ?_⟩
  rotate_left
  · -- not yet
    have v0 : (nb_j (h1.1 4 s) q).1 = 0 := by
      by_cases z : (nb_j (h1.1 4 s) q).1 = 0
      · exact z
      · rw [if_neg z] at c1; exact absurd c1 (by decide)
    have n2 : (nb_j (h1.1 4 s) q).2 4 = 0 ↔ h1.1 4 s 4 = 0 := by
      rcases n2 with z | z | z
      · exact z.2
      · rw [z.1] at v0; exact absurd v0 (by decide)
      · rw [z.1] at v0; exact absurd v0 (by decide)
    have hr : dk_rcv h1 s e = (0, sd_ri h1 4 s (nb_j (h1.1 4 s) q).2) := by rw [hrcv]; unfold sn_rcv; rw [if_pos v0]
    have hd : dk_take h1 s e = (0, sd_pi (sd_ri h1 4 s (nb_j (h1.1 4 s) q).2) 0 0 9 (h1.1 0 0 9 + 1)) := by unfold dk_take; rw [hr]; rfl
    have f2 : Fx (fun T k i => PN s T k i ∨ PJ s T k i ∨ PLm s T k i ∨ (T = 7 ∧ (i = 32 ∨ i = 33))) hm (sd_pi hm1 7 0 33 (hm1.1 7 0 33 + 1)) := (f1.mono (fun T k i q => Or.inl q)).pi (Or.inr (Or.inr (Or.inr ⟨rfl, Or.inr rfl⟩)))
    have fN : Fx (fun T k i => PN s T k i ∨ (T = 7 ∧ i = 33)) hm (sd_pi hm1 7 0 33 (hm1.1 7 0 33 + 1)) := (f1.mono (fun T k i q => Or.inl q)).pi (Or.inr ⟨rfl, rfl⟩)
    obtain ⟨o1, o2⟩ := others _ f2 e (Nat.le_refl _)
    have k := k (sd_pi hm1 7 0 33 (hm1.1 7 0 33 + 1)) e
    have fm : ∀ T i, ¬ (PN s T 0 i) → hm1.1 T 0 i = hm.1 T 0 i := fun T i h => f1.1 T 0 i h
    have e33 : hm1.1 7 0 33 = hm.1 7 0 33 := fm 7 33 (by unfold PN; omega)
    have fin : RR (dk_take h1 s e).2 (sd_pi hm1 7 0 33 (hm1.1 7 0 33 + 1)) sz g nw sn e (t + 1) := by
      refine ⟨r1.cg T f2 (by unfold PCt PCp; omega) (by unfold PCt PCp; omega) (by unfold PN PJ PLm PPm; omega) (by unfold PN PJ PLm PPm; omega), ?_, r3.fx T (by unfold PCt PCp; omega), r4.fx T, ?_, by omega, fun s' hs' => ?_, o2⟩
      · rw [hd]
        refine ⟨fun i hi => ?_, ⟨?_, a2.2.1, a2.2.2⟩, ?_, ?_, ?_, ?_, ?_, ?_, fun i hi => ?_, ?_⟩
        · rw [f2.1 20 0 i (by unfold PN PJ PLm PPm; omega)]; exact a1 i hi
        · exact (fm 7 0 (by unfold PN; omega)).trans a2.1
        · exact (fm 7 1 (by unfold PN; omega)).trans a3
        · exact (fm 7 32 (by unfold PN; omega)).trans a4
        · show hm1.1 7 0 33 + 1 = h1.1 0 0 9 + 1
          rw [e33, a5]
        · exact (fm 7 34 (by unfold PN; omega)).trans a6
        · exact (fm 7 39 (by unfold PN; omega)).trans a7
        · exact (fm 7 38 (by unfold PN; omega)).trans a8
        · exact (fm 45 i (by unfold PN; omega)).trans (a9 i hi)
        · exact (fm 7 8 (by unfold PN; omega)).trans a10
      · rw [hd]
        exact r5.cg rfl (fun _ => rfl) (fun _ => rfl) (fun _ => rfl) (fun _ => rfl) (fm 7 35 (by unfold PN; omega)) (fun i => f1.2.1 44 0 i (by unfold PN; omega))
      · by_cases hne : s' = s
        · subst hne
          rw [hd]
          have e4 : (sd_pi (sd_ri h1 4 s' (nb_j (h1.1 4 s') q).2) 0 0 9 (h1.1 0 0 9 + 1)).1 4 s' = (nb_j (h1.1 4 s') q).2 := by
            show (sd_ri h1 4 s' (nb_j (h1.1 4 s') q).2).1 4 s' = _
            exact sd_ri_at
          have hmT : ∀ T, ¬ (22 ≤ T ∧ T < 30) → T ≠ 7 → hm1.1 T 0 s' = hm.1 T 0 s' := fun T z z2 => fm T s' (by unfold PN; omega)
          refine ⟨(hmT 21 (by omega) (by omega)).trans t1, ?_, ?_, ?_, ⟨(hmT 33 (by omega) (by omega)).trans t5.1, t5.2⟩, ⟨(hmT 34 (by omega) (by omega)).trans t6.1, t6.2⟩, (hmT 35 (by omega) (by omega)).trans t7, (hmT 36 (by omega) (by omega)).trans t8, ?_, ?_, ?_, ?_⟩
          · rw [e4]; exact m1.o
          · rw [e4]; exact n1
          · exact ⟨(hmT 32 (by omega) (by omega)).trans t4.1, (hmT 31 (by omega) (by omega)).trans t4.2.1, (hmT 30 (by omega) (by omega)).trans t4.2.2.1, t4.2.2.2⟩
          · exact t9.cg ⟨rfl, rfl, rfl, rfl, rfl⟩ (MP.fx fN (fun T h1 h2 => by unfold PN; omega) (fun T i h1 h2 h3 => by unfold PN; omega) (fun i h1 h2 => by unfold PN; omega)) (Nat.le_refl _)
          · intro k hk
            show ¬ hm1.1 41 0 _ = 0 → _ < hm1.2.1 42 0 _
            rw [fm 41 _ (by unfold PN; omega), f1.2.1 42 0 _ (by unfold PN; omega)]
            exact t10 k hk
          · rw [e4]
            show hm1.1 37 0 s' = _
            rw [hmT 37 (by omega) (by omega), t11]
            by_cases z : h1.1 4 s' 4 = 0
            · rw [if_pos z, if_pos (n2.mpr z)]
            · rw [if_neg z, if_neg (fun y => z (n2.mp y))]
          · rw [e4]
            intro z
            have z := t12 (fun y => z (n2.mpr y))
            refine ⟨(f1.2.1 38 0 s' (by unfold PN; omega)).trans z.1, fun k hk => (fm 41 _ (by unfold PN; omega)).trans (z.2 k hk)⟩
        · exact o1 s' hs' hne
    have k := k fin (f2.mono (fun T k i q => by unfold PN PJ PLm PPm at q; unfold PMo; omega))
    rw [hd] at k
    exact k
  · have v1 : ¬ (nb_j (h1.1 4 s) q).1 = 0 := fun z => c1 (by rw [if_pos z])
    have hj : hm1.1 7 0 0 = nI nw := (f1.1 7 0 0 (by unfold PN; omega)).trans a2.1
    have fm1 : ∀ T, 30 ≤ T → hm1.1 T 0 s = hm.1 T 0 s := fun T h => f1.1 T 0 s (by unfold PN; omega)
    have mj : MJ (sd_pi hm1 7 0 32 (hm1.1 7 0 32 + 1)) s (h1.1 5 s) := ⟨(fm1 32 (by omega)).trans t4.1, (fm1 31 (by omega)).trans t4.2.1, (fm1 30 (by omega)).trans t4.2.2.1, t4.2.2.2⟩
    refine sm_jitters s6 (show (sd_pi hm1 7 0 32 (hm1.1 7 0 32 + 1)).1 7 0 0 = nI nw from hj) mj (fun hm2 f2 j2 => ?_)
    have e32 : hm2.1 7 0 32 = hm.1 7 0 32 + 1 := by
      rw [f2.1 7 0 32 (by unfold PJ; omega)]
      show hm1.1 7 0 32 + 1 = _
      rw [f1.1 7 0 32 (by unfold PN; omega)]
    have fM : Fx (fun T k i => PN s T k i ∨ PJ s T k i ∨ (T = 7 ∧ i = 32)) hm hm2 := ((f1.mono (P' := fun T k i => PN s T k i ∨ PJ s T k i ∨ (T = 7 ∧ i = 32)) (fun T k i q => Or.inl q)).pi (Or.inr (Or.inr ⟨rfl, rfl⟩))).tr (f2.mono (fun T k i q => Or.inr (Or.inl q)))
    have m2 : MN hm2 s (nb_j (h1.1 4 s) q).2 := fun i hi => by
      rw [f2.1 _ 0 s (by unfold PJ; omega), sd_pi_ne (by omega)]
      exact m1 i hi
    have y0 : hm2.1 22 0 s = (nb_j (h1.1 4 s) q).2 0 := m2 0 (by decide)
    have y1 : hm2.1 23 0 s = (nb_j (h1.1 4 s) q).2 1 := m2 1 (by decide)
    have P2 : PM (sn_r1 h1 s q st rt (nI nw)) hm2 s e 0 := t9.cg ⟨rfl, rfl, rfl, rfl, rfl⟩ (MP.fx fM (fun T h1 h2 => by unfold PN PJ; omega) (fun T i h1 h2 h3 => by unfold PN PJ; omega) (fun i h1 h2 => by unfold PN PJ; omega)) (Nat.le_refl _)
    have V2 : EV (sn_r1 h1 s q st rt (nI nw)) hm2 e := r5.cg rfl (fun _ => rfl) (fun _ => rfl) (fun _ => rfl) (fun _ => rfl) (fM.1 7 0 35 (by unfold PN PJ; omega)) (fun i => fM.2.1 44 0 i (by unfold PN PJ; omega))
    have ND2 : ND hm2 s (nI nw) := fun k hk => by
      rw [fM.1 41 0 _ (by unfold PN PJ; omega), fM.2.1 42 0 _ (by unfold PN PJ; omega)]
      exact t10 k hk
    have hn2 : hm2.1 7 0 0 = nI nw := (fM.1 7 0 0 (by unfold PN PJ; omega)).trans a2.1
    have hd2 : hm2.1 7 0 1 = h1.1 0 0 7 := (fM.1 7 0 1 (by unfold PN PJ; omega)).trans a3
    have hi2 : hm2.1 7 0 37 = hm1.1 7 0 37 := f2.1 7 0 37 (by unfold PJ; omega)
    have hg2 : hm2.1 37 0 s = hm.1 37 0 s := fM.1 37 0 s (by unfold PN PJ; omega)
    have q4 : (nb_j (h1.1 4 s) q).2 4 = 0 := by
      rcases n2 with z | z | z
      · exact absurd z.1 v1
      · exact z.2.2
      · exact z.2.1
    have fin : ∀ (X : sd_H) (eX : Nat) hm3, dk_rcv h1 s e = (1, X) → Fx (PCp s) (sn_r1 h1 s q st rt (nI nw)) X → PM X hm3 s eX 0 → EV X hm3 eX → Fx (PLm s) hm2 hm3 → ND hm3 s (nI nw) → hm3.1 37 0 s = 1 → e ≤ eX → eX ≤ e + 3000 → Q (some (v_i 1)) hm3 := by
      intro X eX hm3 hr xp p3 v3 f3 nd3 b3 le1 le2
      have hd : dk_take h1 s e = (1, sd_pi X 0 0 8 (X.1 0 0 8 + 1)) := by unfold dk_take; rw [hr]; rfl
      have FF : Fx (fun T k i => PN s T k i ∨ PJ s T k i ∨ PLm s T k i ∨ (T = 7 ∧ (i = 32 ∨ i = 33))) hm hm3 := (fM.mono (P' := fun T k i => PN s T k i ∨ PJ s T k i ∨ PLm s T k i ∨ (T = 7 ∧ (i = 32 ∨ i = 33))) (fun T k i q => by
        rcases q with z | z | z
        · exact Or.inl z
        · exact Or.inr (Or.inl z)
        · exact Or.inr (Or.inr (Or.inr ⟨z.1, Or.inl z.2⟩)))).tr (f3.mono (fun T k i q => Or.inr (Or.inr (Or.inl q))))
      obtain ⟨o1, o2⟩ := others _ FF eX le1
      have fm : ∀ T i, ¬ (PN s T 0 i ∨ PJ s T 0 i ∨ PLm s T 0 i ∨ (T = 7 ∧ (i = 32 ∨ i = 33))) → hm3.1 T 0 i = hm.1 T 0 i := fun T i h => FF.1 T 0 i h
      have xs : ∀ T k i, ¬ PCp s T k i → (sd_pi X 0 0 8 (X.1 0 0 8 + 1)).1 T k i = (sd_pi (sn_r1 h1 s q st rt (nI nw)) 0 0 8 (X.1 0 0 8 + 1)).1 T k i := by
        intro T k i hp
        by_cases z : T = 0 ∧ k = 0 ∧ i = 8
        · obtain ⟨rfl, rfl, rfl⟩ := z; rw [sd_pi_eq, sd_pi_eq]
        · rw [sd_pi_ne z, sd_pi_ne z]; exact xp.1 T k i hp
      have x8 : X.1 0 0 8 = h1.1 0 0 8 := xp.1 0 0 8 (by unfold PCp; omega)
      have RF : RR (dk_take h1 s e).2 hm3 sz g nw sn eX (t + 1) := by
        refine ⟨r1.cg T FF (by unfold PCt PCp; omega) (by unfold PCt PCp; omega) (by unfold PN PJ PLm PPm; omega) (by unfold PN PJ PLm PPm; omega), ?_, r3.fx T (by unfold PCt PCp; omega), r4.fx T, ?_, by omega, fun s' hs' => ?_, o2⟩
        · have T' : ∀ i, i ≠ 8 → i ≠ 9 → (dk_take h1 s e).2.1 0 0 i = h1.1 0 0 i := fun i z1 z2 => T.1 0 0 i (by unfold PCt PCp; omega)
          refine ⟨fun i hi => ?_, ⟨?_, ?_, a2.2.2⟩, ?_, ?_, ?_, ?_, ?_, ?_, fun i hi => ?_, ?_⟩
          · rw [fm 20 i (by unfold PN PJ PLm PPm; omega), T.1 8 0 i (by unfold PCt PCp; omega)]; exact a1 i hi
          · exact (fm 7 0 (by unfold PN PJ PLm PPm; omega)).trans a2.1
          · rw [T' 6 (by decide) (by decide)]; exact a2.2.1
          · rw [T' 7 (by decide) (by decide)]; exact (fm 7 1 (by unfold PN PJ PLm PPm; omega)).trans a3
          · rw [hd, f3.1 7 0 32 (by unfold PLm PPm; omega), e32]
            show _ = X.1 0 0 8 + 1
            rw [x8, a4]
          · rw [hd]
            show hm3.1 7 0 33 = X.1 0 0 9
            rw [xp.1 0 0 9 (by unfold PCp; omega), f3.1 7 0 33 (by unfold PLm PPm; omega), fM.1 7 0 33 (by unfold PN PJ; omega)]
            exact a5
          · rw [T' 10 (by decide) (by decide)]; exact (fm 7 34 (by unfold PN PJ PLm PPm; omega)).trans a6
          · rw [T' 11 (by decide) (by decide)]; exact (fm 7 39 (by unfold PN PJ PLm PPm; omega)).trans a7
          · rw [T' 12 (by decide) (by decide)]; exact (fm 7 38 (by unfold PN PJ PLm PPm; omega)).trans a8
          · rw [T.1 10 0 i (by unfold PCt PCp; omega)]; exact (fm 45 i (by unfold PN PJ PLm PPm; omega)).trans (a9 i hi)
          · exact (fm 7 8 (by unfold PN PJ PLm PPm; omega)).trans a10
        · rw [hd]
          exact v3.cg rfl (fun _ => rfl) (fun _ => rfl) (fun _ => rfl) (fun _ => rfl) rfl (fun _ => rfl)
        · by_cases hne : s' = s
          · subst hne
            have e4 : (dk_take h1 s' e).2.1 4 s' = (nb_j (h1.1 4 s') q).2 := by
              rw [hd]
              funext i
              rw [xs 4 s' i (by unfold PCp; omega)]
              show (sd_ri h1 4 s' (nb_j (h1.1 4 s') q).2).1 4 s' i = _
              rw [sd_ri_at]
            have e5 : (dk_take h1 s' e).2.1 5 s' = jt_f (h1.1 5 s') (((nI nw).toInt64 * rt.toInt64 / 1000).toInt32 - st) := by
              rw [hd]
              funext i
              rw [xs 5 s' i (by unfold PCp; omega)]
              show (sd_ri (sd_ri h1 4 s' (nb_j (h1.1 4 s') q).2) 5 s' (jt_f (h1.1 5 s') (((nI nw).toInt64 * rt.toInt64 / 1000).toInt32 - st))).1 5 s' i = _
              rw [sd_ri_at]
            have e3 : ∀ i, (dk_take h1 s' e).2.1 3 s' i = h1.1 3 s' i := fun i => T.1 3 s' i (by unfold PCt PCp; omega)
            have fs : ∀ T, 21 ≤ T → T ≤ 36 → ¬ (22 ≤ T ∧ T < 33) → hm3.1 T 0 s' = hm.1 T 0 s' := fun T z1 z2 z3 => fm T s' (by unfold PN PJ PLm PPm; omega)
            refine ⟨?_, ?_, ?_, ?_, ?_, ?_, ?_, ?_, ?_, nd3, ?_, ?_⟩
            · rw [e3, fs 21 (by omega) (by omega) (by omega)]; exact t1
            · rw [e4]
              intro i hi
              rw [f3.1 _ 0 s' (by unfold PLm PPm; omega)]
              exact m2 i hi
            · rw [e4]; exact n1
            · rw [e5]
              exact ⟨(f3.1 32 0 s' (by unfold PLm PPm; omega)).trans j2.1, (f3.1 31 0 s' (by unfold PLm PPm; omega)).trans j2.2.1, (f3.1 30 0 s' (by unfold PLm PPm; omega)).trans j2.2.2.1, j2.2.2.2⟩
            · rw [e3, fs 33 (by omega) (by omega) (by omega)]; exact t5
            · rw [e3, fs 34 (by omega) (by omega) (by omega)]; exact t6
            · rw [e3, fs 35 (by omega) (by omega) (by omega)]; exact t7
            · rw [e3, fs 36 (by omega) (by omega) (by omega)]; exact t8
            · rw [hd]; exact p3
            · rw [e4, if_pos q4]; exact b3
            · rw [e4]; intro z; exact absurd q4 z
          · exact o1 s' hs' hne
      have k := k hm3 eX RF (FF.mono (fun T k i q => by unfold PN PJ PLm PPm at q; unfold PMo; omega))
      rw [hd] at k
      exact k
    have finish : ∀ (Q' : Option sd_V → sd_H → Prop), (∀ hm', Q (some (v_i 1)) hm' → Q' none hm') → sd_E1 l y_X9_lays [v_r 7 0, v_i (nI s), v_l (nb_long (nb_j (h1.1 4 s) q).2 q), v_i st, v_i rt] hm2 Q' := by
      intro Q' hQ
      have nb := nb_long_b (f := (nb_j (h1.1 4 s) q).2) (q := q)
      by_cases v2 : (nb_j (h1.1 4 s) q).1 = 2
      · have e2 : sn_r2 h1 s e q st rt (nI nw) (h1.1 0 0 7) = pl_begin (sn_r1 h1 s q st rt (nI nw)) s e (nb_long (nb_j (h1.1 4 s) q).2 q) st (nI nw) (h1.1 0 0 7) := by unfold sn_r2; rw [if_pos v2]
        refine sm_lays_b (hc := sn_r1 h1 s q st rt (nI nw)) (nw := nI nw) (dl := h1.1 0 0 7) s6 ?_ P2 V2 hn2 hd2 hb (by
          rcases n2 with z | z | z
          · exact absurd z.1 v1
          · exact absurd (z.1.symm.trans v2) (by decide)
          · exact nb_long_0 z.2.2.1 z.2.2.2 hqb.1) nb.2 (fun hm3 p3 v3 f3 nd3 b3 => hQ hm3 ?_)
        · rw [hg2, hi2, i1, t11]
          by_cases z : h1.1 4 s 4 ≤ 0
          · right; rw [if_pos ⟨z, v2⟩]; decide
          · left; rw [if_neg (fun y => z (by rw [y]; decide))]
        · refine fin _ _ hm3 ?_ (pl_play_fx _ _ _ _ (pl_begin_fx .rf)) p3 v3 f3 nd3 b3 ?_ ?_
          · rw [hrcv]; unfold sn_rcv; rw [if_neg v1, e2]
          · have ee : evn (pl_begin (sn_r1 h1 s q st rt (nI nw)) s e (nb_long (nb_j (h1.1 4 s) q).2 q) st (nI nw) (h1.1 0 0 7)) = e + 1 := evn_of pl_begin_e (by omega)
            rw [ee]
            have := (pl_play_le (s := s) (nw := nI nw) 32 (pl_begin (sn_r1 h1 s q st rt (nI nw)) s e (nb_long (nb_j (h1.1 4 s) q).2 q) st (nI nw) (h1.1 0 0 7)) (e + 1) 0).1
            omega
          · have ee : evn (pl_begin (sn_r1 h1 s q st rt (nI nw)) s e (nb_long (nb_j (h1.1 4 s) q).2 q) st (nI nw) (h1.1 0 0 7)) = e + 1 := evn_of pl_begin_e (by omega)
            rw [ee]
            have := (pl_play_le (s := s) (nw := nI nw) 32 (pl_begin (sn_r1 h1 s q st rt (nI nw)) s e (nb_long (nb_j (h1.1 4 s) q).2 q) st (nI nw) (h1.1 0 0 7)) (e + 1) 0).2
            omega
      · have e2 : sn_r2 h1 s e q st rt (nI nw) (h1.1 0 0 7) = pl_arrive (sn_r1 h1 s q st rt (nI nw)) s e (nb_long (nb_j (h1.1 4 s) q).2 q) st rt (nI nw) (h1.1 0 0 7) := by unfold sn_r2; rw [if_neg v2]
        have f40 : h1.1 4 s 4 = 0 := by
          rcases n2 with z | z | z
          · exact absurd z.1 v1
          · exact z.2.1
          · exact absurd z.1 v2
        refine sm_lays_a (hc := sn_r1 h1 s q st rt (nI nw)) (nw := nI nw) (dl := h1.1 0 0 7) s6 ?_ ?_ ND2 hr0 P2 V2 hn2 hd2 hb nb.1 nb.2 (fun hm3 p3 v3 f3 nd3 b3 => hQ hm3 ?_)
        · rw [hg2, t11, if_pos f40]
        · rw [hi2, i1, if_neg (fun z => v2 z.2)]
        · have h4 := pl_arrive_e (h := sn_r1 h1 s q st rt (nI nw)) (s := s) (n := nb_long (nb_j (h1.1 4 s) q).2 q) (st := st) (rt := rt) (nw := nI nw) (dl := h1.1 0 0 7) V2.1
          have ee : ∃ e2, (e2 = e ∨ e2 = e + 1) ∧ evn (pl_arrive (sn_r1 h1 s q st rt (nI nw)) s e (nb_long (nb_j (h1.1 4 s) q).2 q) st rt (nI nw) (h1.1 0 0 7)) = e2 := by
            rcases h4 with h4 | h4
            · exact ⟨e, Or.inl rfl, evn_of h4 (by omega)⟩
            · exact ⟨e + 1, Or.inr rfl, evn_of h4 (by omega)⟩
          obtain ⟨e2', hE, ee⟩ := ee
          have le := pl_play_le (s := s) (nw := nI nw) 32 (pl_arrive (sn_r1 h1 s q st rt (nI nw)) s e (nb_long (nb_j (h1.1 4 s) q).2 q) st rt (nI nw) (h1.1 0 0 7)) e2' 0
          refine fin _ _ hm3 ?_ (pl_play_fx _ _ _ _ (pl_arrive_fx .rf)) p3 v3 f3 nd3 b3 ?_ ?_
          · rw [hrcv]; unfold sn_rcv; rw [if_neg v1, e2]
          · rw [ee]; omega
          · rw [ee]; omega
    refine ⟨s, ⟨s6, rfl⟩, s, ⟨s6, rfl⟩, ?_⟩
    refine ⟨fun (c2 : q ≤ hm2.1 22 0 s) => ?_, fun (c2 : ¬ q ≤ hm2.1 22 0 s) => ?_⟩
    · have en : (hm2.1 23 0 s).toInt64 + q.toInt64 - 0 = nb_long (nb_j (h1.1 4 s) q).2 q := by
        rw [y0] at c2
        unfold nb_long
        rw [if_pos c2, y1]; exact Int64.sub_zero _
      show sd_E1 l y_X9_lays [v_r 7 0, v_i (nI s), v_l ((hm2.1 23 0 s).toInt64 + q.toInt64 - 0), v_i st, v_i rt] hm2 _
      rw [en]
      exact finish _ (fun hm' z => z)
    · have en : (hm2.1 23 0 s).toInt64 + q.toInt64 - 65536 = nb_long (nb_j (h1.1 4 s) q).2 q := by
        rw [y0] at c2
        unfold nb_long
        rw [if_neg c2, y1]
      show sd_E1 l y_X9_lays [v_r 7 0, v_i (nI s), v_l ((hm2.1 23 0 s).toInt64 + q.toInt64 - 65536), v_i st, v_i rt] hm2 _
      rw [en]
      exact finish _ (fun hm' z => z)
end MT
