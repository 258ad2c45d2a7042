/-! the reference: pass -/
theorem RS.play {hx hmx X hm' : sd_H} {s ex eX t : Nat} {nw nw' : Int32} (r : RS hx hmx s ex t nw) (x : Fx (PCp s) hx X) (f : Fx (PPm s) hmx hm') (p : PM X hm' s eX 0) (nd : ND hm' s nw') (hz : ¬ hx.1 4 s 4 = 0 → hm'.2.1 38 0 s = 0 ∧ ∀ k, k < 32 → hm'.1 41 0 (32 * s + k) = 0) : RS X hm' s eX t nw' := by
  obtain ⟨r1, r2, r3, r4, r5, r6, r7, r8, r9, r10, r11, r12⟩ := r
  have x3 : ∀ i, X.1 3 s i = hx.1 3 s i := fun i => x.1 3 s i (by unfold PCp; omega)
  have x4 : X.1 4 s = hx.1 4 s := funext fun i => x.1 4 s i (by unfold PCp; omega)
  have x5 : X.1 5 s = hx.1 5 s := funext fun i => x.1 5 s i (by unfold PCp; omega)
  have fi : ∀ T, 21 ≤ T → T ≤ 37 → hm'.1 T 0 s = hmx.1 T 0 s := fun T h1 h2 => f.1 T 0 s (by unfold PPm; omega)
  refine ⟨?_, ?_, ?_, ?_, ?_, ?_, ?_, ?_, p, nd, ?_, ?_⟩
  · rw [x3, fi 21 (by decide) (by decide)]; exact r1
  · rw [x4]; intro i hi; rw [fi _ (by omega) (by omega)]; exact r2 i hi
  · rw [x4]; exact r3
  · rw [x5]
    exact ⟨(fi 32 (by decide) (by decide)).trans r4.1, (fi 31 (by decide) (by decide)).trans r4.2.1, (fi 30 (by decide) (by decide)).trans r4.2.2.1, r4.2.2.2⟩
  · rw [x3, fi 33 (by decide) (by decide)]; exact r5
  · rw [x3, fi 34 (by decide) (by decide)]; exact r6
  · rw [x3, fi 35 (by decide) (by decide)]; exact r7
  · rw [x3, fi 36 (by decide) (by decide)]; exact r8
  · rw [x4, fi 37 (by decide) (by decide)]; exact r11
  · rw [x4]; exact hz
/-- nothing waits: nothing plays -/
theorem pl_play_z {h hm : sd_H} {s e : Nat} {nw d : Int32} (p : PM h hm s e 0) (hz : ∀ k, k < 32 → hm.1 41 0 (32 * s + k) = 0) : pl_play s nw 32 h e d = (d, h, e) :=
  pl_play_no p (fun k hk hw => absurd (hz k hk) hw)
section PA
variable {l : Launch} {Q : Option sd_V → sd_H → Prop}
def IP (hx hmx : sd_H) (sz : Nat) (g : Nat → Nat) (nw nw' sn e t i : Nat) : Prop :=
  PK hx hmx sz g ∧ RG hx hmx nw' sn ∧ SN hx sn ∧ SC hx sn ∧ EV hx hmx e ∧ (∀ s, s < i → RS hx hmx s e t (nI nw')) ∧ (∀ s, i ≤ s → s < sn → RS hx hmx s e t (nI nw)) ∧ ∀ s, sn ≤ s → s < 6 → RZ hmx s
theorem RG.fx {P P' : Nat → Nat → Nat → Prop} {hc hm hc' hm' : sd_H} {nw sn : Nat} (r : RG hc hm nw sn) (x : Fx P hc hc') (z : Fx P' hm hm') (h1 : ∀ T i, (T = 0 ∨ T = 8 ∨ T = 10) → ¬ P T 0 i) (h2 : ∀ i, ¬ P' 20 0 i) (h3 : ∀ i, ¬ P' 45 0 i) (h4 : ∀ i, (i = 0 ∨ i = 1 ∨ i = 8 ∨ (32 ≤ i ∧ i ≤ 39 ∧ i ≠ 35 ∧ i ≠ 37)) → ¬ P' 7 0 i) : RG hc' hm' nw sn := by
  obtain ⟨a1, a2, a3, a4, a5, a6, a7, a8, a9, a10⟩ := r
  have x0 : ∀ i, hc'.1 0 0 i = hc.1 0 0 i := fun i => x.1 0 0 i (h1 0 i (by omega))
  refine ⟨fun i hi => ?_, ⟨?_, ?_, a2.2.2⟩, ?_, ?_, ?_, ?_, ?_, ?_, fun i hi => ?_, ?_⟩
  · rw [x.1 8 0 i (h1 8 i (by omega)), z.1 20 0 i (h2 i)]; exact a1 i hi
  · rw [z.1 7 0 0 (h4 _ (by omega))]; exact a2.1
  · rw [x0]; exact a2.2.1
  · rw [x0, z.1 7 0 1 (h4 _ (by omega))]; exact a3
  · rw [x0, z.1 7 0 32 (h4 _ (by omega))]; exact a4
  · rw [x0, z.1 7 0 33 (h4 _ (by omega))]; exact a5
  · rw [x0, z.1 7 0 34 (h4 _ (by omega))]; exact a6
  · rw [x0, z.1 7 0 39 (h4 _ (by omega))]; exact a7
  · rw [x0, z.1 7 0 38 (h4 _ (by omega))]; exact a8
  · rw [x.1 10 0 i (h1 10 i (by omega)), z.1 45 0 i (h3 i)]; exact a9 i hi
  · rw [z.1 7 0 8 (h4 _ (by omega))]; exact a10
set_option maxRecDepth 100000 in
theorem sq_mpass {sz nw nw' sn t : Nat} {g : Nat → Nat} {ms : Int32} : ∀ (n i : Nat) (hx hmx : sd_H) (e : Nat) (d : Int32), i + n = sn → IP hx hmx sz g nw nw' sn e t i → e + 2000 + 1056 * n < 2 ^ 30 → (∀ hm' e', IP (dk_pass (nI nw') i n hx e d).2.1 hm' sz g nw nw' sn e' t sn → e' ≤ e + 1056 * n → Fx PMo hmx hm' → Q (some (v_i (dk_pass (nI nw') i n hx e d).1)) hm') → sd_Wq l none y_X9_pass true Q 43 [some (v_r 7 0), some (v_i ms), some (v_i d), some (v_i (nI i))] [] hmx 0 0
  | 0, i, hx, hmx, e, d, hi, I, hb, k => by
    refine sd_go [43] 60 (cd := cd_X9_pass) (by decide) rfl ?_
    have I' := I
    obtain ⟨i1, i2, i3, i4, i5, i6, i7, i8⟩ := I
    have hN : hmx.1 7 0 8 = nI sn := i2.2.2.2.2.2.2.2.2.2
    refine ⟨fun _ => ?_, fun c => absurd ?_ c⟩
    · refine k hmx e ?_ (by omega) .rf
      rw [show i = sn by omega] at I'
      exact I'
    · show hmx.1 7 0 8 ≤ nI i
      rw [hN, show sn = i by omega]
      exact Int32.le_refl _
  | n + 1, i, hx, hmx, e, d, hi, I, hb, k => by
    refine sd_go [43] 60 (cd := cd_X9_pass) (by decide) rfl ?_
    obtain ⟨i1, i2, i3, i4, i5, i6, i7, i8⟩ := I
    have hN : hmx.1 7 0 8 = nI sn := i2.2.2.2.2.2.2.2.2.2
    have n6 := i3.2.1
    refine ⟨fun c => absurd c ?_, fun _ => ?_⟩
    · show ¬ hmx.1 7 0 8 ≤ nI i
      rw [hN]
      exact nI_ge (by omega) (by omega)
    have r := i7 i (Nat.le_refl _) (by omega)
    refine sm_plays (hc := hx) (e := e) (nw := nI nw') (by omega) r.2.2.2.2.2.2.2.2.1 i5 i2.2.1.1 (by omega) (fun hm' p' v' f' nd' => ?_)
    have le := pl_play_le (s := i) (nw := nI nw') 32 hx e 0
    have xp : Fx (PCp i) hx (pl_play i (nI nw') 32 hx e 0).2.1 := pl_play_fx _ _ _ _ .rf
    have hz : ¬ hx.1 4 i 4 = 0 → hm'.2.1 38 0 i = 0 ∧ ∀ k, k < 32 → hm'.1 41 0 (32 * i + k) = 0 := by
      intro z
      obtain ⟨y1, y2⟩ := r.2.2.2.2.2.2.2.2.2.2.2 z
      have e0 := pl_play_z (nw := nI nw') (d := 0) r.2.2.2.2.2.2.2.2.1 y2
      rw [e0] at p'
      have y3 : hx.2.1 6 i 6 = 0 := by rw [r.2.2.2.2.2.2.2.2.1.2.1, y1]; rfl
      have y4 : hm'.2.1 38 0 i = 0 := by
        have := p'.2.1
        rw [y3] at this
        rw [show hm'.2.1 38 0 i + lN 0 = hm'.2.1 38 0 i from Int64.add_zero _] at this
        exact this.symm
      refine ⟨y4, fun k hk => ?_⟩
      have y5 := p'.2.2.1 k hk
      rw [if_neg (by omega), y4] at y5
      have y6 := r.2.2.2.2.2.2.2.2.1.2.2.1 k hk
      rw [if_neg (by omega), y1, y2 k hk] at y6
      rw [← y5, y6]
    generalize hX : pl_play i (nI nw') 32 hx e 0 = X at le xp p' v' ⊢
    have k : ∀ hm' e', IP (dk_pass (nI nw') (i + 1) n X.2.1 X.2.2 (d + X.1)).2.1 hm' sz g nw nw' sn e' t sn → e' ≤ e + 1056 * (n + 1) → Fx PMo hmx hm' → Q (some (v_i (dk_pass (nI nw') (i + 1) n X.2.1 X.2.2 (d + X.1)).1)) hm' := by
      rw [← hX]; exact k
    show sd_Wq l none y_X9_pass true Q 43 [some (v_r 7 0), some (v_i ms), some (v_i (d + X.1)), some (v_i (nI i + 1))] [] hm' 0 0
    rw [nI_1]
    have FM : Fx PMo hmx hm' := f'.mono (fun T k i q => by unfold PPm at q; unfold PMo; omega)
    refine sq_mpass n (i + 1) X.2.1 hm' X.2.2 (d + X.1) (by omega) ?_ (by omega) (fun hm2 e2 I2 le2 f2 => k hm2 e2 I2 (by omega) (FM.tr f2))
    have ma : ∀ s, s ≠ i → MA hmx hm' s := fun s hs => MA.fx f' (fun T h1 h2 => by unfold PPm; omega) (fun T i h1 h2 h3 => by unfold PPm; omega) (fun i h1 h2 => by unfold PPm; omega)
    have ca : ∀ s, s ≠ i → CA hx X.2.1 s := fun s hs => CA.fx xp (fun T i h => by unfold PCp; omega)
    refine ⟨i1.cg xp f' (by unfold PCp; omega) (by unfold PCp; omega) (by unfold PPm; omega) (by unfold PPm; omega), i2.fx xp f' (fun T i h => by unfold PCp; omega) (fun i => by unfold PPm; omega) (fun i => by unfold PPm; omega) (fun i h => by unfold PPm; omega), i3.fx xp (by unfold PCp; omega), i4.fx xp, v', fun s hs => ?_, fun s h1 h2 => (i7 s (by omega) h2).cg (ca s (by omega)) (ma s (by omega)) le.1 (Nat.le_refl _), fun s h1 h2 => (i8 s h1 h2).cg (ma s (by omega))⟩
    by_cases z : s = i
    · subst z
      exact r.play xp f' p' nd' hz
    · exact (i6 s (by omega)).cg (ca s z) (ma s z) le.1 (Nat.le_refl _)
theorem sm_pass {hc hm : sd_H} {sz nw sn e t : Nat} {g : Nat → Nat} {ms : Int32} (R : RR hc hm sz g nw sn e t) (ht : t ≤ 1000) (kb : (ms < 0 ∨ 10000 < ms) → Q (some (v_i (-2))) hm) (kf : ∀ m : Nat, m ≤ 10000 → ms = nI m → 100000000 < nw + m → Q (some (v_i (-3))) hm)
    (ky : ∀ m : Nat, m ≤ 10000 → ms = nI m → nw + m ≤ 100000000 → ∀ hm' e', RR (dk_pass (nI (nw + m)) 0 sn (sd_pi hc 0 0 6 (nI (nw + m))) e 0).2.1 hm' sz g (nw + m) sn e' (t + 1) → Fx PMo hm hm' → Q (some (v_i (dk_pass (nI (nw + m)) 0 sn (sd_pi hc 0 0 6 (nI (nw + m))) e 0).1)) hm') : sd_E1 l y_X9_pass [v_r 7 0, v_i ms] hm Q := by
  obtain ⟨r1, r2, r3, r4, r5, r6, r7, r8⟩ := R
  obtain ⟨a1, a2, a3, a4, a5, a6, a7, a8, a9, a10⟩ := r2
  refine sd_e1 [43] 60 (cd := cd_X9_pass) (by decide) rfl (Nat.le_of_ble_eq_true rfl) ?_
  refine sm_in (lo := 0) (hi := 10000) (by decide) (by decide) (fun c => ?_) (fun c => ?_)
  · refine ⟨fun q => absurd rfl q, fun _ => kb ?_⟩
    by_cases c1 : ms < 0
    · exact Or.inl c1
    · exact Or.inr (i_nle fun q => c ⟨i_nlt c1, q⟩)
  refine ⟨fun _ => ?_, fun q => absurd q (by decide)⟩
  obtain ⟨m, hm0, rfl⟩ := nI_of2 (M := 10000) (n := 10000) rfl (Int32.not_lt.mpr c.1) c.2
  have nwb := a2.2.2
  refine ⟨fun (c1 : hm.1 7 0 0 + nI m ≤ 100000000) => ?_, fun (c1 : ¬ hm.1 7 0 0 + nI m ≤ 100000000) => ?_⟩
  rotate_left
  · rw [a2.1, nI_add] at c1
    exact kf m hm0 rfl (by
      rcases Nat.lt_or_ge 100000000 (nw + m) with q | q
      · exact q
      · exact absurd (nI_le (b := 100000000) q (by decide)) c1)
  rw [a2.1, nI_add] at c1
  have c1 := (nI_leI (b := 100000000) (by omega) (by decide)).mp c1
  have k := ky m hm0 rfl c1
  show sd_Wq l none y_X9_pass true Q 43 [some (v_r 7 0), some (v_i (nI m)), some (v_i 0), some (v_i (nI 0))] [] (sd_pi hm 7 0 0 (hm.1 7 0 0 + nI m)) 0 0
  rw [a2.1, nI_add]
  have f0 : Fx (fun T _ i => T = 7 ∧ i = 0) hm (sd_pi hm 7 0 0 (nI (nw + m))) := Fx.rf.pi ⟨rfl, rfl⟩
  have x0 : Fx (fun T _ i => T = 0 ∧ i = 6) hc (sd_pi hc 0 0 6 (nI (nw + m))) := Fx.rf.pi ⟨rfl, rfl⟩
  have ma : ∀ s, MA hm (sd_pi hm 7 0 0 (nI (nw + m))) s := fun s => MA.fx f0 (fun T h1 h2 => by omega) (fun T i h1 h2 h3 => by omega) (fun i h1 h2 => by omega)
  have ca : ∀ s, CA hc (sd_pi hc 0 0 6 (nI (nw + m))) s := fun s => CA.fx x0 (fun T i h => by omega)
  have I : IP (sd_pi hc 0 0 6 (nI (nw + m))) (sd_pi hm 7 0 0 (nI (nw + m))) sz g nw (nw + m) sn e (t + 1) 0 := by
    refine ⟨r1.cg x0 f0 (by omega) (by omega) (by omega) (by omega), ⟨a1, ⟨rfl, rfl, c1⟩, a3, a4, a5, a6, a7, a8, a9, a10⟩, r3.fx x0 (by omega), r4.fx x0, r5.cg rfl (fun _ => rfl) (fun _ => rfl) (fun _ => rfl) (fun _ => rfl) rfl (fun _ => rfl), fun s hs => by omega, fun s _ hs => (r7 s hs).cg (ca s) (ma s) (Nat.le_refl _) (by omega), fun s h1 h2 => (r8 s h1 h2).cg (ma s)⟩
  have n6 := r3.2.1
  refine sq_mpass sn 0 _ _ e 0 (by omega) I (by omega) (fun hm' e' I' le' f' => ?_)
  obtain ⟨j1, j2, j3, j4, j5, j6, j7, j8⟩ := I'
  exact k hm' e' ⟨j1, j2, j3, j4, j5, by omega, j6, j8⟩ ((f0.mono (fun T k i q => Or.inl q.1)).tr f')
end PA
