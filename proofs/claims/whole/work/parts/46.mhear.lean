/-! the reference: hearBlocks, hearLeaving, hearPart, hear -/
def W1 (h : sd_H) : sd_H := sd_pi h 0 0 11 (h.1 0 0 11 + 1)
theorem Fx.w {P : Nat → Nat → Nat → Prop} {h h' : sd_H} (x : Fx P h h') (n : ¬ P 0 0 11) : Fx P (W1 h) (W1 h') := by
  unfold W1
  refine ⟨fun T k i q => ?_, x.2.1, x.2.2⟩
  rw [x.1 0 0 11 n]
  by_cases z : T = 0 ∧ k = 0 ∧ i = 11
  · obtain ⟨rfl, rfl, rfl⟩ := z
    rw [sd_pi_eq, sd_pi_eq]
  · rw [sd_pi_ne z, sd_pi_ne z]; exact x.1 T k i q
section HG
variable {hc hc' hm hm' : sd_H} {sz nw sn e e' t s : Nat} {g : Nat → Nat} {P P' : Nat → Nat → Nat → Prop}
theorem RR.gen (R : RR hc hm sz g nw sn e t) (x : Fx P hc hc') (z : Fx P' hm hm') (n1 : ¬ P 1 0 1) (n2 : ∀ i, ¬ P 11 0 i) (n3 : ¬ P' 7 0 2) (n4 : ∀ i, ¬ P' 19 0 i) (n5 : ¬ P 0 0 5) (rg : RG hc' hm' nw sn) (ev : EV hc' hm' e') (he : e ≤ e') (he2 : e' ≤ 20000 * t) (S : ∀ s, s < sn → (CA hc hc' s ∧ MA hm hm' s) ∨ RS hc' hm' s e' t (nI nw)) (Z : ∀ s, sn ≤ s → s < 6 → MA hm hm' s) : RR hc' hm' sz g nw sn e' t := by
  obtain ⟨r1, r2, r3, r4, r5, r6, r7, r8⟩ := R
  refine ⟨r1.cg x z n1 n2 n3 n4, rg, r3.fx x n5, r4.fx x, ev, he2, fun s hs => ?_, fun s h1 h2 => (r8 s h1 h2).cg (Z s h1 h2)⟩
  rcases S s hs with ⟨a, b⟩ | r
  · exact (r7 s hs).cg a b he (Nat.le_refl _)
  · exact r
theorem RS.mod {nw : Int32} (r : RS hc hm s e t nw) (c3 : hc'.1 3 s 0 = hc.1 3 s 0) (c4 : hc'.1 4 s = hc.1 4 s) (c5 : hc'.1 5 s = hc.1 5 s) (mi : ∀ T, (21 ≤ T ∧ T ≤ 32) ∨ T = 37 → hm'.1 T 0 s = hm.1 T 0 s) (n5 : hm'.1 33 0 s = hc'.1 3 s 4 ∧ (hc'.1 3 s 4 = 0 ∨ hc'.1 3 s 4 = 1)) (n6 : hm'.1 34 0 s = hc'.1 3 s 5 ∧ (hc'.1 3 s 5 = 0 ∨ hc'.1 3 s 5 = 1)) (n7 : hm'.1 35 0 s = hc'.1 3 s 6) (n8 : hm'.1 36 0 s = hc'.1 3 s 7) (p : PM hc' hm' s e' 0) (nd : ND hm' s nw) (z : ¬ hc.1 4 s 4 = 0 → hm'.2.1 38 0 s = 0 ∧ ∀ k, k < 32 → hm'.1 41 0 (32 * s + k) = 0) : RS hc' hm' s e' t nw := by
  obtain ⟨r1, r2, r3, r4, r5, r6, r7, r8, r9, r10, r11, r12⟩ := r
  refine ⟨?_, ?_, ?_, ?_, n5, n6, n7, n8, p, nd, ?_, ?_⟩
  · rw [c3, mi 21 (by omega)]; exact r1
  · intro i hi; rw [c4, mi _ (by omega)]; exact r2 i hi
  · rw [c4]; exact r3
  · obtain ⟨j1, j2, j3, j4⟩ := r4
    rw [c5]
    exact ⟨(mi 32 (by omega)).trans j1, (mi 31 (by omega)).trans j2, (mi 30 (by omega)).trans j3, j4⟩
  · rw [c4, mi 37 (by omega)]; exact r11
  · rw [c4]; exact z
/-- a BLOCK is kept -/
def nst (T : Nat) (h : sd_H) (v0 v1 v2 v3 v4 v5 v6 : Int32) : sd_H := sd_pi (sd_pi (sd_pi (sd_pi (sd_pi (sd_pi (sd_pi h T 0 0 v0) T 0 1 v1) T 0 2 v2) T 0 3 v3) T 0 4 v4) T 0 5 v5) T 0 6 v6
theorem nst_fx {T : Nat} {h : sd_H} {v0 v1 v2 v3 v4 v5 v6 : Int32} : Fx (fun T' _ _ => T' = T) h (nst T h v0 v1 v2 v3 v4 v5 v6) := by
  unfold nst
  exact ((((((Fx.rf.pi rfl).pi rfl).pi rfl).pi rfl).pi rfl).pi rfl).pi rfl
theorem RR.keep {hx : sd_H} {v0 v1 v2 v3 v4 v5 v6 : Int32} (R : RR (W1 hx) hm sz g nw sn e t) : RR (W1 (nst 10 hx v0 v1 v2 v3 v4 v5 v6)) (nst 45 hm v0 v1 v2 v3 v4 v5 v6) sz g nw sn e t := by
  have x := (nst_fx (T := 10) (h := hx) (v0 := v0) (v1 := v1) (v2 := v2) (v3 := v3) (v4 := v4) (v5 := v5) (v6 := v6)).w (by decide)
  have z := nst_fx (T := 45) (h := hm) (v0 := v0) (v1 := v1) (v2 := v2) (v3 := v3) (v4 := v4) (v5 := v5) (v6 := v6)
  have r5 := R.2.2.2.2.1
  have r6 := R.2.2.2.2.2.1
  obtain ⟨a1, a2, a3, a4, a5, a6, a7, a8, a9, a10⟩ := R.2.1
  refine R.gen x z (by decide) (fun i => by omega) (by decide) (fun i => by omega) (by decide) ⟨a1, a2, a3, a4, a5, a6, a7, a8, fun i hi => ?_, a10⟩ (r5.cg rfl (fun _ => rfl) (fun _ => rfl) (fun _ => rfl) (fun _ => rfl) rfl (fun _ => rfl)) (Nat.le_refl _) r6 (fun s hs => Or.inl ⟨CA.fx x (fun T i h => by omega), MA.fx z (fun T h1 h2 => by omega) (fun T i h1 h2 h3 => by omega) (fun i h1 h2 => by omega)⟩) (fun s h1 h2 => MA.fx z (fun T h1 h2 => by omega) (fun T i h1 h2 h3 => by omega) (fun i h1 h2 => by omega))
  rcases (show i = 0 ∨ i = 1 ∨ i = 2 ∨ i = 3 ∨ i = 4 ∨ i = 5 ∨ i = 6 by omega) with rfl | rfl | rfl | rfl | rfl | rfl | rfl <;> rfl
theorem RR.clock {hx : sd_H} {m : Int32} (R : RR (W1 hx) hm sz g nw sn e t) (hs : s < sn) : RR (W1 (sn_clock hx s m (nI nw))) (sd_pi (sd_pi (sd_pi hm 34 0 s 1) 35 0 s m) 36 0 s (nI nw)) sz g nw sn e t := by
  have x : Fx (fun T k i => T = 3 ∧ k = s ∧ 5 ≤ i ∧ i ≤ 7) hx (sn_clock hx s m (nI nw)) := by
    unfold sn_clock
    exact ((Fx.rf.pi (by omega)).pi (by omega)).pi (by omega)
  have xw := x.w (by omega)
  have z : Fx (fun T _ i => 34 ≤ T ∧ T ≤ 36 ∧ i = s) hm (sd_pi (sd_pi (sd_pi hm 34 0 s 1) 35 0 s m) 36 0 s (nI nw)) := ((Fx.rf.pi (by omega)).pi (by omega)).pi (by omega)
  have r5 := R.2.2.2.2.1
  have r6 := R.2.2.2.2.2.1
  have r7 := R.2.2.2.2.2.2.1
  refine R.gen xw z (by omega) (fun i => by omega) (by omega) (fun i => by omega) (by omega) (R.2.1.fx xw z (fun T i h => by omega) (fun i => by omega) (fun i => by omega) (fun i h => by omega)) (r5.cg (xw.1 2 0 4 (by omega)) (fun j => xw.1 12 0 j (by omega)) (fun j => xw.1 13 0 j (by omega)) (fun j => xw.2.1 14 0 j (by omega)) (fun j => xw.1 15 0 j (by omega)) (z.1 7 0 35 (by omega)) (fun j => z.2.1 44 0 j (by omega))) (Nat.le_refl _) r6 (fun s' hs' => ?_) (fun s' h1 h2 => MA.fx z (fun T h1 h2 => by omega) (fun T i h1 h2 h3 => by omega) (fun i h1 h2 => by omega))
  by_cases q : s' = s
  · right
    subst q
    have r := r7 s' hs'
    have mp : MP hm (sd_pi (sd_pi (sd_pi hm 34 0 s' 1) 35 0 s' m) 36 0 s' (nI nw)) s' := MP.fx z (fun T h1 h2 => by omega) (fun T i h1 h2 h3 => by omega) (fun i h1 h2 => by omega)
    have cp : CP (W1 hx) (W1 (sn_clock hx s' m (nI nw))) s' := CP.fx xw (fun T i h => by omega)
    have v5 : (sn_clock hx s' m (nI nw)).1 3 s' 5 = 1 := by unfold sn_clock; rw [sd_pi_ne (by omega), sd_pi_ne (by omega), sd_pi_eq]
    have v6 : (sn_clock hx s' m (nI nw)).1 3 s' 6 = m := by unfold sn_clock; rw [sd_pi_ne (by omega), sd_pi_eq]
    have v7 : (sn_clock hx s' m (nI nw)).1 3 s' 7 = nI nw := by unfold sn_clock; rw [sd_pi_eq]
    refine r.mod (xw.1 3 s' 0 (by omega)) (funext fun i => xw.1 4 s' i (by omega)) (funext fun i => xw.1 5 s' i (by omega)) (fun T h => z.1 T 0 s' (by omega)) ?_ ?_ ?_ ?_ (r.2.2.2.2.2.2.2.2.1.cg cp mp (Nat.le_refl _)) ?_ ?_
    · rw [xw.1 3 s' 4 (by omega), z.1 33 0 s' (by omega)]; exact r.2.2.2.2.1
    · refine ⟨?_, Or.inr v5⟩
      show _ = (sn_clock hx s' m (nI nw)).1 3 s' 5
      rw [v5, sd_pi_ne (by omega), sd_pi_ne (by omega), sd_pi_eq]
    · show _ = (sn_clock hx s' m (nI nw)).1 3 s' 6
      rw [v6, sd_pi_ne (by omega), sd_pi_eq]
    · show _ = (sn_clock hx s' m (nI nw)).1 3 s' 7
      rw [v7, sd_pi_eq]
    · intro k hk; rw [(mp.2.2.2.1 k hk).1, (mp.2.2.2.1 k hk).2]; exact r.2.2.2.2.2.2.2.2.2.1 k hk
    · rw [mp.1]
      intro q
      exact ⟨(r.2.2.2.2.2.2.2.2.2.2.2 q).1, fun k hk => by rw [(mp.2.2.2.1 k hk).1]; exact (r.2.2.2.2.2.2.2.2.2.2.2 q).2 k hk⟩
  · exact Or.inl ⟨CA.fx xw (fun T i h => by omega), MA.fx z (fun T h1 h2 => by omega) (fun T i h1 h2 h3 => by omega) (fun i h1 h2 => by omega)⟩
theorem RR.leave {hx : sd_H} (R : RR (W1 hx) hm sz g nw sn e t) (hs : s < sn) (he2 : e + 1 ≤ 20000 * t) (h0 : hx.1 3 s 4 = 0) (f : Fx (fun T _ i => T = 41 ∧ 32 * s ≤ i ∧ i < 32 * s + 32) (sd_pi hm 33 0 s 1) hm') (hz : ∀ k, k < 32 → hm'.1 41 0 (32 * s + k) = 0) : RR (W1 (sn_leave hx s e (nI nw))) (mh2 hm' e 7 s 0) sz g nw sn (e + 1) t := by
  have r5 := R.2.2.2.2.1
  have r6 := R.2.2.2.2.2.1
  have r7 := R.2.2.2.2.2.2.1
  have s6 : s < 6 := by have := R.2.2.1.2.1; omega
  have x : Fx (fun T k i => (T = 3 ∧ k = s ∧ i = 4) ∨ ((T = 6 ∨ T = 16 ∨ T = 17 ∨ T = 18) ∧ k = s) ∨ T = 2 ∨ (12 ≤ T ∧ T ≤ 15)) hx (sn_leave hx s e (nI nw)) := by
    have a : Fx (fun T k i => (T = 3 ∧ k = s ∧ i = 4) ∨ ((T = 6 ∨ T = 16 ∨ T = 17 ∨ T = 18) ∧ k = s) ∨ T = 2 ∨ (12 ≤ T ∧ T ≤ 15)) hx (sd_pi hx 3 s 4 1) := Fx.rf.pi (by omega)
    have b : Fx (PCp s) (sd_pi hx 3 s 4 1) (pl_note (pl_forget (sd_pi hx 3 s 4 1) s) s e 7 0 (nI nw)) := pl_note_fx (pl_forget_fx .rf)
    unfold sn_leave
    rw [if_pos h0]
    exact a.tr (b.mono (fun T k i q => by unfold PCp at q; omega))
  have xw := x.w (by omega)
  have z0 : Fx (fun T _ i => T = 33 ∧ i = s) hm (sd_pi hm 33 0 s 1) := Fx.rf.pi ⟨rfl, rfl⟩
  have z : Fx (fun T _ i => (T = 33 ∧ i = s) ∨ (T = 41 ∧ 32 * s ≤ i ∧ i < 32 * s + 32) ∨ T = 44 ∨ (T = 7 ∧ i = 35) ∨ (T = 43 ∧ i = 6 * s + 7)) hm (mh2 hm' e 7 s 0) :=
    ((z0.mono (fun T k i q => Or.inl q)).tr (f.mono (fun T k i q => Or.inr (Or.inl q)))).tr (mh2_fx.mono (fun T k i q => Or.inr (Or.inr q)))
  have zn : Fx (fun T _ i => (T = 33 ∧ i = s) ∨ (T = 41 ∧ 32 * s ≤ i ∧ i < 32 * s + 32) ∨ T = 44 ∨ (T = 7 ∧ i = 35)) hm (mh2 hm' e 7 s 0) := by
    have a : Fx (fun T _ i => T = 44 ∨ (T = 7 ∧ i = 35)) hm' (mh2 hm' e 7 s 0) := by
      unfold mh2 mh
      rw [if_neg (by decide)]
      exact ((((Fx.rf.pl (Or.inl rfl)).pl (Or.inl rfl)).pl (Or.inl rfl)).pl (Or.inl rfl)).pi (Or.inr ⟨rfl, rfl⟩)
    exact ((z0.mono (fun T k i q => Or.inl q)).tr (f.mono (fun T k i q => Or.inr (Or.inl q)))).tr (a.mono (fun T k i q => Or.inr (Or.inr q)))
  have r := r7 s hs
  have p0 : PM (sd_pi hx 3 s 4 1) (sd_pi hm 33 0 s 1) s e 0 := by
    refine PM.cg (hc := W1 hx) (hm := hm) r.2.2.2.2.2.2.2.2.1 ⟨rfl, rfl, rfl, rfl, rfl⟩ ?_ (Nat.le_refl _)
    exact ⟨rfl, rfl, rfl, fun k hk => ⟨rfl, rfl⟩, fun c hc => rfl⟩
  have p1 := (p0.forget f hz).1
  have v1 : EV (pl_forget (sd_pi hx 3 s 4 1) s) hm' e := by
    refine EV.cg (hc := W1 hx) (hm := hm) r5 rfl (fun _ => rfl) (fun _ => rfl) (fun _ => rfl) (fun _ => rfl) ?_ (fun j => ?_)
    · rw [f.1 7 0 35 (by omega)]; rfl
    · rw [f.2.1 44 0 j (by omega)]; rfl
  have w7 : hm'.1 7 0 0 = nI nw := by
    rw [f.1 7 0 0 (by omega)]; exact R.2.1.2.1.1
  obtain ⟨p2, v2⟩ := p1.note (c := 7) (n := 0) (nw := nI nw) v1 (by decide) w7 s6 (by decide) (by decide)
  have el : sn_leave hx s e (nI nw) = pl_note (pl_forget (sd_pi hx 3 s 4 1) s) s e 7 0 (nI nw) := by unfold sn_leave; rw [if_pos h0]
  have v2 : EV (W1 (sn_leave hx s e (nI nw))) (mh2 hm' e 7 s 0) (e + 1) := by rw [el]; exact v2
  have p2 : PM (W1 (sn_leave hx s e (nI nw))) (mh2 hm' e 7 s 0) s (e + 1) 0 := by rw [el]; exact p2
  have h41 : ∀ k, k < 32 → (mh2 hm' e 7 s 0).1 41 0 (32 * s + k) = 0 := fun k hk => by
    rw [mh2_fx.1 41 0 _ (by omega)]; exact hz k hk
  have v4 : (W1 (sn_leave hx s e (nI nw))).1 3 s 4 = 1 := by
    rw [el]
    have b : Fx (PCp s) (sd_pi hx 3 s 4 1) (pl_note (pl_forget (sd_pi hx 3 s 4 1) s) s e 7 0 (nI nw)) := pl_note_fx (pl_forget_fx .rf)
    show (pl_note (pl_forget (sd_pi hx 3 s 4 1) s) s e 7 0 (nI nw)).1 3 s 4 = 1
    rw [b.1 3 s 4 (by unfold PCp; omega), sd_pi_eq]
  refine R.gen xw zn (by omega) (fun i => by omega) (by omega) (fun i => by omega) (by omega) (R.2.1.fx xw zn (fun T i h => by omega) (fun i => by omega) (fun i => by omega) (fun i h => by omega)) v2 (by omega) he2 (fun s' hs' => ?_) (fun s' h1 h2 => MA.fx zn (fun T h1 h2 => by omega) (fun T i h1 h2 h3 => by omega) (fun i h1 h2 => by omega))
  by_cases q : s' = s
  · right
    subst q
    refine r.mod (xw.1 3 s' 0 (by omega)) (funext fun i => xw.1 4 s' i (by omega)) (funext fun i => xw.1 5 s' i (by omega)) (fun T h => zn.1 T 0 s' (by omega)) ?_ ?_ ?_ ?_ p2 ?_ ?_
    · rw [v4]
      refine ⟨?_, Or.inr rfl⟩
      rw [mh2_fx.1 33 0 s' (by omega), f.1 33 0 s' (by omega), sd_pi_eq]
    · rw [xw.1 3 s' 5 (by omega), zn.1 34 0 s' (by omega)]; exact r.2.2.2.2.2.1
    · rw [xw.1 3 s' 6 (by omega), zn.1 35 0 s' (by omega)]; exact r.2.2.2.2.2.2.1
    · rw [xw.1 3 s' 7 (by omega), zn.1 36 0 s' (by omega)]; exact r.2.2.2.2.2.2.2.1
    · intro k hk q; exact absurd (h41 k hk) q
    · intro q
      exact ⟨by rw [zn.2.1 38 0 s' (by omega)]; exact (r.2.2.2.2.2.2.2.2.2.2.2 q).1, h41⟩
  · exact Or.inl ⟨CA.fx xw (fun T i h => by omega), MA.fx zn (fun T h1 h2 => by omega) (fun T i h1 h2 h3 => by omega) (fun i h1 h2 => by omega)⟩
end HG
