/-! what the class's playing may change; the relation of both sides -/
def PCp (s : Nat) (T k _i : Nat) : Prop := ((T = 6 ∨ T = 16 ∨ T = 17 ∨ T = 18) ∧ k = s) ∨ T = 2 ∨ (12 ≤ T ∧ T ≤ 15)
section CFX
variable {h g : sd_H} {s e c : Nat} {nw : Int32} {n t : Int64}
theorem ev_add_fx {kd sn : Int32} {P : Nat → Nat → Nat → Prop} (x : Fx P h g) (hp : ∀ T i, T = 2 ∨ (12 ≤ T ∧ T ≤ 15) → P T 0 i) : Fx P h (ev_add g e kd sn n nw) := by
  unfold ev_add
  refine ((((x.pi ?_).pi ?_).pl ?_).pi ?_).pi ?_
  all_goals exact hp _ _ (by omega)
theorem pl_note_fx (x : Fx (PCp s) h g) : Fx (PCp s) h (pl_note g s e c n nw) := by
  unfold pl_note
  refine ev_add_fx (x.pi ?_) (fun T i q => ?_)
  all_goals (unfold PCp; omega)
theorem pl_hold_fx (x : Fx (PCp s) h g) : Fx (PCp s) h (pl_hold g s n t) := by
  unfold pl_hold
  refine ((x.pl ?_).pi ?_).pi ?_
  all_goals (unfold PCp; omega)
theorem pl_forget_fx (x : Fx (PCp s) h g) : Fx (PCp s) h (pl_forget g s) := by
  unfold pl_forget
  refine (x.ri (fun i => ?_)).pi ?_
  all_goals (unfold PCp; omega)
theorem pl_begin_fx {st dl : Int32} (x : Fx (PCp s) h g) : Fx (PCp s) h (pl_begin g s e n st nw dl) := by
  unfold pl_begin
  refine pl_hold_fx (pl_note_fx ((((pl_forget_fx x).pl ?_).pl ?_).pi ?_))
  all_goals (unfold PCp; omega)
theorem pl_arrive_fx {st rt dl : Int32} (x : Fx (PCp s) h g) : Fx (PCp s) h (pl_arrive g s e n st rt nw dl) := by
  unfold pl_arrive
  split
  · exact pl_note_fx x
  · split
    · split
      · exact pl_hold_fx x
      · exact pl_note_fx x
    · split
      · exact pl_begin_fx x
      · exact pl_note_fx x
theorem pl_step_fx (x : Fx (PCp s) h g) : Fx (PCp s) h (pl_step g s e c nw) := by
  unfold pl_step
  refine (pl_note_fx ((x.pi ?_).pi ?_)).pl ?_
  all_goals (unfold PCp; omega)
theorem pl_steps_fx : ∀ (m : Nat) (g : sd_H) (e : Nat), Fx (PCp s) h g → Fx (PCp s) h (pl_steps s nw m g e)
  | 0, _, _, x => x
  | m + 1, g, e, x => pl_steps_fx m _ _ (pl_step_fx x)
theorem pl_play_fx : ∀ (m : Nat) (g : sd_H) (e : Nat) (d : Int32), Fx (PCp s) h g → Fx (PCp s) h (pl_play s nw m g e d).2.1
  | 0, _, _, _, x => x
  | m + 1, g, e, d, x => by
    unfold pl_play
    split
    · exact x
    · split
      · exact x
      · exact pl_play_fx m _ _ _ (pl_step_fx (pl_steps_fx _ _ _ x))
theorem pl_play_le : ∀ (m : Nat) (g : sd_H) (e : Nat) (d : Int32), e ≤ (pl_play s nw m g e d).2.2 ∧ (pl_play s nw m g e d).2.2 ≤ e + 33 * m
  | 0, _, _, _ => ⟨Nat.le_refl _, Nat.le_refl _⟩
  | m + 1, g, e, d => by
    unfold pl_play
    split
    · exact ⟨Nat.le_refl _, Nat.le_add_right _ _⟩
    · split
      · exact ⟨Nat.le_refl _, Nat.le_add_right _ _⟩
      · have hg := pl_gap_le (h := g) (s := s) (nw := nw) 32 (Nat.le_refl _)
        have := pl_play_le m (pl_turn g s e nw (pl_gap g s nw 32)) (e + pl_gap g s nw 32 + 1) (d + (nI (pl_gap g s nw 32) + 1))
        omega
end CFX
/-- bounds of the NUMBERS, after at most t calls -/
def NBd (f : Nat → Int32) (t : Nat) : Prop :=
  (0 ≤ (f 0).toInt ∧ (f 0).toInt < 65536) ∧ (0 ≤ (f 1).toInt ∧ (f 1).toInt ≤ 65536 * t) ∧ (0 ≤ (f 2).toInt ∧ (f 2).toInt < 65536) ∧ (0 ≤ (f 4).toInt ∧ (f 4).toInt ≤ 2) ∧ (0 ≤ (f 5).toInt ∧ (f 5).toInt ≤ t) ∧ (0 ≤ (f 6).toInt ∧ (f 6).toInt ≤ t) ∧ -65536 ≤ (f 7).toInt ∧ (f 7).toInt ≤ 65536 * (t + 1)
theorem NBd.mono {f : Nat → Int32} {t t' : Nat} (b : NBd f t) (h : t ≤ t') : NBd f t' := by
  unfold NBd at b ⊢; omega
/-- what of the class a SENDER rests on -/
def CA (hc hc' : sd_H) (s : Nat) : Prop := hc'.1 3 s = hc.1 3 s ∧ hc'.1 4 s = hc.1 4 s ∧ hc'.1 5 s = hc.1 5 s ∧ hc'.1 6 s = hc.1 6 s ∧ hc'.2.1 6 s = hc.2.1 6 s ∧ hc'.1 16 s = hc.1 16 s ∧ hc'.2.1 17 s = hc.2.1 17 s ∧ hc'.1 18 s = hc.1 18 s
def CP (hc hc' : sd_H) (s : Nat) : Prop := hc'.1 6 s = hc.1 6 s ∧ hc'.2.1 6 s = hc.2.1 6 s ∧ hc'.1 16 s = hc.1 16 s ∧ hc'.2.1 17 s = hc.2.1 17 s ∧ hc'.1 18 s = hc.1 18 s
def MP (hm hm' : sd_H) (s : Nat) : Prop := hm'.2.1 38 0 s = hm.2.1 38 0 s ∧ hm'.2.1 39 0 s = hm.2.1 39 0 s ∧ hm'.1 40 0 s = hm.1 40 0 s ∧ (∀ k, k < 32 → hm'.1 41 0 (32 * s + k) = hm.1 41 0 (32 * s + k) ∧ hm'.2.1 42 0 (32 * s + k) = hm.2.1 42 0 (32 * s + k)) ∧ ∀ c, c < 6 → hm'.1 43 0 (6 * s + c) = hm.1 43 0 (6 * s + c)
def MA (hm hm' : sd_H) (s : Nat) : Prop := (∀ T, 21 ≤ T → T ≤ 40 → hm'.1 T 0 s = hm.1 T 0 s ∧ hm'.2.1 T 0 s = hm.2.1 T 0 s) ∧ (∀ k, k < 32 → hm'.1 41 0 (32 * s + k) = hm.1 41 0 (32 * s + k) ∧ hm'.2.1 42 0 (32 * s + k) = hm.2.1 42 0 (32 * s + k)) ∧ ∀ c, c < 6 → hm'.1 43 0 (6 * s + c) = hm.1 43 0 (6 * s + c)
def RS (hc hm : sd_H) (s e t : Nat) (nw : Int32) : Prop :=
  hm.1 21 0 s = hc.1 3 s 0 ∧ MN hm s (hc.1 4 s) ∧ NBd (hc.1 4 s) t ∧ MJ hm s (hc.1 5 s) ∧ (hm.1 33 0 s = hc.1 3 s 4 ∧ (hc.1 3 s 4 = 0 ∨ hc.1 3 s 4 = 1)) ∧ (hm.1 34 0 s = hc.1 3 s 5 ∧ (hc.1 3 s 5 = 0 ∨ hc.1 3 s 5 = 1)) ∧ hm.1 35 0 s = hc.1 3 s 6 ∧ hm.1 36 0 s = hc.1 3 s 7 ∧
  PM hc hm s e 0 ∧ ND hm s nw ∧ hm.1 37 0 s = (if hc.1 4 s 4 = 0 then 1 else 0) ∧ (¬ hc.1 4 s 4 = 0 → hm.2.1 38 0 s = 0 ∧ ∀ k, k < 32 → hm.1 41 0 (32 * s + k) = 0)
theorem PM.cg {hc hm hc' hm' : sd_H} {s e e' j : Nat} (p : PM hc hm s e j) (a : CP hc hc' s) (m : MP hm hm' s) (he : e ≤ e') : PM hc' hm' s e' j := by
  obtain ⟨c6, c6L, c16, c17, c18⟩ := a
  obtain ⟨e38, e39, e40, m2, m3⟩ := m
  obtain ⟨a1, a2, a3, a4, a5, a6, a7, a8, a9, a10, a11⟩ := p
  refine ⟨?_, ?_, ?_, ?_, ?_, ?_, ?_, ?_, ?_, ?_, ?_⟩
  · rw [c6]; exact a1
  · rw [c6L, e38]; exact a2
  · intro k hk; rw [c18, e38, (m2 k hk).1]; exact a3 k hk
  · intro k hk hj; rw [c17, e38, (m2 k hk).1, (m2 k hk).2]; exact a4 k hk hj
  · intro k hk; rw [(m2 k hk).1]; exact a5 k hk
  · rw [c6, a6]
    by_cases hj : j ≤ 32
    · rw [wc_cg (w := fun k => hm'.1 41 0 (32 * s + k)) (w' := fun k => hm.1 41 0 (32 * s + k)) (32 - j) j j (fun k hk => (m2 _ (by omega)).1)]
    · rw [show 32 - j = 0 by omega]; rfl
  · intro c h1 h5; rw [c16, m3 c (by omega)]; exact a7 c h1 h5
  · rw [c6L, e39]; exact a8
  · rw [c6, e40]; exact a9
  · rw [e38]; exact a10
  · rw [e38]; omega
theorem RS.cg {hc hm hc' hm' : sd_H} {s e t e' t' : Nat} {nw : Int32} (r : RS hc hm s e t nw) (a : CA hc hc' s) (m : MA hm hm' s) (he : e ≤ e') (ht : t ≤ t') : RS hc' hm' s e' t' nw := by
  obtain ⟨r1, r2, r3, r4, r5, r6, r7, r8, r9, r10, r11, r12⟩ := r
  have p := r9.cg a.2.2.2 ⟨(m.1 38 (by decide) (by decide)).2, (m.1 39 (by decide) (by decide)).2, (m.1 40 (by decide) (by decide)).1, m.2⟩ he
  obtain ⟨c3, c4, c5, c6, c6L, c16, c17, c18⟩ := a
  obtain ⟨m1, m2, m3⟩ := m
  have mi : ∀ T, 21 ≤ T → T ≤ 40 → hm'.1 T 0 s = hm.1 T 0 s := fun T h1 h2 => (m1 T h1 h2).1
  refine ⟨?_, ?_, ?_, ?_, ?_, ?_, ?_, ?_, p, ?_, ?_, ?_⟩
  · rw [c3, mi 21 (by decide) (by decide)]; exact r1
  · intro i hi; rw [c4, mi _ (by omega) (by omega)]; exact r2 i hi
  · rw [c4]; exact r3.mono ht
  · obtain ⟨j1, j2, j3, j4⟩ := r4
    rw [c5]
    exact ⟨(mi 32 (by decide) (by decide)).trans j1, (mi 31 (by decide) (by decide)).trans j2, (mi 30 (by decide) (by decide)).trans j3, j4⟩
  · rw [c3, mi 33 (by decide) (by decide)]; exact r5
  · rw [c3, mi 34 (by decide) (by decide)]; exact r6
  · rw [c3, mi 35 (by decide) (by decide)]; exact r7
  · rw [c3, mi 36 (by decide) (by decide)]; exact r8
  · intro k hk; rw [(m2 k hk).1, (m2 k hk).2]; exact r10 k hk
  · rw [c4, mi 37 (by decide) (by decide)]; exact r11
  · rw [c4, (m1 38 (by decide) (by decide)).2]
    intro q
    exact ⟨(r12 q).1, fun k hk => by rw [(m2 k hk).1]; exact (r12 q).2 k hk⟩
/-- a place for a SENDER that has not come -/
def RZ (hm : sd_H) (s : Nat) : Prop := (∀ T, 30 ≤ T → T ≤ 40 → hm.1 T 0 s = 0 ∧ hm.2.1 T 0 s = 0) ∧ (∀ k, k < 32 → hm.1 41 0 (32 * s + k) = 0) ∧ ∀ c, c < 6 → hm.1 43 0 (6 * s + c) = 0
theorem RZ.cg {hm hm' : sd_H} {s : Nat} (z : RZ hm s) (m : MA hm hm' s) : RZ hm' s := by
  obtain ⟨z1, z2, z3⟩ := z
  obtain ⟨m1, m2, m3⟩ := m
  refine ⟨fun T h1 h2 => ?_, fun k hk => ?_, fun c hc => ?_⟩
  · rw [(m1 T (by omega) h2).1, (m1 T (by omega) h2).2]; exact z1 T h1 h2
  · rw [(m2 k hk).1]; exact z2 k hk
  · rw [m3 c hc]; exact z3 c hc
/-- all but senders and events -/
def RG (hc hm : sd_H) (nw sn : Nat) : Prop :=
  (∀ i, i < 128 → hm.1 20 0 i = hc.1 8 0 i ∧ 0 ≤ (hc.1 8 0 i).toInt ∧ (hc.1 8 0 i).toInt ≤ 200000) ∧ (hm.1 7 0 0 = nI nw ∧ hc.1 0 0 6 = nI nw ∧ nw ≤ 100000000) ∧ hm.1 7 0 1 = hc.1 0 0 7 ∧ hm.1 7 0 32 = hc.1 0 0 8 ∧ hm.1 7 0 33 = hc.1 0 0 9 ∧ hm.1 7 0 34 = hc.1 0 0 10 ∧ hm.1 7 0 39 = hc.1 0 0 11 ∧ hm.1 7 0 38 = hc.1 0 0 12 ∧ (∀ i, i < 7 → hm.1 45 0 i = hc.1 10 0 i) ∧ hm.1 7 0 8 = nI sn
def RR (hc hm : sd_H) (sz : Nat) (g : Nat → Nat) (nw sn e t : Nat) : Prop :=
  PK hc hm sz g ∧ RG hc hm nw sn ∧ SN hc sn ∧ SC hc sn ∧ EV hc hm e ∧ e ≤ 20000 * t ∧ (∀ s, s < sn → RS hc hm s e t (nI nw)) ∧ ∀ s, sn ≤ s → s < 6 → RZ hm s
theorem MA.fx {P : Nat → Nat → Nat → Prop} {hm hm' : sd_H} {s : Nat} (x : Fx P hm hm') (h1 : ∀ T, 21 ≤ T → T ≤ 40 → ¬ P T 0 s) (h2 : ∀ T i, (T = 41 ∨ T = 42) → 32 * s ≤ i → i < 32 * s + 32 → ¬ P T 0 i) (h3 : ∀ i, 6 * s ≤ i → i < 6 * s + 6 → ¬ P 43 0 i) : MA hm hm' s :=
  ⟨fun T a b => ⟨x.1 _ _ _ (h1 T a b), x.2.1 _ _ _ (h1 T a b)⟩, fun k hk => ⟨x.1 _ _ _ (h2 41 _ (Or.inl rfl) (by omega) (by omega)), x.2.1 _ _ _ (h2 42 _ (Or.inr rfl) (by omega) (by omega))⟩, fun c hc => x.1 _ _ _ (h3 _ (by omega) (by omega))⟩
theorem CA.fx {P : Nat → Nat → Nat → Prop} {hc hc' : sd_H} {s : Nat} (x : Fx P hc hc') (h1 : ∀ T i, (T = 3 ∨ T = 4 ∨ T = 5 ∨ T = 6 ∨ T = 16 ∨ T = 17 ∨ T = 18) → ¬ P T s i) : CA hc hc' s :=
  ⟨funext fun i => x.1 _ _ _ (h1 3 i (by omega)), funext fun i => x.1 _ _ _ (h1 4 i (by omega)), funext fun i => x.1 _ _ _ (h1 5 i (by omega)), funext fun i => x.1 _ _ _ (h1 6 i (by omega)), funext fun i => x.2.1 _ _ _ (h1 6 i (by omega)), funext fun i => x.1 _ _ _ (h1 16 i (by omega)), funext fun i => x.2.1 _ _ _ (h1 17 i (by omega)), funext fun i => x.1 _ _ _ (h1 18 i (by omega))⟩
theorem CP.fx {P : Nat → Nat → Nat → Prop} {hc hc' : sd_H} {s : Nat} (x : Fx P hc hc') (h1 : ∀ T i, (T = 6 ∨ T = 16 ∨ T = 17 ∨ T = 18) → ¬ P T s i) : CP hc hc' s :=
  ⟨funext fun i => x.1 _ _ _ (h1 6 i (by omega)), funext fun i => x.2.1 _ _ _ (h1 6 i (by omega)), funext fun i => x.1 _ _ _ (h1 16 i (by omega)), funext fun i => x.2.1 _ _ _ (h1 17 i (by omega)), funext fun i => x.1 _ _ _ (h1 18 i (by omega))⟩
theorem MP.fx {P : Nat → Nat → Nat → Prop} {hm hm' : sd_H} {s : Nat} (x : Fx P hm hm') (h1 : ∀ T, 38 ≤ T → T ≤ 40 → ¬ P T 0 s) (h2 : ∀ T i, (T = 41 ∨ T = 42) → 32 * s ≤ i → i < 32 * s + 32 → ¬ P T 0 i) (h3 : ∀ i, 6 * s ≤ i → i < 6 * s + 6 → ¬ P 43 0 i) : MP hm hm' s :=
  ⟨x.2.1 _ _ _ (h1 38 (by omega) (by omega)), x.2.1 _ _ _ (h1 39 (by omega) (by omega)), x.1 _ _ _ (h1 40 (by omega) (by omega)), fun k hk => ⟨x.1 _ _ _ (h2 41 _ (Or.inl rfl) (by omega) (by omega)), x.2.1 _ _ _ (h2 42 _ (Or.inr rfl) (by omega) (by omega))⟩, fun c hc => x.1 _ _ _ (h3 _ (by omega) (by omega))⟩
theorem CA.rf {hc : sd_H} {s : Nat} : CA hc hc s := ⟨rfl, rfl, rfl, rfl, rfl, rfl, rfl, rfl⟩
theorem MA.rf {hm : sd_H} {s : Nat} : MA hm hm s := ⟨fun _ _ _ => ⟨rfl, rfl⟩, fun _ _ => ⟨rfl, rfl⟩, fun _ _ => rfl⟩
/-- the class's part, the reference's part -/
def PMo (T _k _i : Nat) : Prop := T = 7 ∨ 19 ≤ T
def CO (h h' : sd_H) : Prop := ∀ T, T = 7 ∨ 19 ≤ T → h'.1 T = h.1 T ∧ h'.2.1 T = h.2.1 T
theorem RR.mo {hc hm hm' : sd_H} {sz nw sn e t : Nat} {g : Nat → Nat} (r : RR hc hm sz g nw sn e t) (x : CO hm hm') : RR hc hm' sz g nw sn e t := by
  obtain ⟨r1, r2, r3, r4, r5, r6, r7, r8⟩ := r
  have xi : ∀ T k i, T = 7 ∨ 19 ≤ T → hm'.1 T k i = hm.1 T k i := fun T k i q => by rw [(x T q).1]
  have xl : ∀ T k i, T = 7 ∨ 19 ≤ T → hm'.2.1 T k i = hm.2.1 T k i := fun T k i q => by rw [(x T q).2]
  have ma : ∀ s, MA hm hm' s := fun s => ⟨fun T a b => ⟨xi T 0 s (by omega), xl T 0 s (by omega)⟩, fun k _ => ⟨xi _ _ _ (by omega), xl _ _ _ (by omega)⟩, fun c _ => xi _ _ _ (by omega)⟩
  refine ⟨?_, ?_, r3, r4, ?_, r6, fun s hs => (r7 s hs).cg .rf (ma s) (Nat.le_refl _) (Nat.le_refl _), fun s h1 h2 => (r8 s h1 h2).cg (ma s)⟩
  · exact ⟨r1.1, by rw [xi 7 0 2 (by omega)]; exact r1.2.1, r1.2.2.1, fun i hi => by rw [xi 19 0 i (by omega)]; exact r1.2.2.2 i hi⟩
  · unfold RG at r2 ⊢
    rw [xi 7 0 0 (by omega), xi 7 0 1 (by omega), xi 7 0 32 (by omega), xi 7 0 33 (by omega), xi 7 0 34 (by omega), xi 7 0 39 (by omega), xi 7 0 38 (by omega), xi 7 0 8 (by omega)]
    obtain ⟨a1, a2, a3, a4, a5, a6, a7, a8, a9, a10⟩ := r2
    exact ⟨fun i hi => by rw [xi 20 0 i (by omega)]; exact a1 i hi, a2, a3, a4, a5, a6, a7, a8, fun i hi => by rw [xi 45 0 i (by omega)]; exact a9 i hi, a10⟩
  · exact r5.cg rfl (fun _ => rfl) (fun _ => rfl) (fun _ => rfl) (fun _ => rfl) (xi 7 0 35 (by omega)) (fun j => xl 44 0 j (by omega))
theorem RR.co {hc hc' hm : sd_H} {sz nw sn e t : Nat} {g : Nat → Nat} (r : RR hc hm sz g nw sn e t) (x : Fx PMo hc hc') : RR hc' hm sz g nw sn e t := by
  obtain ⟨r1, r2, r3, r4, r5, r6, r7, r8⟩ := r
  have xi : ∀ T k i, T < 7 ∨ (7 < T ∧ T < 19) → hc'.1 T k i = hc.1 T k i := fun T k i q => x.1 T k i (by unfold PMo; omega)
  have xl : ∀ T k i, T < 7 ∨ (7 < T ∧ T < 19) → hc'.2.1 T k i = hc.2.1 T k i := fun T k i q => x.2.1 T k i (by unfold PMo; omega)
  have ca : ∀ s, CA hc hc' s := fun s => CA.fx x (fun T i q => by unfold PMo; omega)
  refine ⟨?_, ?_, ?_, ?_, ?_, r6, fun s hs => (r7 s hs).cg (ca s) .rf (Nat.le_refl _) (Nat.le_refl _), r8⟩
  · exact ⟨by rw [xi 1 0 1 (by omega)]; exact r1.1, r1.2.1, r1.2.2.1, fun i hi => by rw [xi 11 0 i (by omega)]; exact r1.2.2.2 i hi⟩
  · unfold RG at r2 ⊢
    rw [xi 0 0 6 (by omega), xi 0 0 7 (by omega), xi 0 0 8 (by omega), xi 0 0 9 (by omega), xi 0 0 10 (by omega), xi 0 0 11 (by omega), xi 0 0 12 (by omega)]
    obtain ⟨a1, a2, a3, a4, a5, a6, a7, a8, a9, a10⟩ := r2
    exact ⟨fun i hi => by rw [xi 8 0 i (by omega)]; exact a1 i hi, a2, a3, a4, a5, a6, a7, a8, fun i hi => by rw [xi 10 0 i (by omega)]; exact a9 i hi, a10⟩
  · exact ⟨by rw [xi 0 0 5 (by omega)]; exact r3.1, r3.2.1, fun s hs => by rw [x.2.2]; exact r3.2.2 s hs⟩
  · unfold SC at r4 ⊢
    rw [x.2.2]; exact r4
  · exact r5.cg (xi 2 0 4 (by omega)) (fun j => xi 12 0 j (by omega)) (fun j => xi 13 0 j (by omega)) (fun j => xl 14 0 j (by omega)) (fun j => xi 15 0 j (by omega)) rfl (fun _ => rfl)
