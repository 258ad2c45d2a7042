/-! the reference: set, comes, believes, jitters -/
def MN (hm : sd_H) (s : Nat) (f : Nat → Int32) : Prop := ∀ i, i < 8 → hm.1 (22 + i) 0 s = f i
def PN (s : Nat) (T _k i : Nat) : Prop := (22 ≤ T ∧ T < 30 ∧ i = s) ∨ (T = 7 ∧ i = 37)
section MNS
variable {l : Launch} {Q : Option sd_V → sd_H → Prop} {hm : sd_H} {s : Nat} {f : Nat → Int32}
theorem MN.pi {j : Nat} {v : Int32} (m : MN hm s f) (hj : j < 8) : MN (sd_pi hm (22 + j) 0 s v) s (upd f j v) := by
  intro i hi
  by_cases q : i = j
  · subst q; rw [sd_pi_eq, pk_us]
  · rw [sd_pi_ne (by omega), pk_un q]; exact m i hi
theorem MN.o {i : Nat} {v : Int32} (m : MN hm s f) : MN (sd_pi hm 7 0 i v) s f := by
  intro j hj
  rw [sd_pi_ne (by omega)]; exact m j hj
def mset (h : sd_H) (s : Nat) (q : Int32) : sd_H := sd_pi (sd_pi (sd_pi (sd_pi (sd_pi (sd_pi (sd_pi h (22 + 2) 0 s q) (22 + 0) 0 s q) (22 + 3) 0 s 65537) (22 + 1) 0 s 0) (22 + 5) 0 s 0) (22 + 6) 0 s 0) (22 + 7) 0 s 0
theorem MN.set {q : Int32} (m : MN hm s f) : MN (mset hm s q) s (nb_set f q) := ((((((m.pi (by decide)).pi (by decide)).pi (by decide)).pi (by decide)).pi (by decide)).pi (by decide)).pi (by decide)
theorem mset_fx {q : Int32} {h : sd_H} {P : Nat → Nat → Nat → Prop} (x : Fx P h hm) (hp : ∀ T, 22 ≤ T → T < 30 → P T 0 s) : Fx P h (mset hm s q) :=
  ((((((x.pi (hp _ (by decide) (by decide))).pi (hp _ (by decide) (by decide))).pi (hp _ (by decide) (by decide))).pi (hp _ (by decide) (by decide))).pi (hp _ (by decide) (by decide))).pi (hp _ (by decide) (by decide))).pi (hp _ (by decide) (by decide))
theorem sm_set {q : Int32} (hs : s < 6) (k : Q none (mset hm s q)) : sd_E1 l y_X9_set [v_r 7 0, v_i (nI s), v_i q] hm Q := by
  refine sd_e1 [] 60 (cd := cd_X9_set) (by decide) rfl (Nat.le_of_ble_eq_true rfl) ?_
  have s6 : s < 6 := hs
  refine ⟨s, ⟨s6, rfl⟩, s, ⟨s6, rfl⟩, s, ⟨s6, rfl⟩, s, ⟨s6, rfl⟩, s, ⟨s6, rfl⟩, s, ⟨s6, rfl⟩, s, ⟨s6, rfl⟩, ?_⟩
  exact k
theorem nb_new_c (f : Nat → Int32) (q : Int32) : ∀ i, i < 8 → nb_new f q i = nb_new (fun _ => 0) q i := by
  intro i hi
  rcases (show i = 0 ∨ i = 1 ∨ i = 2 ∨ i = 3 ∨ i = 4 ∨ i = 5 ∨ i = 6 ∨ i = 7 by omega) with rfl | rfl | rfl | rfl | rfl | rfl | rfl | rfl <;> rfl
def PC0 (s : Nat) (T _k i : Nat) : Prop := (T = 21 ∧ i = s) ∨ (22 ≤ T ∧ T < 30 ∧ i = s) ∨ (T = 7 ∧ i = 8)
theorem sm_comes {b q : Int32} {sn : Nat} (hN : hm.1 7 0 8 = nI sn) (hs : sn < 6) (k : ∀ hm', Fx (PC0 sn) hm hm' → hm'.1 21 0 sn = b → MN hm' sn (nb_new (fun _ => 0) q) → hm'.1 7 0 8 = nI (sn + 1) → Q (some (v_i (nI sn))) hm') : sd_E1 l y_X9_comes [v_r 7 0, v_i b, v_i q] hm Q := by
  refine sd_e1 [] 60 (cd := cd_X9_comes) (by decide) rfl (Nat.le_of_ble_eq_true rfl) ?_
  have s6 : sn < 6 := hs
  refine ⟨sn, ⟨s6, hN⟩, ?_⟩
  show sd_E1 l y_X9_set [v_r 7 0, v_i (hm.1 7 0 8), v_i q] _ _
  rw [hN]
  refine sm_set hs ?_
  refine ⟨sn, ⟨s6, rfl⟩, sn, ⟨s6, rfl⟩, ?_⟩
  have m : MN (sd_pi hm 21 0 sn b) sn (fun i => (sd_pi hm 21 0 sn b).1 (22 + i) 0 sn) := fun _ _ => rfl
  have m2 := ((m.set (q := q)).pi (j := 0) (v := (q - 1) &&& 65535) (by decide)).pi (j := 4) (v := 2) (by decide)
  show Q (some (v_i (nI sn))) (sd_pi (sd_pi (sd_pi (mset (sd_pi hm 21 0 sn b) sn q) (22 + 0) 0 sn ((q - 1) &&& 65535)) (22 + 4) 0 sn 2) 7 0 8 (hm.1 7 0 8 + 1))
  refine k _ ?_ ?_ ?_ ?_
  · refine (((mset_fx (Fx.rf.pi (Or.inl ⟨rfl, rfl⟩)) (fun T h1 h2 => Or.inr (Or.inl ⟨h1, h2, rfl⟩))).pi ?_).pi ?_).pi ?_
    all_goals (unfold PC0; omega)
  · show (sd_pi hm 21 0 sn b).1 21 0 sn = b
    exact sd_pi_eq
  · intro i hi
    rw [← nb_new_c (fun i => (sd_pi hm 21 0 sn b).1 (22 + i) 0 sn) q i hi, sd_pi_ne (by omega)]
    exact m2 i hi
  · rw [sd_pi_eq, hN, nI_1]
theorem sm_believes {q : Int32} (hs : s < 6) (m : MN hm s f) (k : ∀ hm', Fx (PN s) hm hm' → MN hm' s (nb_j f q).2 → hm'.1 7 0 37 = (if f 4 ≤ 0 ∧ (nb_j f q).1 = 2 then 1 else 0) → Q (some (v_i (if (nb_j f q).1 = 0 then 0 else 1))) hm') : sd_E1 l y_X9_believes [v_r 7 0, v_i (nI s), v_i q] hm Q := by
  have s6 : s < 6 := hs
  refine sd_e1 [183] 80 (cd := cd_X9_believes) (by decide) rfl (Nat.le_of_ble_eq_true rfl) ?_
  refine ⟨Or.inl rfl, ?_⟩
  have m0 : MN (sd_pi hm 7 0 37 0) s f := m.o
  have F0' : Fx (PN s) hm (sd_pi hm 7 0 37 0) := Fx.rf.pi (Or.inr ⟨rfl, rfl⟩)
  have z0 : (sd_pi hm 7 0 37 0).1 7 0 37 = 0 := rfl
  generalize sd_pi hm 7 0 37 0 = h0 at m0 F0' z0 ⊢
  have w0 : h0.1 22 0 s = f 0 := m0 0 (by decide)
  have w3 : h0.1 25 0 s = f 3 := m0 3 (by decide)
  have w4 : h0.1 26 0 s = f 4 := m0 4 (by decide)
  have PNs : ∀ T, 22 ≤ T → T < 30 → PN s T 0 s := fun T h1 h2 => Or.inl ⟨h1, h2, rfl⟩
  have at183 : ∀ (h1 : sd_H) (f1 : Nat → Int32) (v : Int32) (j3 : Option sd_V), Fx (PN s) hm h1 → MN h1 s f1 → nb_j0 f q = (v, f1) → ¬ v = 0 → h1.1 7 0 37 = (if f 4 ≤ 0 ∧ v = 2 then 1 else 0) → sd_Wq l none y_X9_believes true Q 183 [some (v_r 7 0), some (v_i (nI s)), some (v_i q), j3] [] h1 0 0 := by
    intro h1 f1 v j3 F1 m1 ej hv e37
    refine sd_go [] 60 (cd := cd_X9_believes) (by decide) rfl ?_
    refine ⟨s, ⟨s6, rfl⟩, s, ⟨s6, rfl⟩, ?_⟩
    have w5 : h1.1 27 0 s = f1 5 := m1 5 (by decide)
    have eJ : nb_j f q = (v, upd f1 5 (f1 5 + 1)) := by unfold nb_j; rw [ej, if_neg hv]
    rw [eJ] at k
    have m2 : MN (sd_pi h1 27 0 s (h1.1 27 0 s + 1)) s (upd f1 5 (f1 5 + 1)) := by rw [← w5]; exact m1.pi (j := 5) (by decide)
    have := k (sd_pi h1 27 0 s (h1.1 27 0 s + 1)) (F1.pi (PNs 27 (by decide) (by decide))) m2 e37
    rw [if_neg hv] at this
    exact ⟨Or.inr rfl, this⟩
  have fin0 : ∀ (h1 : sd_H) (f1 : Nat → Int32), Fx (PN s) hm h1 → MN h1 s f1 → nb_j0 f q = (0, f1) → h1.1 7 0 37 = 0 → Q (some (v_i 0)) h1 := by
    intro h1 f1 F1 m1 ej e37
    have eJ : nb_j f q = (0, f1) := by unfold nb_j; rw [ej]; rfl
    rw [eJ] at k
    have := k h1 F1 m1 (by rw [e37, if_neg (fun z => absurd (show (0 : Int32) = 2 from z.2) (by decide))])
    exact this
  refine ⟨s, ⟨s6, rfl⟩, ?_⟩
  refine ⟨fun (c1 : h0.1 26 0 s ≤ 0) => ?_, fun (c1 : ¬ h0.1 26 0 s ≤ 0) => ?_⟩
  · rw [w4] at c1
    have e0 : nb_j0 f q = nb_bel f q := by unfold nb_j0; rw [if_pos c1]
    refine ⟨s, ⟨s6, rfl⟩, ?_⟩
    refine ⟨fun (c2 : 3000 ≤ (q - h0.1 22 0 s) &&& 65535) => ?_, fun (c2 : ¬ 3000 ≤ (q - h0.1 22 0 s) &&& 65535) => ?_⟩
    · rw [w0] at c2
      refine ⟨fun (c3 : 65436 < (q - h0.1 22 0 s) &&& 65535) => ?_, fun (c3 : ¬ 65436 < (q - h0.1 22 0 s) &&& 65535) => ?_⟩
      · rw [w0] at c3
        refine at183 h0 f 1 _ F0' m0 ?_ (by decide) ?_
        · rw [e0]; unfold nb_bel; rw [if_pos c2, if_neg (Int32.not_le.mpr c3)]
        · rw [z0, if_neg (fun z => absurd z.2 (by decide))]
      · rw [w0] at c3
        refine ⟨s, ⟨s6, rfl⟩, ?_⟩
        refine ⟨fun (c4 : q = h0.1 25 0 s) => ?_, fun (c4 : ¬ q = h0.1 25 0 s) => ?_⟩
        · rw [w3] at c4
          refine sm_set hs ?_
          refine ⟨Or.inr rfl, ?_⟩
          refine at183 (sd_pi (mset h0 s q) 7 0 37 1) (nb_set f q) 2 _ ((mset_fx F0' PNs).pi (Or.inr ⟨rfl, rfl⟩)) (m0.set).o ?_ (by decide) ?_
          · rw [e0]; unfold nb_bel; rw [if_pos c2, if_pos (i_nlt c3), if_pos c4]
          · rw [if_pos ⟨c1, rfl⟩, sd_pi_eq]
        · rw [w3] at c4
          refine ⟨s, ⟨s6, rfl⟩, ?_⟩
          refine ⟨Or.inl rfl, ?_⟩
          refine fin0 (sd_pi h0 (22 + 3) 0 s ((q + 1) &&& 65535)) (upd f 3 ((q + 1) &&& 65535)) (F0'.pi (PNs _ (by decide) (by decide))) (m0.pi (by decide)) ?_ z0
          rw [e0]; unfold nb_bel; rw [if_pos c2, if_pos (i_nlt c3), if_neg c4]
    · rw [w0] at c2
      have w1 : h0.1 23 0 s = f 1 := m0 1 (by decide)
      refine ⟨s, ⟨s6, rfl⟩, s, ⟨s6, rfl⟩, ?_⟩
      have both : ∀ x : Int32, (if f 0 ≤ q then (0 : Int32) else 65536) = x → sd_Wq l none y_X9_believes true Q 183 [some (v_r 7 0), some (v_i (nI s)), some (v_i q), some (v_i ((q - h0.1 22 0 s) &&& 65535))] [] (sd_pi (sd_pi h0 23 0 s (h0.1 23 0 s + x)) 22 0 s q) 0 0 := by
        intro x hx
        refine at183 _ (upd (upd f 1 (f 1 + x)) 0 q) 1 _ ((F0'.pi (PNs _ (by decide) (by decide))).pi (PNs _ (by decide) (by decide))) ?_ ?_ (by decide) ?_
        · rw [w1]
          exact (m0.pi (j := 1) (by decide)).pi (j := 0) (by decide)
        · rw [e0]; unfold nb_bel; rw [if_neg c2, hx]
        · rw [if_neg (fun z => absurd z.2 (by decide))]; exact z0
      refine ⟨fun (c3 : h0.1 22 0 s ≤ q) => ?_, fun (c3 : ¬ h0.1 22 0 s ≤ q) => ?_⟩
      · rw [w0] at c3
        refine ⟨s, ⟨s6, rfl⟩, s, ⟨s6, rfl⟩, ?_⟩
        exact both 0 (by rw [if_pos c3])
      · rw [w0] at c3
        refine ⟨s, ⟨s6, rfl⟩, s, ⟨s6, rfl⟩, ?_⟩
        exact both 65536 (by rw [if_neg c3])
  · rw [w4] at c1
    have e0 : nb_j0 f q = nb_pro f q := by unfold nb_j0; rw [if_neg c1]
    refine ⟨s, ⟨s6, rfl⟩, ?_⟩
    refine ⟨fun (c2 : q = (h0.1 22 0 s + 1) &&& 65535) => ?_, fun (c2 : ¬ q = (h0.1 22 0 s + 1) &&& 65535) => ?_⟩
    rotate_left
    · rw [w0] at c2
      refine ⟨s, ⟨s6, rfl⟩, s, ⟨s6, rfl⟩, Or.inl rfl, ?_⟩
      refine fin0 (sd_pi (sd_pi h0 (22 + 4) 0 s 1) (22 + 0) 0 s q) (upd (upd f 4 1) 0 q) ((F0'.pi (PNs _ (by decide) (by decide))).pi (PNs _ (by decide) (by decide))) ((m0.pi (by decide)).pi (by decide)) ?_ z0
      rw [e0]; unfold nb_pro; rw [if_neg c2]
    rw [w0] at c2
    refine ⟨s, ⟨s6, rfl⟩, s, ⟨s6, rfl⟩, s, ⟨s6, rfl⟩, s, ⟨s6, rfl⟩, ?_⟩
    have m1 : MN (sd_pi (sd_pi h0 26 0 s (h0.1 26 0 s - 1)) 22 0 s q) s (upd (upd f 4 (f 4 - 1)) 0 q) := by
      rw [w4]; exact (m0.pi (j := 4) (by decide)).pi (j := 0) (by decide)
    have F1 : Fx (PN s) hm (sd_pi (sd_pi h0 26 0 s (h0.1 26 0 s - 1)) 22 0 s q) := (F0'.pi (PNs _ (by decide) (by decide))).pi (PNs _ (by decide) (by decide))
    have z1 : (sd_pi (sd_pi h0 26 0 s (h0.1 26 0 s - 1)) 22 0 s q).1 7 0 37 = 0 := z0
    generalize sd_pi (sd_pi h0 26 0 s (h0.1 26 0 s - 1)) 22 0 s q = h1 at m1 F1 z1 ⊢
    have y4 : h1.1 26 0 s = f 4 - 1 := m1 4 (by decide)
    refine ⟨fun (c3 : h1.1 26 0 s ≤ 0) => ?_, fun (c3 : ¬ h1.1 26 0 s ≤ 0) => ?_⟩
    · rw [y4] at c3
      refine sm_set hs ?_
      refine ⟨s, ⟨s6, rfl⟩, Or.inr rfl, ?_⟩
      have ej : nb_j0 f q = (2, nb_set (upd (upd f 4 (f 4 - 1)) 0 q) q) := by rw [e0]; unfold nb_pro; rw [if_pos c2, if_pos c3]
      have eJ : nb_j f q = (2, upd (nb_set (upd (upd f 4 (f 4 - 1)) 0 q) q) 5 1) := by
        unfold nb_j; rw [ej, if_neg (show ¬ (2 : Int32) = 0 by decide)]; rfl
      rw [eJ] at k
      have := k (sd_pi (mset h1 s q) (22 + 5) 0 s 1) ((mset_fx F1 PNs).pi (PNs _ (by decide) (by decide))) (m1.set.pi (by decide)) (by
        rw [if_neg (fun z => absurd z.1 c1)]; exact z1)
      exact this
    · rw [y4] at c3
      refine ⟨Or.inl rfl, ?_⟩
      refine fin0 h1 _ F1 m1 ?_ z1
      rw [e0]; unfold nb_pro; rw [if_pos c2, if_neg c3]
/-- JITTER -/
def MJ (hm : sd_H) (s : Nat) (f : Nat → Int32) : Prop := hm.1 32 0 s = f 0 ∧ hm.1 31 0 s = f 1 ∧ hm.1 30 0 s = f 2 ∧ (f 2 = 0 ∨ f 2 = 1)
def PJ (s : Nat) (T _k i : Nat) : Prop := 30 ≤ T ∧ T < 33 ∧ i = s
theorem i_asub (a b c : Int32) : a + b - c = a + (b - c) := by rw [Int32.sub_eq_add_neg, Int32.sub_eq_add_neg, Int32.add_assoc]
theorem sm_jitters {rt st nw : Int32} (hs : s < 6) (hnw : hm.1 7 0 0 = nw) (m : MJ hm s f) (k : ∀ hm', Fx (PJ s) hm hm' → MJ hm' s (jt_f f ((nw.toInt64 * rt.toInt64 / 1000).toInt32 - st)) → Q none hm') : sd_E1 l y_X9_jitters [v_r 7 0, v_i (nI s), v_i rt, v_i st] hm Q := by
  have s6 : s < 6 := hs
  refine sd_e1 [79] 80 (cd := cd_X9_jitters) (by decide) rfl (Nat.le_of_ble_eq_true rfl) ?_
  refine ⟨by decide, s, ⟨s6, rfl⟩, ?_⟩
  obtain ⟨m0, m1, m2, m3⟩ := m
  rw [hnw]
  generalize (nw.toInt64 * rt.toInt64 / 1000).toInt32 - st = x at k ⊢
  have P32 : PJ s 32 0 s := ⟨by decide, by decide, rfl⟩
  have P31 : PJ s 31 0 s := ⟨by decide, by decide, rfl⟩
  have P30 : PJ s 30 0 s := ⟨by decide, by decide, rfl⟩
  refine ⟨fun (c1 : hm.1 30 0 s = 0) => ?_, fun (c1 : ¬ hm.1 30 0 s = 0) => ?_⟩
  · rw [m2] at c1
    refine sd_go [] 60 (cd := cd_X9_jitters) (by decide) rfl ?_
    refine ⟨s, ⟨s6, rfl, Or.inr rfl⟩, s, ⟨s6, rfl⟩, ?_⟩
    refine k (sd_pi (sd_pi hm 30 0 s 1) 31 0 s x) ((Fx.rf.pi P30).pi P31) ?_
    unfold jt_f
    rw [if_pos c1]
    refine ⟨m0, sd_pi_eq, ?_, Or.inr rfl⟩
    show (sd_pi hm 30 0 s 1).1 30 0 s = _
    exact sd_pi_eq
  · rw [m2] at c1
    refine ⟨s, ⟨s6, rfl⟩, ?_⟩
    have ea : ∀ y : Int32, i_abs (x - f 1) = y → sd_Wq l none y_X9_jitters true Q 79 [some (v_r 7 0), some (v_i (nI s)), some (v_i rt), some (v_i st), some (v_i x), some (v_i y)] [] (sd_pi hm 32 0 s (hm.1 32 0 s + y - (hm.1 32 0 s + 8) >>> 4)) 0 0 := by
      intro y hy
      refine sd_go [] 60 (cd := cd_X9_jitters) (by decide) rfl ?_
      refine ⟨s, ⟨s6, rfl, Or.inr rfl⟩, s, ⟨s6, rfl⟩, ?_⟩
      refine k (sd_pi (sd_pi (sd_pi hm 32 0 s (hm.1 32 0 s + y - (hm.1 32 0 s + 8) >>> 4)) 30 0 s 1) 31 0 s x) (((Fx.rf.pi P32).pi P30).pi P31) ?_
      unfold jt_f
      rw [if_neg c1, hy]
      refine ⟨?_, sd_pi_eq, ?_, Or.inr rfl⟩
      · show (sd_pi hm 32 0 s _).1 32 0 s = f 0 + (y - (f 0 + 8) >>> 4)
        rw [sd_pi_eq, m0, i_asub]
      · show (sd_pi _ 30 0 s 1).1 30 0 s = _
        exact sd_pi_eq
    rw [m1]
    refine ⟨fun c2 => ?_, fun c2 => ?_⟩
    · refine ⟨s, ⟨s6, rfl⟩, s, ⟨s6, rfl⟩, s, ⟨s6, rfl⟩, ?_⟩
      exact ea (x - f 1) (by unfold i_abs; rw [if_pos c2])
    · refine ⟨s, ⟨s6, rfl⟩, s, ⟨s6, rfl⟩, s, ⟨s6, rfl⟩, ?_⟩
      exact ea (-(x - f 1)) (by unfold i_abs; rw [if_neg c2])
end MNS
