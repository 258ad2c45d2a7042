/-! the reference: report -/
theorem RR.up {hc hm : sd_H} {sz nw sn e t t' : Nat} {g : Nat → Nat} (R : RR hc hm sz g nw sn e t) (h : t ≤ t') : RR hc hm sz g nw sn e t' := by
  obtain ⟨r1, r2, r3, r4, r5, r6, r7, r8⟩ := R
  exact ⟨r1, r2, r3, r4, r5, by omega, fun s hs => (r7 s hs).cg .rf .rf (Nat.le_refl _) h, r8⟩
section RP
variable {l : Launch} {Q : Option sd_V → sd_H → Prop} {hc hm : sd_H} {sz nw sn e t : Nat} {g : Nat → Nat} {own : Int32}
theorem RR.ownd (R : RR hc hm sz g nw sn e t) : RR (sd_pi hc 0 0 12 own) (sd_pi hm 7 0 38 own) sz g nw sn e t := by
  obtain ⟨r1, r2, r3, r4, r5, r6, r7, r8⟩ := R
  have z : Fx (fun T _ i => T = 7 ∧ i = 38) hm (sd_pi hm 7 0 38 own) := Fx.rf.pi ⟨rfl, rfl⟩
  have x : Fx (fun T _ i => T = 0 ∧ i = 12) hc (sd_pi hc 0 0 12 own) := Fx.rf.pi ⟨rfl, rfl⟩
  have ma : ∀ s, MA hm (sd_pi hm 7 0 38 own) s := fun s => MA.fx z (fun T h1 h2 => by omega) (fun T i h1 h2 h3 => by omega) (fun i h1 h2 => by omega)
  have ca : ∀ s, CA hc (sd_pi hc 0 0 12 own) s := fun s => CA.fx x (fun T i h => by omega)
  obtain ⟨a1, a2, a3, a4, a5, a6, a7, a8, a9, a10⟩ := r2
  exact ⟨r1.cg x z (by omega) (by omega) (by omega) (by omega), ⟨a1, a2, a3, a4, a5, a6, a7, rfl, a9, a10⟩, r3.fx x (by omega), r4.fx x, r5.cg rfl (fun _ => rfl) (fun _ => rfl) (fun _ => rfl) (fun _ => rfl) rfl (fun _ => rfl), r6, fun s hs => (r7 s hs).cg (ca s) (ma s) (Nat.le_refl _) (Nat.le_refl _), fun s h1 h2 => (r8 s h1 h2).cg (ma s)⟩
set_option maxRecDepth 100000 in
theorem sq_mcnt (hN : hm.1 7 0 8 = nI sn) (h6 : sn ≤ 6) (r : ∀ s, s < sn → hm.1 26 0 s = hc.1 4 s 4 ∧ hm.1 33 0 s = hc.1 3 s 4) : ∀ (n i b : Nat), i + n = sn → sd_Wq l none y_X9_report true Q 49 [some (v_r 7 0), some (v_i own), some (v_i (nI (b + dk_cnt hc i n))), some (v_i (nI sn))] [] hm 0 0 → sd_Wq l none y_X9_report true Q 9 [some (v_r 7 0), some (v_i own), some (v_i (nI b)), some (v_i (nI i))] [] hm 0 0
  | 0, i, b, hi, k => by
    refine sd_go [9, 49] 60 (cd := cd_X9_report) (by decide) rfl ?_
    refine ⟨fun _ => ?_, fun c => absurd ?_ c⟩
    · rw [show i = sn by omega]; exact k
    · show hm.1 7 0 8 ≤ nI i
      rw [hN, show sn = i by omega]
      exact Int32.le_refl _
  | n + 1, i, b, hi, k => by
    refine sd_go [9, 49] 60 (cd := cd_X9_report) (by decide) rfl ?_
    refine ⟨fun c => absurd c ?_, fun _ => ?_⟩
    · show ¬ hm.1 7 0 8 ≤ nI i
      rw [hN]
      exact nI_ge (by omega) (by omega)
    have i6 : i < 6 := by omega
    obtain ⟨q4, q3⟩ := r i (by omega)
    have no : dk_rep hc i = false → sd_Wq l none y_X9_report true Q 9 [some (v_r 7 0), some (v_i own), some (v_i (nI b + 0)), some (v_i (nI i + 1))] [] hm 0 0 := by
      intro z
      rw [show nI b + 0 = nI b from Int32.add_zero _, nI_1]
      refine sq_mcnt hN h6 r n (i + 1) b (by omega) ?_
      have k := k
      unfold dk_cnt at k
      rw [z, if_neg (by decide), Nat.zero_add] at k
      exact k
    refine ⟨i, ⟨i6, rfl⟩, fun (c1 : ¬ hm.1 26 0 i = 0) => ?_, fun (c1 : hm.1 26 0 i = 0) => ?_⟩
    · rw [q4] at c1
      exact no (by unfold dk_rep; simp [c1])
    rw [q4] at c1
    refine ⟨i, ⟨i6, rfl⟩, fun (c2 : ¬ hm.1 33 0 i = 0) => ?_, fun (c2 : hm.1 33 0 i = 0) => ?_⟩
    · rw [q3] at c2
      exact no (by unfold dk_rep; simp [c2])
    rw [q3] at c2
    show sd_Wq l none y_X9_report true Q 9 [some (v_r 7 0), some (v_i own), some (v_i (nI b + 1)), some (v_i (nI i + 1))] [] hm 0 0
    rw [nI_1, nI_1]
    refine sq_mcnt hN h6 r n (i + 1) (b + 1) (by omega) ?_
    unfold dk_cnt at k
    rw [if_pos (show dk_rep hc i = true by unfold dk_rep; simp [c1, c2]), ← Nat.add_assoc] at k
    exact k
set_option maxRecDepth 100000 in
theorem sq_mwr (ht : t ≤ 1000) {b : Int32} : ∀ (n i : Nat) (hx hmx : sd_H) (sz : Nat) (g : Nat → Nat), i + n = sn → RR hx hmx sz g nw sn e t → sz + 24 * n ≤ 300 → (∀ hm' g', RR (dk_wr (nI nw) i n hx sz).1 hm' (dk_wr (nI nw) i n hx sz).2 g' nw sn e t → Fx PMo hmx hm' → Q (some (v_i (nI (dk_wr (nI nw) i n hx sz).2))) hm') → sd_Wq l none y_X9_report true Q 89 [some (v_r 7 0), some (v_i own), some (v_i b), some (v_i (nI i))] [] hmx 0 0
  | 0, i, hx, hmx, sz, g, hi, R, hle, k => by
    refine sd_go [89] 60 (cd := cd_X9_report) (by decide) rfl ?_
    have R' := R
    obtain ⟨r1, r2, r3, r4, r5, r6, r7, r8⟩ := R
    have hN : hmx.1 7 0 8 = nI sn := r2.2.2.2.2.2.2.2.2.2
    refine ⟨fun _ => ?_, fun c => absurd ?_ c⟩
    · have k : Q (some (v_i (nI sz))) hmx := k hmx g R' .rf
      show Q (some (v_i (hmx.1 7 0 2))) hmx
      rw [r1.2.1]; exact k
    · show hmx.1 7 0 8 ≤ nI i
      rw [hN, show sn = i by omega]
      exact Int32.le_refl _
  | n + 1, i, hx, hmx, sz, g, hi, R, hle, k => by
    refine sd_go [89] 60 (cd := cd_X9_report) (by decide) rfl ?_
    have R' := R
    obtain ⟨r1, r2, r3, r4, r5, r6, r7, r8⟩ := R
    have hN : hmx.1 7 0 8 = nI sn := r2.2.2.2.2.2.2.2.2.2
    have h6 := r3.2.1
    refine ⟨fun c => absurd c ?_, fun _ => ?_⟩
    · show ¬ hmx.1 7 0 8 ≤ nI i
      rw [hN]
      exact nI_ge (by omega) (by omega)
    have i6 : i < 6 := by omega
    have q4 : hmx.1 26 0 i = hx.1 4 i 4 := (r7 i (by omega)).2.1 4 (by decide)
    have q3 : hmx.1 33 0 i = hx.1 3 i 4 := (r7 i (by omega)).2.2.2.2.1.1
    have no : dk_rep hx i = false → sd_Wq l none y_X9_report true Q 89 [some (v_r 7 0), some (v_i own), some (v_i b), some (v_i (nI i + 1))] [] hmx 0 0 := by
      intro z
      rw [nI_1]
      refine sq_mwr ht n (i + 1) hx hmx sz g (by omega) R' (by omega) ?_
      have k := k
      unfold dk_wr at k
      rw [z, if_neg (by decide)] at k
      exact k
    refine ⟨i, ⟨i6, rfl⟩, fun (c1 : ¬ hmx.1 26 0 i = 0) => ?_, fun (c1 : hmx.1 26 0 i = 0) => ?_⟩
    · rw [q4] at c1
      exact no (by unfold dk_rep; simp [c1])
    rw [q4] at c1
    refine ⟨i, ⟨i6, rfl⟩, fun (c2 : ¬ hmx.1 33 0 i = 0) => ?_, fun (c2 : hmx.1 33 0 i = 0) => ?_⟩
    · rw [q3] at c2
      exact no (by unfold dk_rep; simp [c2])
    rw [q3] at c2
    unfold dk_wr at k
    rw [if_pos (show dk_rep hx i = true by unfold dk_rep; simp [c1, c2])] at k
    refine sm_putBlock R' ht (by omega) (by omega) (fun hm' g' R1 f1 => ?_)
    show sd_Wq l none y_X9_report true Q 89 [some (v_r 7 0), some (v_i own), some (v_i b), some (v_i (nI i + 1))] [] hm' 0 0
    rw [nI_1]
    exact sq_mwr ht n (i + 1) _ hm' (sz + 24) g' (by omega) R1 (by omega) (fun hm2 g2 R2 f2 => k hm2 g2 R2 (f1.tr f2))
theorem sm_report (R : RR hc hm sz g nw sn e t) (ht : t + 1 ≤ 1000) (k : ∀ hm' g', RR (dk_report hc sn own).1 hm' (dk_report hc sn own).2 g' nw sn e (t + 1) → Fx PMo hm hm' → Q (some (v_i (nI (dk_report hc sn own).2))) hm') : sd_E1 l y_X9_report [v_r 7 0, v_i own] hm Q := by
  have R1 := R.ownd (own := own)
  obtain ⟨r1, r2, r3, r4, r5, r6, r7, r8⟩ := R
  have hN : hm.1 7 0 8 = nI sn := r2.2.2.2.2.2.2.2.2.2
  have h6 := r3.2.1
  have enw : hc.1 0 0 6 = nI nw := r2.2.1.2.1
  refine sd_e1 [9] 60 (cd := cd_X9_report) (by decide) rfl (Nat.le_of_ble_eq_true rfl) ?_
  refine sq_mcnt (hm := sd_pi hm 7 0 38 own) (hc := hc) (sn := sn) hN h6 (fun s hs => ⟨(r7 s hs).2.1 4 (by decide), (r7 s hs).2.2.2.2.1.1⟩) sn 0 0 (by omega) ?_
  rw [Nat.zero_add]
  unfold dk_report at k
  rw [enw] at k
  have F0 : Fx PMo hm (sd_pi hm 7 0 38 own) := Fx.rf.pi (Or.inl rfl)
  generalize hb : dk_cnt hc 0 sn = b at k ⊢
  have b6 : b ≤ 6 := by have := dk_cnt_le hc sn 0; omega
  generalize sd_pi hm 7 0 38 own = m0 at R1 F0 ⊢
  generalize sd_pi hc 0 0 12 own = c0 at R1 k ⊢
  clear r1 r2 r3 r4 r5 r6 r7 r8 hN enw
  refine sd_go [89] 60 (cd := cd_X9_report) (by decide) rfl ?_
  have q1 : PKm 7 0 2 := Or.inl ⟨rfl, rfl⟩
  have q2 : ∀ i, PKm 19 0 i := fun i => Or.inr rfl
  have p1 : PKc 1 0 1 := Or.inl rfl
  have p2 : ∀ i, PKc 11 0 i := fun i => Or.inr rfl
  have P0 : PK (sd_pi c0 1 0 1 0) (sd_pi m0 7 0 2 0) 0 g := ⟨rfl, rfl, by omega, R1.1.2.2.2⟩
  have z0 : Fx PKm m0 (sd_pi m0 7 0 2 0) := Fx.rf.pi q1
  show sd_E1 l y_X9_put [v_r 7 0, v_i (128 + nI b)] (sd_pi m0 7 0 2 0) _
  generalize sd_pi m0 7 0 2 0 = m1 at P0 z0 ⊢
  refine sm_put (sz := 0) P0.2.1 (by omega) ?_
  obtain ⟨g1, P1⟩ := PK.app (v := (128 + nI b).toInt64) (b := fun _ => (128 + nI b) &&& 255) 1 _ m1 _ _ P0 (by omega) (fun k hk => by rw [show k = 0 by omega, ab_mbI _ (by omega), mb_0])
  have z1 : Fx PKm m0 (mp_all (fun _ => (128 + nI b) &&& 255) 1 m1 0) := mp_all_fx q1 q2 _ _ _ z0
  show sd_E1 l y_X9_put [v_r 7 0, v_i 201] (mp_all (fun _ => (128 + nI b) &&& 255) 1 m1 0) _
  generalize mp_all (fun _ => (128 + nI b) &&& 255) 1 m1 0 = m2 at P1 z1 ⊢
  refine sm_put (sz := 1) P1.2.1 (by omega) ?_
  obtain ⟨g2, P2⟩ := PK.app (v := 201) (b := fun _ => (201 : Int32) &&& 255) 1 _ m2 _ _ P1 (by omega) (fun k hk => by rw [show k = 0 by omega]; decide)
  have z2 : Fx PKm m0 (mp_all (fun _ => (201 : Int32) &&& 255) 1 m2 1) := mp_all_fx q1 q2 _ _ _ z1
  show sd_E1 l y_X9_putAll [v_r 7 0, v_i (1 + 6 * nI b), v_i (nI 2)] (mp_all (fun _ => (201 : Int32) &&& 255) 1 m2 1) _
  generalize mp_all (fun _ => (201 : Int32) &&& 255) 1 m2 1 = m3 at P2 z2 ⊢
  refine sm_putAll (m := 2) (sz := 2) P2.2.1 (by omega) ?_
  obtain ⟨g3, P3⟩ := PK.app (v := (1 + nI b * 6).toInt64) (b := mb (1 + 6 * nI b)) 2 _ m3 _ _ P2 (by omega) (fun k hk => by rw [Int32.mul_comm 6]; exact ab_mbI _ (by omega))
  have z3 : Fx PKm m0 (mp_all (mb (1 + 6 * nI b)) 2 m3 2) := mp_all_fx q1 q2 _ _ _ z2
  generalize mp_all (mb (1 + 6 * nI b)) 2 m3 2 = m4 at P3 z3 ⊢
  refine sm_putAll (m := 4) (sz := 4) P3.2.1 (by omega) ?_
  obtain ⟨g4, P4⟩ := PK.app (v := own.toInt64) (b := mb own) 4 _ m4 _ _ P3 (by omega) (fun k hk => ab_mbI _ (by omega))
  have z4 : Fx PKm m0 (mp_all (mb own) 4 m4 4) := mp_all_fx q1 q2 _ _ _ z3
  have P4 : PK (dk_head c0 own b) (mp_all (mb own) 4 m4 4) 8 g4 := P4
  have x4 : Fx PKc c0 (dk_head c0 own b) := by
    unfold dk_head
    exact pk_app_fx p1 p2 _ _ _ (pk_app_fx p1 p2 _ _ _ (pk_app_fx p1 p2 _ _ _ (pk_app_fx p1 p2 _ _ _ (Fx.rf.pi p1))))
  have R4 := R1.pk x4 z4 P4
  refine sq_mwr ht sn 0 _ _ 8 g4 (by omega) R4 (by omega) (fun hm' g' R5 f5 => ?_)
  exact k hm' g' R5 ((F0.tr (z4.mono (fun T k i q => by unfold PKm at q; unfold PMo; omega))).tr f5)
end RP
