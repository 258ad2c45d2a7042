/-! the reference: digest; small things -/
section MD
variable {l : Launch} {Q : Option sd_V → sd_H → Prop} {hc hm : sd_H} {sz nw sn e t : Nat} {g : Nat → Nat}
theorem RR.count (R : RR hc hm sz g nw sn e t) (w : Int32) : md_count hm w = dk_count hc w := by
  obtain ⟨r1, ⟨a1, a2, a3, a4, a5, a6, a7, a8, a9, a10⟩, r3, r4, r5, r6, r7, r8⟩ := R
  unfold md_count dk_count
  rw [r1.1, r1.2.1, a10, r3.1, a2.1, a2.2.1, r5.1, r5.2.1, a4, a5, a6, a7, a3]
theorem sq_m1 {j4 : Option sd_V} (R : RR hc hm sz g nw sn e t) : ∀ (n : Nat) (a : Int64), n ≤ 9 → sd_Wq l none y_X9_digest true Q 31 [some (v_r 7 0), some (v_l (dg_f (fun w => (dk_count hc (nI w)).toInt64) n (9 - n) a)), none, some (v_i (nI 9)), j4] [] hm 0 0 → sd_Wq l none y_X9_digest true Q 6 [some (v_r 7 0), some (v_l a), none, some (v_i (nI (9 - n))), j4] [] hm 0 0
  | 0, a, hn, k => by
    refine sd_go [6, 31, 33, 44, 72, 90, 92] 40 (cd := cd_X9_digest) (by decide) rfl ?_
    exact ⟨fun _ => k, fun c => absurd (show (9 : Int32) ≤ nI 9 by decide) c⟩
  | n + 1, a, hn, k => by
    refine sd_go [6, 31, 33, 44, 72, 90, 92] 40 (cd := cd_X9_digest) (by decide) rfl ?_
    refine ⟨fun c => absurd c ?_, fun _ => ?_⟩
    · exact nI_ge (a := 9 - (n + 1)) (b := 9) (by omega) (by decide)
    refine sm_count ?_
    rw [R.count]
    show sd_Wq l none y_X9_digest true Q 6 [some (v_r 7 0), some (v_l (31 * a + (dk_count hc (nI (9 - (n + 1)))).toInt64)), none, some (v_i (nI (9 - (n + 1)) + 1)), j4] [] hm 0 0
    rw [nI_1, show 9 - (n + 1) + 1 = 9 - n by omega]
    refine sq_m1 R n _ (by omega) ?_
    have k := k
    unfold dg_f at k
    rw [show 9 - (n + 1) + 1 = 9 - n by omega] at k
    exact k
theorem sq_m2 {s : Nat} (R : RR hc hm sz g nw sn e t) (hs : s < sn) : ∀ (n : Nat) (a : Int64), n ≤ 17 → sd_Wq l none y_X9_digest true Q 72 [some (v_r 7 0), some (v_l (dg_f (fun w => (sn_fld hc s (nI w)).toInt64) n (17 - n) a)), none, some (v_i (nI s)), some (v_i (nI 17))] [] hm 0 0 → sd_Wq l none y_X9_digest true Q 44 [some (v_r 7 0), some (v_l a), none, some (v_i (nI s)), some (v_i (nI (17 - n)))] [] hm 0 0
  | 0, a, hn, k => by
    refine sd_go [6, 31, 33, 44, 72, 90, 92] 40 (cd := cd_X9_digest) (by decide) rfl ?_
    exact ⟨fun _ => k, fun c => absurd (show (17 : Int32) ≤ nI 17 by decide) c⟩
  | n + 1, a, hn, k => by
    refine sd_go [6, 31, 33, 44, 72, 90, 92] 40 (cd := cd_X9_digest) (by decide) rfl ?_
    refine ⟨fun c => absurd c ?_, fun _ => ?_⟩
    · exact nI_ge (a := 17 - (n + 1)) (b := 17) (by omega) (by decide)
    have h6 := R.2.2.1.2.1
    refine sm_sender R.2.1.2.2.2.2.2.2.2.2.2 h6 R.2.2.2.2.2.2.1 (fun c => ?_) (fun s' hs' es => ?_)
    · exfalso
      rcases c with c | c
      · exact absurd c (nI_pos (by omega))
      · have := (nI_leI (a := sn) (b := s) (by omega) (by omega)).mp c
        omega
    · have es : s = s' := (nI_eq (by omega) (by omega)).mp es
      subst es
      show sd_Wq l none y_X9_digest true Q 44 [some (v_r 7 0), some (v_l (31 * a + (sn_fld hc s (nI (17 - (n + 1)))).toInt64)), none, some (v_i (nI s)), some (v_i (nI (17 - (n + 1)) + 1))] [] hm 0 0
      rw [nI_1, show 17 - (n + 1) + 1 = 17 - n by omega]
      refine sq_m2 R hs n _ (by omega) ?_
      have k := k
      unfold dg_f at k
      rw [show 17 - (n + 1) + 1 = 17 - n by omega] at k
      exact k
theorem sq_m3 (R : RR hc hm sz g nw sn e t) : ∀ (n : Nat) (a : Int64) (j4 : Option sd_V), n ≤ sn → (∀ j4 : Option sd_V, sd_Wq l none y_X9_digest true Q 90 [some (v_r 7 0), some (v_l (dg_s (fun s w => (sn_fld hc s (nI w)).toInt64) (fun s => hc.2.1 6 s 6) n (sn - n) a)), none, some (v_i (nI sn)), j4] [] hm 0 0) → sd_Wq l none y_X9_digest true Q 33 [some (v_r 7 0), some (v_l a), none, some (v_i (nI (sn - n))), j4] [] hm 0 0
  | 0, a, j4, hn, k => by
    refine sd_go [6, 31, 33, 44, 72, 90, 92] 40 (cd := cd_X9_digest) (by decide) rfl ?_
    refine ⟨fun _ => k j4, fun (c : ¬ hm.1 7 0 8 ≤ nI sn) => absurd ?_ c⟩
    rw [show hm.1 7 0 8 = nI sn from R.2.1.2.2.2.2.2.2.2.2.2]
    exact nI_le (Nat.le_refl _) (by have := R.2.2.1.2.1; omega)
  | n + 1, a, j4, hn, k => by
    have h6 := R.2.2.1.2.1
    have hN : hm.1 7 0 8 = nI sn := R.2.1.2.2.2.2.2.2.2.2.2
    refine sd_go [6, 31, 33, 44, 72, 90, 92] 40 (cd := cd_X9_digest) (by decide) rfl ?_
    refine ⟨fun (c : hm.1 7 0 8 ≤ nI (sn - (n + 1))) => absurd c ?_, fun _ => ?_⟩
    · rw [hN]
      exact nI_ge (a := sn - (n + 1)) (b := sn) (by omega) (by omega)
    refine sq_m2 R (s := sn - (n + 1)) (by omega) 17 a (Nat.le_refl _) ?_
    refine sd_go [6, 31, 33, 44, 90, 92] 40 (cd := cd_X9_digest) (by decide) rfl ?_
    refine sm_next hN h6 R.2.2.2.2.2.2.1 (fun c => ?_) (fun s' hs' es => ?_)
    · exfalso
      rcases c with c | c
      · exact absurd c (nI_pos (by omega))
      · have := (nI_leI (a := sn) (b := sn - (n + 1)) (by omega) (by omega)).mp c
        omega
    · have es : sn - (n + 1) = s' := (nI_eq (by omega) (by omega)).mp es
      show sd_Wq l none y_X9_digest true Q 33 [some (v_r 7 0), some (v_l (31 * dg_f (fun w => (sn_fld hc (sn - (n + 1)) (nI w)).toInt64) 17 0 a + hc.2.1 6 s' 6)), none, some (v_i (nI (sn - (n + 1)) + 1)), some (v_i (nI 17))] [] hm 0 0
      rw [nI_1, show sn - (n + 1) + 1 = sn - n by omega, ← es]
      refine sq_m3 R n _ _ (by omega) (fun j4 => ?_)
      have k := k j4
      unfold dg_s at k
      rw [show sn - (n + 1) + 1 = sn - n by omega] at k
      exact k
theorem sq_m4 (P : PK hc hm sz g) {j4 : Option sd_V} : ∀ (n : Nat) (a : Int64), n ≤ sz → Q (some (v_l (dg_f (fun i => (pk_b hc (nI i)).toInt64) n (sz - n) a))) hm → sd_Wq l none y_X9_digest true Q 92 [some (v_r 7 0), some (v_l a), none, some (v_i (nI (sz - n))), j4] [] hm 0 0
  | 0, a, hn, k => by
    have h3 := P.2.2.1
    refine sd_go [92] 40 (cd := cd_X9_digest) (by decide) rfl ?_
    refine ⟨fun _ => k, fun (c : ¬ hm.1 7 0 2 ≤ nI sz) => absurd ?_ c⟩
    rw [P.2.1]
    exact nI_le (Nat.le_refl _) (by omega)
  | n + 1, a, hn, k => by
    have h3 := P.2.2.1
    refine sd_go [92] 40 (cd := cd_X9_digest) (by decide) rfl ?_
    refine ⟨fun (c : hm.1 7 0 2 ≤ nI (sz - (n + 1))) => absurd c ?_, fun _ => ?_⟩
    · rw [P.2.1]
      exact nI_ge (a := sz - (n + 1)) (b := sz) (by omega) (by omega)
    refine ⟨sz - (n + 1), ⟨show sz - (n + 1) < 300 by omega, rfl⟩, ?_⟩
    have eb : hm.1 19 0 (sz - (n + 1)) = pk_b hc (nI (sz - (n + 1))) := by rw [P.m (by omega), P.b (by omega)]
    rw [eb]
    show sd_Wq l none y_X9_digest true Q 92 [some (v_r 7 0), some (v_l (31 * a + (pk_b hc (nI (sz - (n + 1)))).toInt64)), none, some (v_i (nI (sz - (n + 1)) + 1)), j4] [] hm 0 0
    rw [nI_1, show sz - (n + 1) + 1 = sz - n by omega]
    refine sq_m4 P n _ (by omega) ?_
    unfold dg_f at k
    rw [show sz - (n + 1) + 1 = sz - n by omega] at k
    exact k
theorem sm_digest (R : RR hc hm sz g nw sn e t) (k : Q (some (v_l (dk_dg hc sn sz))) hm) : sd_E1 l y_X9_digest [v_r 7 0] hm Q := by
  refine sd_e1 [6] 40 (cd := cd_X9_digest) (by decide) rfl (Nat.le_of_ble_eq_true rfl) ?_
  refine sq_m1 R 9 17 (Nat.le_refl _) ?_
  refine sd_go [33] 40 (cd := cd_X9_digest) (by decide) rfl ?_
  have w := sq_m3 (l := l) (Q := Q) R sn (dg_f (fun w => (dk_count hc (nI w)).toInt64) 9 0 17) none (Nat.le_refl _) (fun j4 => ?_)
  · rw [Nat.sub_self] at w
    exact w
  refine sd_go [92] 40 (cd := cd_X9_digest) (by decide) rfl ?_
  rw [Nat.sub_self]
  have w := sq_m4 (l := l) (Q := Q) R.1 (j4 := j4) sz (dg_s (fun s w => (sn_fld hc s (nI w)).toInt64) (fun s => hc.2.1 6 s 6) sn 0 (dg_f (fun w => (dk_count hc (nI w)).toInt64) 9 0 17)) (Nat.le_refl _) (by rw [Nat.sub_self]; exact k)
  rw [Nat.sub_self] at w
  exact w
end MD
