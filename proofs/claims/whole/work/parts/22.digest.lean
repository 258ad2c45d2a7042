/-! StreamDesk.digest -/
def dg_f (f : Nat → Int64) : Nat → Nat → Int64 → Int64
  | 0, _, a => a
  | n + 1, i, a => dg_f f n (i + 1) (31 * a + f i)
def dg_s (g : Nat → Nat → Int64) (x : Nat → Int64) : Nat → Nat → Int64 → Int64
  | 0, _, a => a
  | n + 1, i, a => dg_s g x n (i + 1) (31 * dg_f (g i) 17 0 a + x i)
def dk_dg (h : sd_H) (sn sz : Nat) : Int64 := dg_f (fun i => (pk_b h (nI i)).toInt64) sz 0 (dg_s (fun s w => (sn_fld h s (nI w)).toInt64) (fun s => h.2.1 6 s 6) sn 0 (dg_f (fun w => (dk_count h (nI w)).toInt64) 9 0 17))
section DG
variable {l : Launch} {Q : Option sd_V → sd_H → Prop} {sn sz : Nat} {h : sd_H}
theorem sq_d1 {j4 : Option sd_V} : ∀ (n : Nat) (a : Int64), n ≤ 9 → sd_Wq l none y_X8_digest true Q 31 [some (v_r 0 0), some (v_l (dg_f (fun w => (dk_count h (nI w)).toInt64) n (9 - n) a)), none, some (v_i (nI 9)), j4] [] h 0 0 → sd_Wq l none y_X8_digest true Q 6 [some (v_r 0 0), some (v_l a), none, some (v_i (nI (9 - n))), j4] [] h 0 0
  | 0, a, hn, k => by
    refine sd_go [6, 31, 33, 44, 72, 90, 92] 40 (cd := cd_X8_digest) (by decide) rfl ?_
    exact ⟨fun _ => k, fun c => absurd (show (8 : Int32) < nI 9 by decide) c⟩
  | n + 1, a, hn, k => by
    refine sd_go [6, 31, 33, 44, 72, 90, 92] 40 (cd := cd_X8_digest) (by decide) rfl ?_
    refine ⟨fun c => absurd c ?_, fun _ => ?_⟩
    · exact nI_nlt (a := 8) (b := 9 - (n + 1)) (by omega) (by decide)
    refine sp_count ?_
    show sd_Wq l none y_X8_digest true Q 6 [some (v_r 0 0), some (v_l (31 * a + (dk_count h (nI (9 - (n + 1)))).toInt64)), none, some (v_i (nI (9 - (n + 1)) + 1)), j4] [] h 0 0
    rw [nI_1, show 9 - (n + 1) + 1 = 9 - n by omega]
    refine sq_d1 n _ (by omega) ?_
    have k := k
    unfold dg_f at k
    rw [show 9 - (n + 1) + 1 = 9 - n by omega] at k
    exact k
theorem sq_d2 {s : Nat} (hN : SN h sn) (hs : s < sn) : ∀ (n : Nat) (a : Int64), n ≤ 17 → sd_Wq l none y_X8_digest true Q 72 [some (v_r 0 0), some (v_l (dg_f (fun w => (sn_fld h s (nI w)).toInt64) n (17 - n) a)), none, some (v_i (nI s)), some (v_i (nI 17))] [] h 0 0 → sd_Wq l none y_X8_digest true Q 44 [some (v_r 0 0), some (v_l a), none, some (v_i (nI s)), some (v_i (nI (17 - n)))] [] h 0 0
  | 0, a, hn, k => by
    refine sd_go [6, 31, 33, 44, 72, 90, 92] 40 (cd := cd_X8_digest) (by decide) rfl ?_
    exact ⟨fun _ => k, fun c => absurd (show (16 : Int32) < nI 17 by decide) c⟩
  | n + 1, a, hn, k => by
    refine sd_go [6, 31, 33, 44, 72, 90, 92] 40 (cd := cd_X8_digest) (by decide) rfl ?_
    refine ⟨fun c => absurd c ?_, fun _ => ?_⟩
    · exact nI_nlt (a := 16) (b := 17 - (n + 1)) (by omega) (by decide)
    have h6 := hN.2.1
    refine sp_sender hN (fun c => ?_) (fun s' hs' es => ?_)
    · exfalso
      rcases c with c | c
      · exact absurd c (nI_pos (by omega))
      · have := (nI_leI (a := sn) (b := s) (by omega) (by omega)).mp c
        omega
    · have es : s = s' := (nI_eq (by omega) (by omega)).mp es
      subst es
      show sd_Wq l none y_X8_digest true Q 44 [some (v_r 0 0), some (v_l (31 * a + (sn_fld h s (nI (17 - (n + 1)))).toInt64)), none, some (v_i (nI s)), some (v_i (nI (17 - (n + 1)) + 1))] [] h 0 0
      rw [nI_1, show 17 - (n + 1) + 1 = 17 - n by omega]
      refine sq_d2 hN hs n _ (by omega) ?_
      have k := k
      unfold dg_f at k
      rw [show 17 - (n + 1) + 1 = 17 - n by omega] at k
      exact k
theorem sq_d3 (hN : SN h sn) : ∀ (n : Nat) (a : Int64) (j4 : Option sd_V), n ≤ sn → (∀ j4 : Option sd_V, sd_Wq l none y_X8_digest true Q 90 [some (v_r 0 0), some (v_l (dg_s (fun s w => (sn_fld h s (nI w)).toInt64) (fun s => h.2.1 6 s 6) n (sn - n) a)), none, some (v_i (nI sn)), j4] [] h 0 0) → sd_Wq l none y_X8_digest true Q 33 [some (v_r 0 0), some (v_l a), none, some (v_i (nI (sn - n))), j4] [] h 0 0
  | 0, a, j4, hn, k => by
    refine sd_go [6, 31, 33, 44, 72, 90, 92] 40 (cd := cd_X8_digest) (by decide) rfl ?_
    refine ⟨fun _ => k j4, fun c => absurd ?_ c⟩
    rw [hN.1]
    exact nI_le (Nat.le_refl _) (by have := hN.2.1; omega)
  | n + 1, a, j4, hn, k => by
    have h6 := hN.2.1
    refine sd_go [6, 31, 33, 44, 72, 90, 92] 40 (cd := cd_X8_digest) (by decide) rfl ?_
    refine ⟨fun c => absurd c ?_, fun _ => ?_⟩
    · rw [hN.1]
      exact Int32.not_le.mpr (nI_lt (a := sn - (n + 1)) (b := sn) (by omega) (by omega))
    refine sq_d2 hN (s := sn - (n + 1)) (by omega) 17 a (Nat.le_refl _) ?_
    refine sd_go [6, 31, 33, 44, 90, 92] 40 (cd := cd_X8_digest) (by decide) rfl ?_
    refine sp_next hN (fun c => ?_) (fun s' hs' es => ?_)
    · exfalso
      rcases c with c | c
      · exact absurd c (nI_pos (by omega))
      · have := (nI_leI (a := sn) (b := sn - (n + 1)) (by omega) (by omega)).mp c
        omega
    · have es : sn - (n + 1) = s' := (nI_eq (by omega) (by omega)).mp es
      show sd_Wq l none y_X8_digest true Q 33 [some (v_r 0 0), some (v_l (31 * dg_f (fun w => (sn_fld h (sn - (n + 1)) (nI w)).toInt64) 17 0 a + h.2.1 6 s' 6)), none, some (v_i (nI (sn - (n + 1)) + 1)), some (v_i (nI 17))] [] h 0 0
      rw [nI_1, show sn - (n + 1) + 1 = sn - n by omega, ← es]
      refine sq_d3 hN n _ _ (by omega) (fun j4 => ?_)
      have k := k j4
      unfold dg_s at k
      rw [show sn - (n + 1) + 1 = sn - n by omega] at k
      exact k
theorem sq_d4 (hz : h.1 1 0 1 = nI sz) (hs : sz ≤ 300) {j4 : Option sd_V} : ∀ (n : Nat) (a : Int64), n ≤ sz → Q (some (v_l (dg_f (fun i => (pk_b h (nI i)).toInt64) n (sz - n) a))) h → sd_Wq l none y_X8_digest true Q 92 [some (v_r 0 0), some (v_l a), none, some (v_i (nI (sz - n))), j4] [] h 0 0
  | 0, a, hn, k => by
    refine sd_go [92] 40 (cd := cd_X8_digest) (by decide) rfl ?_
    refine ⟨fun _ => k, fun c => absurd ?_ c⟩
    show h.1 1 0 1 ≤ nI sz
    rw [hz]
    exact nI_le (Nat.le_refl _) (by omega)
  | n + 1, a, hn, k => by
    refine sd_go [92] 40 (cd := cd_X8_digest) (by decide) rfl ?_
    refine ⟨fun c => absurd (show h.1 1 0 1 ≤ nI (sz - (n + 1)) from c) ?_, fun _ => ?_⟩
    · rw [hz]
      exact Int32.not_le.mpr (nI_lt (a := sz - (n + 1)) (b := sz) (by omega) (by omega))
    refine sp_byteAt ?_
    show sd_Wq l none y_X8_digest true Q 92 [some (v_r 0 0), some (v_l (31 * a + (pk_b h (nI (sz - (n + 1)))).toInt64)), none, some (v_i (nI (sz - (n + 1)) + 1)), j4] [] h 0 0
    rw [nI_1, show sz - (n + 1) + 1 = sz - n by omega]
    refine sq_d4 hz hs n _ (by omega) ?_
    unfold dg_f at k
    rw [show sz - (n + 1) + 1 = sz - n by omega] at k
    exact k
theorem sp_digest (hN : SN h sn) (hz : h.1 1 0 1 = nI sz) (hs : sz ≤ 300) (k : Q (some (v_l (dk_dg h sn sz))) h) : sd_E1 l y_X8_digest [v_r 0 0] h Q := by
  refine sd_e1 [6] 40 (cd := cd_X8_digest) (by decide) rfl (Nat.le_of_ble_eq_true rfl) ?_
  refine sq_d1 9 17 (Nat.le_refl _) ?_
  refine sd_go [33] 40 (cd := cd_X8_digest) (by decide) rfl ?_
  have w := sq_d3 (l := l) (Q := Q) hN sn (dg_f (fun w => (dk_count h (nI w)).toInt64) 9 0 17) none (Nat.le_refl _) (fun j4 => ?_)
  · rw [Nat.sub_self] at w
    exact w
  refine sd_go [92] 40 (cd := cd_X8_digest) (by decide) rfl ?_
  rw [Nat.sub_self]
  have w := sq_d4 (l := l) (Q := Q) hz hs (j4 := j4) sz (dg_s (fun s w => (sn_fld h s (nI w)).toInt64) (fun s => h.2.1 6 s 6) sn 0 (dg_f (fun w => (dk_count h (nI w)).toInt64) 9 0 17)) (Nat.le_refl _) (by rw [Nat.sub_self]; exact k)
  rw [Nat.sub_self] at w
  exact w
end DG
