/-! the reference: the walks of hearing -/
theorem by_3 {b c d : Nat} (hb : b < 256) (hc : c < 256) (hd : d < 256) : nI b <<< 16 ||| nI c <<< 8 ||| nI d = nI (65536 * b + 256 * c + d) := by
  rw [pk_shlN 16 16 (by decide) (by omega), pk_shlN 8 8 (by decide) (by omega)]
  have e2 := nb_or (a := b) (b := c * 2 ^ 8) 16 (by omega) (by omega)
  have e3 := nb_or (a := b * 2 ^ 8 + c) (b := d) 8 (by omega) (by omega)
  rw [e2, show b * 2 ^ 16 + c * 2 ^ 8 = (b * 2 ^ 8 + c) * 2 ^ 8 by omega, e3]
  congr 1
  omega
theorem he_1 {b r : Nat} (hb : b < 256) (hr : r < 16777216) : nI (16777216 * b + r) <<< 8 >>> 8 = if nI r ≤ 8388607 then nI r else nI r - 16777216 := by
  have e1 : nI (16777216 * b + r) <<< 8 = nI (256 * r) := by
    apply Int32.toBitVec_inj.mp
    apply BitVec.eq_of_toNat_eq
    rw [pk_shl _ 8 8 (by decide), pk_tn (by omega), pk_tn (by omega)]
    omega
  rw [e1]
  have er : (nI r).toInt = r := nI_toInt (by omega)
  by_cases c : r < 8388608
  · rw [if_pos (show nI r ≤ 8388607 from nI_le (a := r) (b := 8388607) (by omega) (by decide)), pk_shrN (by omega) 8 8 (by decide)]
    congr 1
    omega
  · rw [if_neg (fun q => c (by have := (nI_leI (a := r) (b := 8388607) (by omega) (by decide)).mp q; omega))]
    apply Int32.toInt_inj.mp
    rw [pk_shr _ 8 8 (by decide), i_subI (by rw [er, show (16777216 : Int32).toInt = 16777216 from rfl]; omega) (by rw [er, show (16777216 : Int32).toInt = 16777216 from rfl]; omega), er, show (16777216 : Int32).toInt = 16777216 from rfl]
    have e2 : (nI (256 * r)).toInt = 256 * (r : Int) - 4294967296 := by
      show (BitVec.ofNat 32 (256 * r)).toInt = _
      rw [BitVec.toInt_ofNat']
      rw [Int.bmod_def]
      omega
    rw [e2, Int.shiftRight_eq_div_pow]
    omega
section HW
variable {l : Launch} {Q : Option sd_V → sd_H → Prop} {sz nw sn t i : Nat} {g : Nat → Nat}
theorem W1_PK {hx hm : sd_H} (P : PK (W1 hx) hm sz g) : PK hx hm sz g := P
theorem W1_RS {hx hm : sd_H} {s e : Nat} {n : Int32} (r : RS (W1 hx) hm s e t n) : RS hx hm s e t n := r.cg ⟨rfl, rfl, rfl, rfl, rfl, rfl, rfl, rfl⟩ .rf (Nat.le_refl _) (Nat.le_refl _)
set_option maxRecDepth 100000 in
theorem sq_mblocks {e a m : Nat} {hl : Int32} (hm32 : m < 32) (ha : a + 24 * m ≤ sz) (hi : i + 8 ≤ sz) (hl0 : nI i + hl = nI a) : ∀ (n j : Nat) (hx hmx : sd_H) (j5 j6 : Option sd_V), j + n = m → RR (W1 hx) hmx sz g nw sn e t → (∀ hm', RR (W1 (dk_blocks (nI i) hl n j hx)) hm' sz g nw sn e t → Fx PMo hmx hm' → Q none hm') → sd_Wq l none y_X9_hearBlocks true Q 3 [some (v_r 7 0), some (v_i (nI a)), some (v_i (nI m)), some (v_i (nI (g4 g (i + 4)))), some (v_i (nI j)), j5, j6] [] hmx 0 0
  | 0, j, hx, hmx, j5, j6, hj, R, k => by
    refine sd_go [3] 60 (cd := cd_X9_hearBlocks) (by decide) rfl ?_
    refine ⟨fun _ => k hmx R .rf, fun c => absurd (nI_le (by omega) (by omega)) c⟩
  | n + 1, j, hx, hmx, j5, j6, hj, R, k => by
    have P : PK hx hmx sz g := R.1
    have h3 := P.2.2.1
    refine sd_go [3, 108] 80 (cd := cd_X9_hearBlocks) (by decide) rfl ?_
    refine ⟨fun c => absurd c (nI_ge (by omega) (by omega)), fun _ => ?_⟩
    have ej : nI a + 24 * nI j = nI (a + 24 * j) := by rw [show (24 : Int32) = nI 24 from rfl, pk_mul, nI_add]
    have ec : nI i + hl + nI j * 24 = nI (a + 24 * j) := by rw [hl0, show (24 : Int32) = nI 24 from rfl, pk_mul, nI_add, Nat.mul_comm]
    unfold dk_blocks dk_blk at k
    rw [ec] at k
    have bb : a + 24 * j + 24 ≤ sz := by omega
    generalize a + 24 * j = b at ej ec bb k
    have w4 : pk_4 hx (nI i + 4) = nI (g4 g (i + 4)) := by rw [show (4 : Int32) = nI 4 from rfl, nI_add]; exact P.w (by omega)
    rw [w4] at k
    have eo : hmx.1 7 0 38 = hx.1 0 0 12 := R.2.1.2.2.2.2.2.2.2.1
    refine sm_four (j := b) (by omega) ej ?_
    have e0 : m4 hmx b = pk_4 hx (nI b) := P.four (by omega)
    have nx : nI j + 1 = nI (j + 1) := nI_1 j
    refine ⟨fun (c : ¬ m4 hmx b = hmx.1 7 0 38) => ?_, fun (c : m4 hmx b = hmx.1 7 0 38) => ?_⟩
    · rw [e0, eo] at c
      rw [if_neg c] at k
      show sd_Wq l none y_X9_hearBlocks true Q 3 [some (v_r 7 0), some (v_i (nI a)), some (v_i (nI m)), some (v_i (nI (g4 g (i + 4)))), some (v_i (nI j + 1)), _, _] [] hmx 0 0
      rw [nx]
      exact sq_mblocks hm32 ha hi hl0 n (j + 1) hx hmx _ _ (by omega) R k
    rw [e0, eo] at c
    rw [if_pos c] at k
    have ad : ∀ q : Nat, nI a + 24 * nI j + nI q = nI (b + q) := fun q => by rw [ej, nI_add]
    have ad2 : ∀ q : Nat, nI b + nI q = nI (b + q) := fun q => nI_add _ _
    refine ⟨b + 4, ⟨show b + 4 < 300 by omega, ad 4⟩, 0, ⟨by decide, rfl⟩, ?_⟩
    refine ⟨b + 5, ⟨show b + 5 < 300 by omega, ad 5⟩, b + 6, ⟨show b + 6 < 300 by omega, ad 6⟩, b + 7, ⟨show b + 7 < 300 by omega, ad 7⟩, ?_⟩
    have l4 := P.lt (j := b + 4) (by omega)
    have l5 := P.lt (j := b + 5) (by omega)
    have l6 := P.lt (j := b + 6) (by omega)
    have l7 := P.lt (j := b + 7) (by omega)
    have e6 : hmx.1 19 0 (b + 5) <<< 16 ||| hmx.1 19 0 (b + 6) <<< 8 ||| hmx.1 19 0 (b + 7) = nI (65536 * g (b + 5) + 256 * g (b + 6) + g (b + 7)) := by
      rw [P.m (by omega), P.m (by omega), P.m (by omega)]
      exact by_3 l5 l6 l7
    have e7 : pk_4 hx (nI b + 4) <<< 8 >>> 8 = if nI (65536 * g (b + 5) + 256 * g (b + 6) + g (b + 7)) ≤ 8388607 then nI (65536 * g (b + 5) + 256 * g (b + 6) + g (b + 7)) else nI (65536 * g (b + 5) + 256 * g (b + 6) + g (b + 7)) - 16777216 := by
      rw [show nI b + 4 = nI (b + 4) from ad2 4, P.w (by omega)]
      unfold g4
      rw [show 16777216 * g (b + 4) + 65536 * g (b + 4 + 1) + 256 * g (b + 4 + 2) + g (b + 4 + 3) = 16777216 * g (b + 4) + (65536 * g (b + 5) + 256 * g (b + 6) + g (b + 7)) by rw [show b + 4 + 1 = b + 5 by omega, show b + 4 + 2 = b + 6 by omega, show b + 4 + 3 = b + 7 by omega]; omega]
      exact he_1 l4 (by omega)
    have at108 : ∀ (x y : Int32), x = pk_4 hx (nI b + 4) <<< 8 >>> 8 → sd_Wq l none y_X9_hearBlocks true Q 108 [some (v_r 7 0), some (v_i (nI a)), some (v_i (nI m)), some (v_i (nI (g4 g (i + 4)))), some (v_i (nI j)), some (v_i (nI a + 24 * nI j)), some (v_i y)] [v_i x, v_i 1, v_r 45 0] (sd_pi hmx 45 0 0 (hmx.1 19 0 (b + 4))) 0 0 := by
      intro x y hx1
      refine sd_go [3] 80 (cd := cd_X9_hearBlocks) (by decide) rfl ?_
      refine ⟨1, ⟨by decide, rfl⟩, ?_⟩
      refine sm_four (j := b + 8) (by omega) (ad 8) ?_
      refine ⟨2, ⟨by decide, rfl⟩, ?_⟩
      refine sm_four (j := b + 12) (by omega) (ad 12) ?_
      refine ⟨3, ⟨by decide, rfl⟩, ?_⟩
      refine sm_four (j := b + 16) (by omega) (ad 16) ?_
      refine ⟨4, ⟨by decide, rfl⟩, ?_⟩
      refine sm_four (j := b + 20) (by omega) (ad 20) ?_
      refine ⟨5, ⟨by decide, rfl⟩, ?_⟩
      refine ⟨6, ⟨by decide, rfl⟩, ?_⟩
      show sd_Wq l none y_X9_hearBlocks true Q 3 [some (v_r 7 0), some (v_i (nI a)), some (v_i (nI m)), some (v_i (nI (g4 g (i + 4)))), some (v_i (nI j + 1)), _, _] [] (nst 45 hmx (hmx.1 19 0 (b + 4)) x (m4 hmx (b + 8)) (m4 hmx (b + 12)) (m4 hmx (b + 16)) (m4 hmx (b + 20)) (nI (g4 g (i + 4)))) 0 0
      rw [nx]
      have v0 : hmx.1 19 0 (b + 4) = pk_b hx (nI b + 4) := by rw [P.m (by omega), show nI b + 4 = nI (b + 4) from ad2 4, P.b (by omega)]
      have v2 : m4 hmx (b + 8) = pk_4 hx (nI b + 8) := by rw [show nI b + 8 = nI (b + 8) from ad2 8]; exact P.four (by omega)
      have v3 : m4 hmx (b + 12) = pk_4 hx (nI b + 12) := by rw [show nI b + 12 = nI (b + 12) from ad2 12]; exact P.four (by omega)
      have v4 : m4 hmx (b + 16) = pk_4 hx (nI b + 16) := by rw [show nI b + 16 = nI (b + 16) from ad2 16]; exact P.four (by omega)
      have v5 : m4 hmx (b + 20) = pk_4 hx (nI b + 20) := by rw [show nI b + 20 = nI (b + 20) from ad2 20]; exact P.four (by omega)
      rw [hx1, v0, v2, v3, v4, v5]
      have R2 : RR (W1 (dk_keep hx (nI b) (nI (g4 g (i + 4))))) _ sz g nw sn e t := R.keep (v0 := pk_b hx (nI b + 4)) (v1 := pk_4 hx (nI b + 4) <<< 8 >>> 8) (v2 := pk_4 hx (nI b + 8)) (v3 := pk_4 hx (nI b + 12)) (v4 := pk_4 hx (nI b + 16)) (v5 := pk_4 hx (nI b + 20)) (v6 := nI (g4 g (i + 4)))
      refine sq_mblocks hm32 ha hi hl0 n (j + 1) _ _ _ _ (by omega) R2 (fun hm' R' f' => k hm' R' ?_)
      exact (nst_fx.mono (fun T k i q => by unfold PMo; omega)).tr f'
    refine ⟨fun (c2 : hmx.1 19 0 (b + 5) <<< 16 ||| hmx.1 19 0 (b + 6) <<< 8 ||| hmx.1 19 0 (b + 7) ≤ 8388607) => ?_, fun (c2 : ¬ hmx.1 19 0 (b + 5) <<< 16 ||| hmx.1 19 0 (b + 6) <<< 8 ||| hmx.1 19 0 (b + 7) ≤ 8388607) => ?_⟩
    · rw [e6] at c2
      refine at108 _ _ ?_
      show hmx.1 19 0 (b + 5) <<< 16 ||| hmx.1 19 0 (b + 6) <<< 8 ||| hmx.1 19 0 (b + 7) = _
      rw [e6, e7, if_pos c2]
    · rw [e6] at c2
      refine at108 _ _ ?_
      show (hmx.1 19 0 (b + 5) <<< 16 ||| hmx.1 19 0 (b + 6) <<< 8 ||| hmx.1 19 0 (b + 7)) - 16777216 = _
      rw [e6, e7, if_neg c2]
theorem sm_hearBlocks {e a m : Nat} {hl : Int32} {hx hmx : sd_H} (hm32 : m < 32) (ha : a + 24 * m ≤ sz) (hi : i + 8 ≤ sz) (hl0 : nI i + hl = nI a) (R : RR (W1 hx) hmx sz g nw sn e t) (k : ∀ hm', RR (W1 (dk_blocks (nI i) hl m 0 hx)) hm' sz g nw sn e t → Fx PMo hmx hm' → Q none hm') : sd_E1 l y_X9_hearBlocks [v_r 7 0, v_i (nI a), v_i (nI m), v_i (nI (g4 g (i + 4)))] hmx Q := by
  refine sd_e1 [3] 60 (cd := cd_X9_hearBlocks) (by decide) rfl (Nat.le_of_ble_eq_true rfl) ?_
  exact sq_mblocks hm32 ha hi hl0 m 0 hx hmx _ _ (by omega) R k
set_option maxRecDepth 100000 in
theorem sq_mleave {a m : Nat} (hm32 : m < 32) (ht : t ≤ 1001) (ha : a + 4 * m ≤ sz) (ha4 : a = i + 4) : ∀ (n j : Nat) (hx hmx : sd_H) (e : Nat) (j4 : Option sd_V), j + n = m → RR (W1 hx) hmx sz g nw sn e t → e + n ≤ 20000 * t → (∀ hm', RR (W1 (dk_leave sn (nI i) n j hx e).1) hm' sz g nw sn (dk_leave sn (nI i) n j hx e).2 t → (dk_leave sn (nI i) n j hx e).2 ≤ e + n → Fx PMo hmx hm' → Q none hm') → sd_Wq l none y_X9_hearLeaving true Q 2 [some (v_r 7 0), some (v_i (nI a)), some (v_i (nI m)), some (v_i (nI j)), j4] [] hmx 0 0
  | 0, j, hx, hmx, e, j4, hj, R, hb, k => by
    refine sd_go [2] 60 (cd := cd_X9_hearLeaving) (by decide) rfl ?_
    exact ⟨fun _ => k hmx R (Nat.le_refl _) .rf, fun c => absurd (nI_le (by omega) (by omega)) c⟩
  | n + 1, j, hx, hmx, e, j4, hj, R, hb, k => by
    have P : PK hx hmx sz g := R.1
    have h3 := P.2.2.1
    have n6 := R.2.2.1.2.1
    refine sd_go [2, 61] 80 (cd := cd_X9_hearLeaving) (by decide) rfl ?_
    refine ⟨fun c => absurd c (nI_ge (by omega) (by omega)), fun _ => ?_⟩
    have ej : nI a + 4 * nI j = nI (a + 4 * j) := by rw [show (4 : Int32) = nI 4 from rfl, pk_mul, nI_add]
    have ec : nI i + 4 + 4 * nI j = nI (a + 4 * j) := by rw [show (4 : Int32) = nI 4 from rfl, nI_add, pk_mul, nI_add, ha4]
    refine sm_four (j := a + 4 * j) (by omega) ej ?_
    have e0 : m4 hmx (a + 4 * j) = pk_4 hx (nI i + 4 + 4 * nI j) := by rw [ec]; exact P.four (by omega)
    rw [e0]
    have hN : hmx.1 7 0 8 = nI sn := R.2.1.2.2.2.2.2.2.2.2.2
    refine sm_senderOf (hc := hx) hN n6 (fun s hs => (R.2.2.2.2.2.2.1 s hs).1) ?_
    have at61 : ∀ (hx' hm1 : sd_H) (e' : Nat) (j4 : Option sd_V), dk_lv hx e sn (nI i) j = (hx', e') → RR (W1 hx') hm1 sz g nw sn e' t → e' ≤ e + 1 → Fx PMo hmx hm1 → sd_Wq l none y_X9_hearLeaving true Q 61 [some (v_r 7 0), some (v_i (nI a)), some (v_i (nI m)), some (v_i (nI j)), j4] [] hm1 0 0 := by
      intro hx' hm1 e' j4 ed R1 he1 f1
      refine sd_go [2] 60 (cd := cd_X9_hearLeaving) (by decide) rfl ?_
      show sd_Wq l none y_X9_hearLeaving true Q 2 [some (v_r 7 0), some (v_i (nI a)), some (v_i (nI m)), some (v_i (nI j + 1)), j4] [] hm1 0 0
      rw [nI_1]
      unfold dk_leave at k
      rw [ed] at k
      refine sq_mleave hm32 ht ha ha4 n (j + 1) hx' hm1 e' j4 (by omega) R1 (by omega) (fun hm' R' l' f' => ?_)
      exact k hm' R' (by dsimp only at l' ⊢; omega) (f1.tr f')
    unfold dk_lv at at61
    cases hf : dk_find hx (pk_4 hx (nI i + 4 + 4 * nI j)) 0 sn with
    | none =>
      rw [hf] at at61
      refine ⟨fun _ => ?_, fun c => absurd rfl c⟩
      exact at61 hx hmx e _ rfl R (by omega) .rf
    | some s =>
      rw [hf] at at61
      have hs : s < sn := by have := (dk_find_lt _ _ _ hf).2.1; omega
      have s6 : s < 6 := by omega
      have r := R.2.2.2.2.2.2.1 s hs
      have e33 : hmx.1 33 0 s = hx.1 3 s 4 := r.2.2.2.2.1.1
      refine ⟨fun (c : nI s = -1) => ?_, fun _ => ?_⟩
      · exfalso
        have := nI_pos (n := s) (by omega)
        rw [c] at this
        exact this (by decide)
      refine ⟨s, ⟨s6, rfl⟩, fun (c : ¬ hmx.1 33 0 s = 0) => ?_, fun (c : hmx.1 33 0 s = 0) => ?_⟩
      · rw [e33] at c
        have el : sn_leave hx s e (hx.1 0 0 6) = hx := by unfold sn_leave; rw [if_neg c]
        refine at61 hx hmx e _ ?_ R (by omega) .rf
        show (sn_leave hx s e (hx.1 0 0 6), if hx.1 3 s 4 = 0 then e + 1 else e) = _
        rw [el, if_neg c]
      · rw [e33] at c
        refine ⟨s, ⟨s6, rfl, Or.inr rfl⟩, ?_⟩
        refine sm_forget s6 (fun hm1 f1 hz1 => ?_)
        have e35 : hm1.1 7 0 35 = nI e := by rw [f1.1 7 0 35 (by omega)]; exact R.2.2.2.2.1.2.1
        refine sm_happens (c := 7) (s := s) (e := e) e35 (by omega) s6 (by decide) ?_
        have enw : hx.1 0 0 6 = nI nw := R.2.1.2.1.2.1
        have R1 := R.leave hs (by omega) c f1 hz1
        refine at61 (sn_leave hx s e (nI nw)) _ (e + 1) _ ?_ R1 (Nat.le_refl _) ?_
        · show (sn_leave hx s e (hx.1 0 0 6), if hx.1 3 s 4 = 0 then e + 1 else e) = _
          rw [enw, if_pos c]
        · have z0 : Fx PMo hmx (sd_pi hmx 33 0 s 1) := Fx.rf.pi (Or.inr (by decide))
          exact (z0.tr (f1.mono (fun T k i q => by unfold PMo; omega))).tr (mh2_fx.mono (fun T k i q => by unfold PMo; omega))
theorem sm_hearLeaving {e a m : Nat} {hx hmx : sd_H} (hm32 : m < 32) (ht : t ≤ 1001) (ha : a + 4 * m ≤ sz) (ha4 : a = i + 4) (R : RR (W1 hx) hmx sz g nw sn e t) (hb : e + m ≤ 20000 * t) (k : ∀ hm', RR (W1 (dk_leave sn (nI i) m 0 hx e).1) hm' sz g nw sn (dk_leave sn (nI i) m 0 hx e).2 t → (dk_leave sn (nI i) m 0 hx e).2 ≤ e + m → Fx PMo hmx hm' → Q none hm') : sd_E1 l y_X9_hearLeaving [v_r 7 0, v_i (nI a), v_i (nI m)] hmx Q := by
  refine sd_e1 [2] 60 (cd := cd_X9_hearLeaving) (by decide) rfl (Nat.le_of_ble_eq_true rfl) ?_
  exact sq_mleave hm32 ht ha ha4 m 0 hx hmx e _ (by omega) R hb k
theorem sm_hearPart {e : Nat} {hx hmx : sd_H} (ht : t ≤ 1001) (R : RR (W1 hx) hmx sz g nw sn e t) (hb : e + 31 ≤ 20000 * t) (hi : i + 3 < sz) (hen : enN g i ≤ sz) (hll : i + llN (g (i + 1)) (g i % 32) ≤ enN g i) (k : ∀ hm', RR (W1 (dk_part hx e sn (nI i)).1) hm' sz g nw sn (dk_part hx e sn (nI i)).2 t → (dk_part hx e sn (nI i)).2 ≤ e + 31 → Fx PMo hmx hm' → Q none hm') : sd_E1 l y_X9_hearPart [v_r 7 0, v_i (nI i)] hmx Q := by
  have P : PK hx hmx sz g := R.1
  have h3 := P.2.2.1
  have n6 := R.2.2.1.2.1
  have i3 : i < 300 := by omega
  have i4 : i + 1 < 300 := by omega
  obtain ⟨so, s256⟩ := P.so (i := i) (by omega)
  have c1 := P.ct (i := i) (by omega)
  have m32 : g i % 32 < 32 := Nat.mod_lt _ (by decide)
  have em : hmx.1 19 0 i &&& 31 = nI (g i % 32) := by rw [P.m i3]; exact pk_andN (by have := P.lt (j := i) (by omega); omega) 5 (by decide)
  have es : hmx.1 19 0 (i + 1) = nI (g (i + 1)) := P.m i4
  have ec : ct (rf_ct hx (nI i)) = g i % 32 := by rw [c1]; exact nI_clamp (by omega)
  have e3 : ∀ c : Nat, c < 256 → (nI (g (i + 1)) = nI c ↔ g (i + 1) = c) := fun c hc => nI_eq (by omega) (by omega)
  refine sd_e1 [79] 80 (cd := cd_X9_hearPart) (by decide) rfl (Nat.le_of_ble_eq_true rfl) ?_
  refine ⟨i, ⟨i3, rfl⟩, i + 1, ⟨i4, nI_1 i⟩, ?_⟩
  rw [em, es]
  unfold dk_part at k
  rw [so, ec] at k
  have ad : ∀ q : Nat, nI i + nI q = nI (i + q) := fun q => nI_add _ _
  refine ⟨fun (c : ¬ nI (g (i + 1)) = 200) => ?_, fun (c : nI (g (i + 1)) = 200) => ?_⟩
  · refine ⟨fun (c2 : ¬ nI (g (i + 1)) = 201) => ?_, fun (c2 : nI (g (i + 1)) = 201) => ?_⟩
    · refine ⟨fun (c3 : ¬ nI (g (i + 1)) = 203) => ?_, fun (c3 : nI (g (i + 1)) = 203) => ?_⟩
      · rw [if_neg c3, if_neg c, if_neg c2] at k
        exact k hmx R (by omega) .rf
      · rw [if_pos c3] at k
        have g3 := (e3 203 (by decide)).mp c3
        rw [g3, show llN 203 (g i % 32) = 4 + 4 * (g i % 32) from rfl] at hll
        show sd_E1 l y_X9_hearLeaving [v_r 7 0, v_i (nI i + 4), v_i (nI (g i % 32))] hmx _
        rw [show nI i + 4 = nI (i + 4) from ad 4]
        exact sm_hearLeaving (i := i) m32 ht (by omega) rfl R (by omega) (fun hm' R' l' f' => k hm' R' (by omega) f')
    · have g3 := (e3 201 (by decide)).mp c2
      rw [if_neg (fun q => absurd (c2.symm.trans q) (by decide)), if_neg c, if_pos c2] at k
      rw [g3, show llN 201 (g i % 32) = 8 + 24 * (g i % 32) from rfl] at hll
      have e8 : nI i + rf_ll (nI (g (i + 1))) 0 = nI (i + 8) := by rw [c2]; exact ad 8
      refine sm_four (j := i + 4) (by omega) (ad 4) ?_
      rw [P.mm4 (by omega), show nI i + 8 = nI (i + 8) from ad 8]
      exact sm_hearBlocks (i := i) m32 (by omega) (by omega) e8 R (fun hm' R' f' => k hm' R' (by omega) f')
  · have g3 := (e3 200 (by decide)).mp c
    rw [if_neg (fun q => absurd (c.symm.trans q) (by decide)), if_pos c] at k
    rw [g3, show llN 200 (g i % 32) = 28 + 24 * (g i % 32) from rfl] at hll
    have e8 : nI i + rf_ll (nI (g (i + 1))) 0 = nI (i + 28) := by rw [c]; exact ad 28
    refine sm_four (j := i + 4) (by omega) (ad 4) ?_
    have e0 : m4 hmx (i + 4) = pk_4 hx (nI i + 4) := by rw [show nI i + 4 = nI (i + 4) from ad 4]; exact P.four (by omega)
    rw [e0]
    have hN : hmx.1 7 0 8 = nI sn := R.2.1.2.2.2.2.2.2.2.2.2
    refine sm_senderOf (hc := hx) hN n6 (fun s hs => (R.2.2.2.2.2.2.1 s hs).1) ?_
    have at79 : ∀ (hx' hm1 : sd_H) (j4 : Option sd_V), dk_clock hx sn (nI i) = hx' → RR (W1 hx') hm1 sz g nw sn e t → Fx PMo hmx hm1 → sd_Wq l none y_X9_hearPart true Q 79 [some (v_r 7 0), some (v_i (nI i)), some (v_i (nI (g i % 32))), some (v_i (nI (g (i + 1)))), j4] [] hm1 0 0 := by
      intro hx' hm1 j4 ed R1 f1
      refine sd_go [] 60 (cd := cd_X9_hearPart) (by decide) rfl ?_
      have P1 : PK hx' hm1 sz g := R1.1
      rw [ed] at k
      have ec1 : ct (rf_ct hx' (nI i)) = g i % 32 := by rw [P1.ct (i := i) (by omega)]; exact nI_clamp (by omega)
      rw [ec1] at k
      refine sm_four (j := i + 4) (by omega) (ad 4) ?_
      rw [P1.mm4 (by omega), show nI i + 28 = nI (i + 28) from ad 28]
      exact sm_hearBlocks (i := i) m32 (by omega) (by omega) e8 R1 (fun hm' R' f' => k hm' R' (by dsimp only; omega) (f1.tr f'))
    unfold dk_clock at at79
    cases hf : dk_find hx (pk_4 hx (nI i + 4)) 0 sn with
    | none =>
      rw [hf] at at79
      refine ⟨fun _ => ?_, fun c => absurd rfl c⟩
      exact at79 hx hmx _ rfl R .rf
    | some s =>
      rw [hf] at at79
      have hs : s < sn := by have := (dk_find_lt _ _ _ hf).2.1; omega
      have s6 : s < 6 := by omega
      refine ⟨fun (c : nI s = -1) => ?_, fun _ => ?_⟩
      · exfalso
        have := nI_pos (n := s) (by omega)
        rw [c] at this
        exact this (by decide)
      refine ⟨s, ⟨s6, rfl, Or.inr rfl⟩, ?_⟩
      refine sm_four (j := i + 10) (by omega) (ad 10) ?_
      refine ⟨s, ⟨s6, rfl⟩, s, ⟨s6, rfl⟩, ?_⟩
      have enw : hx.1 0 0 6 = nI nw := R.2.1.2.1.2.1
      have enm : hmx.1 7 0 0 = nI nw := R.2.1.2.1.1
      have e10 : m4 hmx (i + 10) = pk_4 hx (nI i + 10) := by rw [show nI i + 10 = nI (i + 10) from ad 10]; exact P.four (by omega)
      have R1 := R.clock (m := pk_4 hx (nI i + 10)) hs
      show sd_Wq l none y_X9_hearPart true Q 79 _ [] (sd_pi (sd_pi (sd_pi hmx 34 0 s 1) 35 0 s (m4 hmx (i + 10))) 36 0 s (hmx.1 7 0 0)) 0 0
      rw [e10, enm]
      refine at79 (sn_clock hx s (pk_4 hx (nI i + 10)) (nI nw)) _ _ ?_ R1 ?_
      · show sn_clock hx s (pk_4 hx (nI i + 10)) (hx.1 0 0 6) = _
        rw [enw]
      · exact ((Fx.rf.pi (Or.inr (by decide))).pi (Or.inr (by decide))).pi (Or.inr (by decide))
set_option maxRecDepth 100000 in
theorem sq_mhear (ht : t ≤ 1001) {f0 : Int32} : ∀ (n i : Nat) (hx hmx : sd_H) (e : Nat), n ≤ 75 → i ≤ sz → RR (W1 hx) hmx sz g nw sn e t → WF g sz n i → e + 31 * n ≤ 20000 * t → (∀ hm', RR (W1 (dk_hear sn n hx e (nI i)).2.1) hm' sz g nw sn (dk_hear sn n hx e (nI i)).2.2 t → Fx PMo hmx hm' → Q (some (v_i (nI (75 - (dk_hear sn n hx e (nI i)).1)))) hm') → sd_Wq l none y_X9_hear true Q 28 [some (v_r 7 0), some (v_i f0), some (v_i (nI (75 - n))), some (v_i (nI i))] [] hmx 0 0
  | 0, i, hx, hmx, e, hn, hi, R, w, hb, k => by
    have P : PK hx hmx sz g := R.1
    have h3 := P.2.2.1
    have w : sz ≤ i := w
    refine sd_go [28] 60 (cd := cd_X9_hear) (by decide) rfl ?_
    refine ⟨fun _ => k hmx R .rf, fun (c : ¬ hmx.1 7 0 2 ≤ nI i) => absurd ?_ c⟩
    rw [P.2.1]; exact nI_le w (by omega)
  | n + 1, i, hx, hmx, e, hn, hi, R, w, hb, k => by
    have P : PK hx hmx sz g := R.1
    have h3 := P.2.2.1
    refine sd_go [28] 60 (cd := cd_X9_hear) (by decide) rfl ?_
    unfold dk_hear at k
    rw [show pk_s hx = nI sz from P.1] at k
    refine ⟨fun (c : hmx.1 7 0 2 ≤ nI i) => ?_, fun (c : ¬ hmx.1 7 0 2 ≤ nI i) => ?_⟩
    · rw [P.2.1] at c
      rw [if_pos c] at k
      exact k hmx R .rf
    · rw [P.2.1] at c
      rw [if_neg c] at k
      rcases (show sz ≤ i ∨ (i + 3 < sz ∧ enN g i ≤ sz ∧ i + llN (g (i + 1)) (g i % 32) ≤ enN g i ∧ WF g sz n (enN g i)) from w) with w | ⟨w1, w2, w3, w4⟩
      · exact absurd (nI_le w (by omega)) c
      refine sm_hearPart ht R (by omega) w1 w2 w3 (fun hm1 R1 l1 f1 => ?_)
      have P1 : PK (dk_part hx e sn (nI i)).1 hm1 sz g := R1.1
      refine sm_endOf P1 w1 ?_
      rw [(P1.en w1).1] at k ⊢
      show sd_Wq l none y_X9_hear true Q 28 [some (v_r 7 0), some (v_i f0), some (v_i (nI (75 - (n + 1)) + 1)), some (v_i (nI (enN g i)))] [] hm1 0 0
      rw [nI_1, show 75 - (n + 1) + 1 = 75 - n by omega]
      exact sq_mhear ht n (enN g i) _ hm1 _ (by omega) w2 R1 w4 (by omega) (fun hm' R' f' => k hm' R' (f1.tr f'))
theorem RR.w1 {hc hm : sd_H} {e : Nat} (R : RR hc hm sz g nw sn e t) : RR (W1 hc) (sd_pi hm 7 0 39 (hm.1 7 0 39 + 1)) sz g nw sn e t := by
  have x : Fx (fun T _ i => T = 0 ∧ i = 11) hc (W1 hc) := Fx.rf.pi ⟨rfl, rfl⟩
  have z : Fx (fun T _ i => T = 7 ∧ i = 39) hm (sd_pi hm 7 0 39 (hm.1 7 0 39 + 1)) := Fx.rf.pi ⟨rfl, rfl⟩
  have r5 := R.2.2.2.2.1
  have r6 := R.2.2.2.2.2.1
  obtain ⟨a1, a2, a3, a4, a5, a6, a7, a8, a9, a10⟩ := R.2.1
  refine R.gen x z (by omega) (fun i => by omega) (by omega) (fun i => by omega) (by omega) ⟨a1, a2, a3, a4, a5, a6, ?_, a8, a9, a10⟩ (r5.cg rfl (fun _ => rfl) (fun _ => rfl) (fun _ => rfl) (fun _ => rfl) rfl (fun _ => rfl)) (Nat.le_refl _) r6 (fun s hs => Or.inl ⟨CA.fx x (fun T i h => by omega), MA.fx z (fun T h1 h2 => by omega) (fun T i h1 h2 h3 => by omega) (fun i h1 h2 => by omega)⟩) (fun s h1 h2 => MA.fx z (fun T h1 h2 => by omega) (fun T i h1 h2 h3 => by omega) (fun i h1 h2 => by omega))
  show hm.1 7 0 39 + 1 = hc.1 0 0 11 + 1
  rw [a7]
theorem rf_fault_ge {hc : sd_H} (q : rf_fault hc ≤ 0) : rf_fault hc = 0 := by
  have lp : ∀ (n : Nat) (p : Int32), rf_lp hc n p ≤ 0 → rf_lp hc n p = 0 := by
    intro n
    induction n with
    | zero => intro p _; rfl
    | succ n ih =>
      intro p
      unfold rf_lp
      split
      · intro _; rfl
      · split
        · exact ih _
        · intro q; exact pf_le q
  revert q
  unfold rf_fault
  split
  · intro q; exact absurd q (by decide)
  · split
    · split
      · split
        · exact lp _ _
        · intro q; exact absurd q (by decide)
      · split
        · intro q; exact absurd q (by decide)
        · split
          · exact lp _ _
          · intro q; exact absurd q (by decide)
    · intro q; exact absurd q (by decide)
theorem sm_hear {hc hm : sd_H} {e : Nat} (ht : t ≤ 1000) (R : RR hc hm sz g nw sn e t) (kn : ¬ rf_fault hc = 0 → Q (some (v_i (-10 - rf_fault hc))) hm) (ky : rf_fault hc = 0 → ∀ hm', RR (W1 (dk_hear sn 75 hc e 0).2.1) hm' sz g nw sn (dk_hear sn 75 hc e 0).2.2 (t + 1) → Fx PMo hm hm' → Q (some (v_i (nI (75 - (dk_hear sn 75 hc e 0).1)))) hm') : sd_E1 l y_X9_hear [v_r 7 0] hm Q := by
  have P := R.1
  have he := R.2.2.2.2.2.1
  refine sd_e1 [28] 60 (cd := cd_X9_hear) (by decide) rfl (Nat.le_of_ble_eq_true rfl) ?_
  refine sm_reportFault P ?_
  refine ⟨fun (c : rf_fault hc ≤ 0) => ?_, fun (c : ¬ rf_fault hc ≤ 0) => kn (fun q => c (by rw [q]; decide))⟩
  have c := rf_fault_ge c
  have z : Fx PMo hm (sd_pi hm 7 0 39 (hm.1 7 0 39 + 1)) := Fx.rf.pi (Or.inl rfl)
  exact sq_mhear (t := t + 1) (by omega) 75 0 hc _ e (Nat.le_refl _) (Nat.zero_le _) (R.w1.up (by omega)) (WF.fault P c) (by omega) (fun hm' R' f' => ky c hm' R' (z.tr f'))
end HW
