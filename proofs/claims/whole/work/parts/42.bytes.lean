/-! bytes of numbers; THE PACKET grows on both sides -/
theorem bv_1 (x : BitVec 64) (m : Nat) (hm : m ≤ 56) : (x >>> m).setWidth 32 &&& 255#32 = (x.sshiftRight m).setWidth 32 &&& 255#32 := by
  apply BitVec.eq_of_getLsbD_eq
  intro i hi
  simp only [BitVec.getLsbD_and, BitVec.getLsbD_setWidth, BitVec.getLsbD_ushiftRight, BitVec.getLsbD_sshiftRight]
  by_cases h8 : i < 8
  · simp [hi, show m + i < 64 by omega, show ¬ 64 ≤ i by omega]
  · have : (255#32).getLsbD i = false := by
      have e : (255#32).toNat = 2 ^ 8 - 1 := rfl
      rw [BitVec.getLsbD, e, Nat.testBit_two_pow_sub_one]
      simp [h8]
    rw [this]; simp
theorem bv_2 (x : BitVec 64) (m : Nat) (hm : m ≤ 24) : (x >>> m).setWidth 32 &&& 255#32 = (x.setWidth 32).sshiftRight m &&& 255#32 := by
  apply BitVec.eq_of_getLsbD_eq
  intro i hi
  simp only [BitVec.getLsbD_and, BitVec.getLsbD_setWidth, BitVec.getLsbD_ushiftRight, BitVec.getLsbD_sshiftRight]
  by_cases h8 : i < 8
  · simp [hi, show m + i < 32 by omega, show ¬ 32 ≤ i by omega]
  · have : (255#32).getLsbD i = false := by
      have e : (255#32).toNat = 2 ^ 8 - 1 := rfl
      rw [BitVec.getLsbD, e, Nat.testBit_two_pow_sub_one]
      simp [h8]
    rw [this]; simp
theorem ab_mt (v : Int64) : ∀ k, k < 8 → ab v k = mt v k := by
  have key : ∀ k m : Nat, m ≤ 56 → (((8 : Int32) * nI k).toInt64.toUInt64 &&& Int64.toUInt64 63).toBitVec % 64 = BitVec.ofNat 64 m → (((8 : Int32) * nI k).toInt64 &&& 63).toBitVec.smod 64 = BitVec.ofNat 64 m → ab v k = mt v k := by
    intro k m hm e1 e2
    apply Int32.toBitVec_inj.mp
    show (v.toBitVec >>> ((((8 : Int32) * nI k).toInt64.toUInt64 &&& Int64.toUInt64 63).toBitVec % 64)).signExtend 32 &&& 255#32 = (v.toBitVec.sshiftRight' ((((8 : Int32) * nI k).toInt64 &&& 63).toBitVec.smod 64)).signExtend 32 &&& 255#32
    rw [e1, e2]
    have em : (BitVec.ofNat 64 m).toNat = m := by rw [BitVec.toNat_ofNat]; exact Nat.mod_eq_of_lt (by omega)
    show (v.toBitVec >>> (BitVec.ofNat 64 m).toNat).signExtend 32 &&& 255#32 = (v.toBitVec.sshiftRight (BitVec.ofNat 64 m).toNat).signExtend 32 &&& 255#32
    rw [em, BitVec.signExtend_eq_setWidth_of_le _ (by decide), BitVec.signExtend_eq_setWidth_of_le _ (by decide)]
    exact bv_1 _ _ hm
  intro k hk
  rcases (show k = 0 ∨ k = 1 ∨ k = 2 ∨ k = 3 ∨ k = 4 ∨ k = 5 ∨ k = 6 ∨ k = 7 by omega) with rfl | rfl | rfl | rfl | rfl | rfl | rfl | rfl
  · exact key 0 0 (by decide) (by decide) (by decide)
  · exact key 1 8 (by decide) (by decide) (by decide)
  · exact key 2 16 (by decide) (by decide) (by decide)
  · exact key 3 24 (by decide) (by decide) (by decide)
  · exact key 4 32 (by decide) (by decide) (by decide)
  · exact key 5 40 (by decide) (by decide) (by decide)
  · exact key 6 48 (by decide) (by decide) (by decide)
  · exact key 7 56 (by decide) (by decide) (by decide)
theorem ab_mb (v : Int64) : ∀ k, k < 4 → ab v k = mb v.toInt32 k := by
  have key : ∀ k m : Nat, m ≤ 24 → (((8 : Int32) * nI k).toInt64.toUInt64 &&& Int64.toUInt64 63).toBitVec % 64 = BitVec.ofNat 64 m → (((8 : Int32) * nI k) &&& 31).toBitVec.smod 32 = BitVec.ofNat 32 m → ab v k = mb v.toInt32 k := by
    intro k m hm e1 e2
    apply Int32.toBitVec_inj.mp
    show (v.toBitVec >>> ((((8 : Int32) * nI k).toInt64.toUInt64 &&& Int64.toUInt64 63).toBitVec % 64)).signExtend 32 &&& 255#32 = (v.toBitVec.signExtend 32).sshiftRight' ((((8 : Int32) * nI k) &&& 31).toBitVec.smod 32) &&& 255#32
    rw [e1, e2]
    have em : (BitVec.ofNat 64 m).toNat = m := by rw [BitVec.toNat_ofNat]; exact Nat.mod_eq_of_lt (by omega)
    have em2 : (BitVec.ofNat 32 m).toNat = m := by rw [BitVec.toNat_ofNat]; exact Nat.mod_eq_of_lt (by omega)
    show (v.toBitVec >>> (BitVec.ofNat 64 m).toNat).signExtend 32 &&& 255#32 = (v.toBitVec.signExtend 32).sshiftRight (BitVec.ofNat 32 m).toNat &&& 255#32
    rw [em, em2, BitVec.signExtend_eq_setWidth_of_le _ (by decide), BitVec.signExtend_eq_setWidth_of_le _ (by decide)]
    exact bv_2 _ _ hm
  intro k hk
  rcases (show k = 0 ∨ k = 1 ∨ k = 2 ∨ k = 3 by omega) with rfl | rfl | rfl | rfl
  · exact key 0 0 (by decide) (by decide) (by decide)
  · exact key 1 8 (by decide) (by decide) (by decide)
  · exact key 2 16 (by decide) (by decide) (by decide)
  · exact key 3 24 (by decide) (by decide) (by decide)
theorem ab_mbI (x : Int32) {k : Nat} (hk : k < 4) : ab x.toInt64 k = mb x k := by
  rw [ab_mb _ k hk, Int32.toInt32_toInt64]
theorem mb_0 (x : Int32) : mb x 0 = x &&& 255 := by
  unfold mb
  have : (x >>> (((8 : Int32) * nI 0) &&& 31)) = x := by
    apply Int32.toInt_inj.mp
    rw [pk_shr x (((8 : Int32) * nI 0) &&& 31) 0 (by decide)]
    exact Int.shiftRight_zero _
  rw [this]
section AP
variable {hc hm : sd_H} {sz : Nat} {g : Nat → Nat}
theorem PK.put {x : Int32} {b : Nat} (p : PK hc hm sz g) (hs : sz < 300) (hx : x = nI b) (hb : b < 256) : PK (sd_pi (sd_pi hc 11 0 sz x) 1 0 1 (nI (sz + 1))) (sd_pi (sd_pi hm 19 0 sz x) 7 0 2 (nI (sz + 1))) (sz + 1) (fun i => if i = sz then b else g i) := by
  obtain ⟨p1, p2, p3, p4⟩ := p
  refine ⟨rfl, rfl, by omega, fun i hi => ?_⟩
  show (sd_pi hm 19 0 sz x).1 19 0 i = nI (if i = sz then b else g i) ∧ (sd_pi hc 11 0 sz x).1 11 0 i = nI (if i = sz then b else g i) ∧ (if i = sz then b else g i) < 256
  by_cases q : i = sz
  · rw [q, sd_pi_eq, sd_pi_eq, if_pos rfl]; exact ⟨hx, hx, hb⟩
  · rw [sd_pi_ne (fun z => q z.2.2), sd_pi_ne (fun z => q z.2.2), if_neg q]; exact p4 i hi
theorem PK.app {v : Int64} {b : Nat → Int32} : ∀ (n : Nat) (hc hm : sd_H) (sz : Nat) (g : Nat → Nat), PK hc hm sz g → sz + n ≤ 300 → (∀ k, k < n → ab v k = b k) → ∃ g', PK (pk_app v n hc sz) (mp_all b n hm sz) (sz + n) g'
  | 0, hc, hm, sz, g, p, _, _ => ⟨g, p⟩
  | n + 1, hc, hm, sz, g, p, hle, hb => by
    obtain ⟨j, hj, ej⟩ : ∃ j : Nat, j < 2 ^ 8 ∧ ab v n = nI j := pk_andE _ 8 (by decide)
    have p1 := p.put (x := ab v n) (by omega) ej hj
    have := PK.app (v := v) (b := b) n _ _ _ _ p1 (by omega) (fun k hk => hb k (by omega))
    obtain ⟨g', p'⟩ := this
    refine ⟨g', ?_⟩
    show PK (pk_app v n (sd_pi (sd_pi hc 11 0 sz (ab v n)) 1 0 1 (nI (sz + 1))) (sz + 1)) (mp_all b n (sd_pi (sd_pi hm 19 0 sz (b n)) 7 0 2 (nI (sz + 1))) (sz + 1)) (sz + (n + 1)) g'
    rw [← hb n (by omega), show sz + (n + 1) = sz + 1 + n by omega]
    exact p'
theorem mp_all_fx {b : Nat → Int32} {h : sd_H} {P : Nat → Nat → Nat → Prop} (hp : P 7 0 2) (hp2 : ∀ i, P 19 0 i) : ∀ (n : Nat) (hm : sd_H) (sz : Nat), Fx P h hm → Fx P h (mp_all b n hm sz)
  | 0, _, _, x => x
  | n + 1, hm, sz, x => mp_all_fx hp hp2 n _ _ ((x.pi (hp2 _)).pi hp)
theorem pk_app_fx {v : Int64} {h : sd_H} {P : Nat → Nat → Nat → Prop} (hp : P 1 0 1) (hp2 : ∀ i, P 11 0 i) : ∀ (n : Nat) (hc : sd_H) (sz : Nat), Fx P h hc → Fx P h (pk_app v n hc sz)
  | 0, _, _, x => x
  | n + 1, hc, sz, x => pk_app_fx hp hp2 n _ _ ((x.pi (hp2 _)).pi hp)
def PKc (T _k _i : Nat) : Prop := T = 1 ∨ T = 11
def PKm (T _k i : Nat) : Prop := (T = 7 ∧ i = 2) ∨ T = 19
theorem RR.pk {hc' hm' : sd_H} {sz' nw sn e t : Nat} {g' : Nat → Nat} (R : RR hc hm sz g nw sn e t) (x : Fx PKc hc hc') (z : Fx PKm hm hm') (p : PK hc' hm' sz' g') : RR hc' hm' sz' g' nw sn e (t + 1) := by
  obtain ⟨r1, r2, r3, r4, r5, r6, r7, r8⟩ := R
  have ma : ∀ s, MA hm hm' s := fun s => MA.fx z (fun T h1 h2 => by unfold PKm; omega) (fun T i h1 h2 h3 => by unfold PKm; omega) (fun i h1 h2 => by unfold PKm; omega)
  have ca : ∀ s, CA hc hc' s := fun s => CA.fx x (fun T i h => by unfold PKc; omega)
  exact ⟨p, r2.fx x z (fun T i h => by unfold PKc; omega) (fun i => by unfold PKm; omega) (fun i => by unfold PKm; omega) (fun i h => by unfold PKm; omega), r3.fx x (by unfold PKc; omega), r4.fx x, r5.cg (x.1 2 0 4 (by unfold PKc; omega)) (fun j => x.1 12 0 j (by unfold PKc; omega)) (fun j => x.1 13 0 j (by unfold PKc; omega)) (fun j => x.2.1 14 0 j (by unfold PKc; omega)) (fun j => x.1 15 0 j (by unfold PKc; omega)) (z.1 7 0 35 (by unfold PKm; omega)) (fun j => z.2.1 44 0 j (by unfold PKm; omega)), by omega, fun s hs => (r7 s hs).cg (ca s) (ma s) (Nat.le_refl _) (by omega), fun s h1 h2 => (r8 s h1 h2).cg (ma s)⟩
end AP
