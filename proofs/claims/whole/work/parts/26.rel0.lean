/-! what a call may change; the bytes of THE PACKET on both sides -/
def Fx (P : Nat → Nat → Nat → Prop) (h h' : sd_H) : Prop := (∀ T k i, ¬ P T k i → h'.1 T k i = h.1 T k i) ∧ (∀ T k i, ¬ P T k i → h'.2.1 T k i = h.2.1 T k i) ∧ h'.2.2 = h.2.2
section FX
variable {P P' : Nat → Nat → Nat → Prop} {h g g' : sd_H} {T k i : Nat}
theorem Fx.rf : Fx P h h := ⟨fun _ _ _ _ => rfl, fun _ _ _ _ => rfl, rfl⟩
theorem Fx.pi {v : Int32} (x : Fx P h g) (p : P T k i) : Fx P h (sd_pi g T k i v) :=
  ⟨fun T' k' i' q => by rw [sd_pi_ne (fun e => q (by obtain ⟨rfl, rfl, rfl⟩ := e; exact p))]; exact x.1 T' k' i' q, x.2.1, x.2.2⟩
theorem Fx.pl {v : Int64} (x : Fx P h g) (p : P T k i) : Fx P h (sd_pl g T k i v) :=
  ⟨x.1, fun T' k' i' q => by rw [sd_pl_ne (fun e => q (by obtain ⟨rfl, rfl, rfl⟩ := e; exact p))]; exact x.2.1 T' k' i' q, x.2.2⟩
theorem sd_ri_ne {f : Nat → Int32} {T' k' : Nat} (hn : ¬ (T' = T ∧ k' = k)) : (sd_ri g T k f).1 T' k' = g.1 T' k' := by
  unfold sd_ri
  dsimp only
  by_cases h1 : T' = T
  · subst h1
    rw [if_pos rfl, if_neg (fun q => hn ⟨rfl, q⟩)]
  · rw [if_neg h1]
theorem Fx.ri {f : Nat → Int32} (x : Fx P h g) (p : ∀ i, P T k i) : Fx P h (sd_ri g T k f) :=
  ⟨fun T' k' i' q => by rw [sd_ri_ne (fun e => q (by obtain ⟨rfl, rfl⟩ := e; exact p i'))]; exact x.1 T' k' i' q, x.2.1, x.2.2⟩
theorem Fx.mono (x : Fx P h g) (m : ∀ T k i, P T k i → P' T k i) : Fx P' h g :=
  ⟨fun T k i q => x.1 T k i fun z => q (m T k i z), fun T k i q => x.2.1 T k i fun z => q (m T k i z), x.2.2⟩
theorem Fx.tr (x : Fx P h g) (z : Fx P g g') : Fx P h g' :=
  ⟨fun T k i q => (z.1 T k i q).trans (x.1 T k i q), fun T k i q => (z.2.1 T k i q).trans (x.2.1 T k i q), z.2.2.trans x.2.2⟩
end FX
theorem nb_or {a b : Nat} (k : Nat) (hb : b < 2 ^ k) (h : a * 2 ^ k + b < 2 ^ 32) : nI (a * 2 ^ k) ||| nI b = nI (a * 2 ^ k + b) := by
  apply Int32.toBitVec_inj.mp
  apply BitVec.eq_of_toNat_eq
  rw [Int32.toBitVec_or, BitVec.toNat_or, pk_tn (by omega), pk_tn (by omega), pk_tn h]
  have := Nat.shiftLeft_add_eq_or_of_lt hb a
  rw [Nat.shiftLeft_eq] at this
  exact this.symm
def g2 (g : Nat → Nat) (j : Nat) : Nat := 256 * g j + g (j + 1)
def g4 (g : Nat → Nat) (j : Nat) : Nat := 16777216 * g j + 65536 * g (j + 1) + 256 * g (j + 2) + g (j + 3)
theorem by_2 {a b : Nat} (ha : a < 256) (hb : b < 256) : nI a <<< 8 ||| nI b = nI (256 * a + b) := by
  rw [pk_shlN 8 8 (by decide) (by omega)]
  have := nb_or (a := a) (b := b) 8 (by omega) (by omega)
  rw [this, show a * 2 ^ 8 + b = 256 * a + b by omega]
theorem by_4 {a b : Nat} (ha : a < 65536) (hb : b < 65536) : nI a <<< 16 ||| nI b = nI (65536 * a + b) := by
  rw [pk_shlN 16 16 (by decide) (by omega)]
  have := nb_or (a := a) (b := b) 16 (by omega) (by omega)
  rw [this, show a * 2 ^ 16 + b = 65536 * a + b by omega]
theorem by_m4 {a b c d : Nat} (ha : a < 256) (hb : b < 256) (hc : c < 256) (hd : d < 256) : nI a <<< 24 ||| nI b <<< 16 ||| nI c <<< 8 ||| nI d = nI (16777216 * a + 65536 * b + 256 * c + d) := by
  rw [pk_shlN 24 24 (by decide) (by omega), pk_shlN 16 16 (by decide) (by omega), pk_shlN 8 8 (by decide) (by omega)]
  have e1 := nb_or (a := a) (b := b * 2 ^ 16) 24 (by omega) (by omega)
  have e2 := nb_or (a := a * 2 ^ 8 + b) (b := c * 2 ^ 8) 16 (by omega) (by omega)
  have e3 := nb_or (a := a * 2 ^ 16 + b * 2 ^ 8 + c) (b := d) 8 (by omega) (by omega)
  rw [e1, show a * 2 ^ 24 + b * 2 ^ 16 = (a * 2 ^ 8 + b) * 2 ^ 16 by omega, e2, show (a * 2 ^ 8 + b) * 2 ^ 16 + c * 2 ^ 8 = (a * 2 ^ 16 + b * 2 ^ 8 + c) * 2 ^ 8 by omega, e3]
  congr 1
  omega
/-- THE PACKET: size and bytes on both sides -/
def PK (hc hm : sd_H) (sz : Nat) (g : Nat → Nat) : Prop := hc.1 1 0 1 = nI sz ∧ hm.1 7 0 2 = nI sz ∧ sz ≤ 300 ∧ ∀ i, i < 300 → hm.1 19 0 i = nI (g i) ∧ hc.1 11 0 i = nI (g i) ∧ g i < 256
section PKL
variable {hc hm : sd_H} {sz : Nat} {g : Nat → Nat}
theorem PK.b (hp : PK hc hm sz g) {j : Nat} (hj : j < sz) : pk_b hc (nI j) = nI (g j) := by
  obtain ⟨p1, p2, p3, p4⟩ := hp
  unfold pk_b
  rw [if_pos ⟨nI_pos' (by omega), by rw [p1]; exact nI_lt hj (by omega), nI_lt (a := j) (b := 300) (by omega) (by decide)⟩, nI_clamp (by omega)]
  exact (p4 j (by omega)).2.1
theorem PK.z (hp : PK hc hm sz g) {j : Nat} (hj : sz ≤ j) (hb : j < 2 ^ 31) : pk_b hc (nI j) = 0 := by
  obtain ⟨p1, p2, p3, p4⟩ := hp
  unfold pk_b
  rw [if_neg]
  intro q
  have := q.2.1
  rw [p1] at this
  exact nI_nlt hj hb this
theorem PK.lt (hp : PK hc hm sz g) {j : Nat} (hj : j < sz) : g j < 256 := (hp.2.2.2 j (by have := hp.2.2.1; omega)).2.2
theorem PK.b0 (hp : PK hc hm sz g) {j : Nat} (hb : j < 2 ^ 31) : ∃ b, b < 256 ∧ pk_b hc (nI j) = nI b ∧ (j < sz → b = g j) := by
  rcases Nat.lt_or_ge j sz with q | q
  · exact ⟨g j, hp.lt q, hp.b q, fun _ => rfl⟩
  · exact ⟨0, by omega, hp.z q hb, fun z => by omega⟩
theorem PK.h0 (hp : PK hc hm sz g) {j : Nat} (hb : j + 1 < 2 ^ 31) : ∃ b, b < 65536 ∧ pk_2 hc (nI j) = nI b ∧ (j + 1 < sz → b = g2 g j) := by
  obtain ⟨b1, a1, a2, a3⟩ := hp.b0 (j := j) (by omega)
  obtain ⟨b2, c1, c2, c3⟩ := hp.b0 (j := j + 1) hb
  refine ⟨256 * b1 + b2, by omega, ?_, fun q => ?_⟩
  · unfold pk_2
    rw [nI_1, a2, c2, by_2 a1 c1]
  · rw [a3 (by omega), c3 q]; rfl
theorem PK.h (hp : PK hc hm sz g) {j : Nat} (hj : j + 1 < sz) : pk_2 hc (nI j) = nI (g2 g j) := by
  obtain ⟨b, b1, b2, b3⟩ := hp.h0 (j := j) (by have := hp.2.2.1; omega)
  rw [b2, b3 hj]
theorem PK.w (hp : PK hc hm sz g) {j : Nat} (hj : j + 3 < sz) : pk_4 hc (nI j) = nI (g4 g j) := by
  have h1 := hp.lt (j := j) (by omega)
  have h2 := hp.lt (j := j + 1) (by omega)
  have h3 := hp.lt (j := j + 2) (by omega)
  have h4 := hp.lt (j := j + 3) (by omega)
  unfold pk_4
  rw [show (2 : Int32) = nI 2 from rfl, nI_add, hp.h (j := j) (by omega), hp.h (j := j + 2) (by omega)]
  unfold g2
  rw [show j + 2 + 1 = j + 3 from rfl, by_4 (by omega) (by omega)]
  unfold g4
  congr 1
  omega
theorem PK.m (hp : PK hc hm sz g) {j : Nat} (hj : j < 300) : hm.1 19 0 j = nI (g j) := (hp.2.2.2 j hj).1
theorem PK.l3 (hp : PK hc hm sz g) {j : Nat} (hj : j < 300) : g j < 256 := (hp.2.2.2 j hj).2.2
theorem PK.mm2 (hp : PK hc hm sz g) {j : Nat} (hj : j + 1 < 300) : m2 hm j = nI (g2 g j) := by
  unfold m2 g2
  rw [hp.m (j := j) (by omega), hp.m hj, show (256 : Int32) = nI 256 from rfl, pk_mul, nI_add]
theorem PK.mm4 (hp : PK hc hm sz g) {j : Nat} (hj : j + 3 < 300) : m4 hm j = nI (g4 g j) := by
  unfold m4 g4
  rw [hp.m (j := j) (by omega), hp.m (j := j + 1) (by omega), hp.m (j := j + 2) (by omega), hp.m hj]
  exact by_m4 (hp.l3 (by omega)) (hp.l3 (by omega)) (hp.l3 (by omega)) (hp.l3 (by omega))
theorem PK.two (hp : PK hc hm sz g) {j : Nat} (hj : j + 1 < sz) : m2 hm j = pk_2 hc (nI j) := by rw [hp.mm2 (by have := hp.2.2.1; omega), hp.h hj]
theorem PK.four (hp : PK hc hm sz g) {j : Nat} (hj : j + 3 < sz) : m4 hm j = pk_4 hc (nI j) := by rw [hp.mm4 (by have := hp.2.2.1; omega), hp.w hj]
theorem PK.fx {P : Nat → Nat → Nat → Prop} {hm' : sd_H} (hp : PK hc hm sz g) (x : Fx P hm hm') (n1 : ¬ P 7 0 2) (n2 : ∀ i, ¬ P 19 0 i) : PK hc hm' sz g :=
  ⟨hp.1, by rw [x.1 _ _ _ n1]; exact hp.2.1, hp.2.2.1, fun i hi => by rw [x.1 _ _ _ (n2 i)]; exact hp.2.2.2 i hi⟩
end PKL
theorem by_15 : ∀ b, b < 256 → nI b &&& 15 = nI (b % 16) := fun b hb => pk_andN (by omega) 4 (by decide)
theorem by_16 : ∀ b, b < 256 → ((nI b >>> 4 &&& 1 = 1) ↔ ¬ (nI b &&& 16 = 0)) := by decide +kernel
theorem by_32 : ∀ b, b < 256 → ((nI b >>> 5 &&& 1 = 1) ↔ ¬ (nI b &&& 32 = 0)) := by decide +kernel
