/-! the reference: shift, plays -/
def SH (hm hx : sd_H) (s b i : Nat) : Prop :=
  Fx (fun T _ x => (T = 41 ∨ T = 42) ∧ 32 * s ≤ x ∧ x < 32 * s + 32) hm hx ∧
  (∀ k, k < i → hx.1 41 0 (32 * s + k) = if k + b < 32 then hm.1 41 0 (32 * s + (k + b)) else 0) ∧
  (∀ k, k < i → k + b < 32 → hx.2.1 42 0 (32 * s + k) = hm.2.1 42 0 (32 * s + (k + b))) ∧
  (∀ k, i ≤ k → k < 32 → hx.1 41 0 (32 * s + k) = hm.1 41 0 (32 * s + k) ∧ hx.2.1 42 0 (32 * s + k) = hm.2.1 42 0 (32 * s + k))
theorem SH.step {hm hx : sd_H} {s b i : Nat} {w : Int32} {t : Int64} (x : SH hm hx s b i) (hi : i < 32) (hw : w = if i + b < 32 then hm.1 41 0 (32 * s + (i + b)) else 0) (ht : i + b < 32 → t = hm.2.1 42 0 (32 * s + (i + b))) : SH hm (sd_pl (sd_pi hx 41 0 (32 * s + i) w) 42 0 (32 * s + i) t) s b (i + 1) := by
  obtain ⟨x1, x2, x3, x4⟩ := x
  have e41 : ∀ y, (sd_pl (sd_pi hx 41 0 (32 * s + i) w) 42 0 (32 * s + i) t).1 41 0 y = (sd_pi hx 41 0 (32 * s + i) w).1 41 0 y := fun y => rfl
  have e42 : ∀ y, (sd_pl (sd_pi hx 41 0 (32 * s + i) w) 42 0 (32 * s + i) t).2.1 42 0 y = (sd_pl hx 42 0 (32 * s + i) t).2.1 42 0 y := fun y => rfl
  refine ⟨(x1.pi ⟨Or.inl rfl, by omega, by omega⟩).pl ⟨Or.inr rfl, by omega, by omega⟩, fun k hk => ?_, fun k hk hkb => ?_, fun k hk hk2 => ?_⟩
  · rw [e41]
    by_cases q : k = i
    · subst q; rw [sd_pi_eq]; exact hw
    · rw [sd_pi_ne (fun z => q (by omega))]; exact x2 k (by omega)
  · rw [e42]
    by_cases q : k = i
    · subst q; rw [sd_pl_eq]; exact ht hkb
    · rw [sd_pl_ne (fun z => q (by omega))]; exact x3 k (by omega) hkb
  · rw [e41, e42, sd_pi_ne (by omega), sd_pl_ne (by omega)]
    exact x4 k (by omega) hk2
def PSh (s : Nat) (T _k i : Nat) : Prop := ((T = 41 ∨ T = 42) ∧ 32 * s ≤ i ∧ i < 32 * s + 32) ∨ (T = 38 ∧ i = s)
def PPm (s : Nat) (T _k i : Nat) : Prop := T = 44 ∨ (T = 7 ∧ i = 35) ∨ (T = 43 ∧ 6 * s ≤ i ∧ i < 6 * s + 6) ∨ ((T = 41 ∨ T = 42) ∧ 32 * s ≤ i ∧ i < 32 * s + 32) ∨ (T = 38 ∧ i = s)
section SF
variable {l : Launch} {Q : Option sd_V → sd_H → Prop} {s b : Nat} {hm : sd_H}
theorem sq_shift (hs : s < 6) (h1 : 1 ≤ b) (hb : b ≤ 32) (hz : ∀ k, k < 32 → hm.1 41 0 (32 * s + k) = 0 ∨ hm.1 41 0 (32 * s + k) = 1) (k : ∀ hm', Fx (PSh s) hm hm' → (∀ k, k < 32 → hm'.1 41 0 (32 * s + k) = if k + b < 32 then hm.1 41 0 (32 * s + (k + b)) else 0) → (∀ k, k + b < 32 → hm'.2.1 42 0 (32 * s + k) = hm.2.1 42 0 (32 * s + (k + b))) → hm'.2.1 38 0 s = hm.2.1 38 0 s + lN b → Q none hm') : ∀ (n : Nat) (hx : sd_H) (j4 : Option sd_V), n ≤ 32 → SH hm hx s b (32 - n) → sd_Wq l none y_X9_shift true Q 2 [some (v_r 7 0), some (v_i (nI s)), some (v_i (nI b)), some (v_i (nI (32 - n))), j4] [] hx 0 0
  | 0, hx, j4, hn, x => by
    refine sd_go [2] 80 (cd := cd_X9_shift) (by decide) rfl ?_
    refine ⟨fun _ => ?_, fun c => absurd (show (32 : Int32) ≤ nI 32 by decide) c⟩
    refine ⟨s, ⟨show s < 6 by omega, rfl⟩, s, ⟨show s < 6 by omega, rfl⟩, ?_⟩
    obtain ⟨x1, x2, x3, x4⟩ := x
    refine k (sd_pl hx 38 0 s (hx.2.1 38 0 s + (nI b).toInt64)) ((x1.mono (fun T k i q => Or.inl q)).pl (Or.inr ⟨rfl, rfl⟩)) (fun k hk => x2 k (by omega)) (fun k hk => x3 k (by omega) hk) ?_
    rw [sd_pl_eq, nI_l (by omega), x1.2.1 38 0 s (by omega)]
  | n + 1, hx, j4, hn, x => by
    refine sd_go [2] 80 (cd := cd_X9_shift) (by decide) rfl ?_
    generalize hi : 32 - (n + 1) = i at x ⊢
    have hi2 : i < 32 := by omega
    refine ⟨fun c => absurd c (nI_ge (b := 32) hi2 (by decide)), fun _ => ?_⟩
    have nxt : ∀ (w : Int32) (t : Int64) j, (w = if i + b < 32 then hm.1 41 0 (32 * s + (i + b)) else 0) → (i + b < 32 → t = hm.2.1 42 0 (32 * s + (i + b))) → sd_Wq l none y_X9_shift true Q 2 [some (v_r 7 0), some (v_i (nI s)), some (v_i (nI b)), some (v_i (nI i + 1)), j] [] (sd_pl (sd_pi hx 41 0 (32 * s + i) w) 42 0 (32 * s + i) t) 0 0 := by
      intro w t j hw ht
      have := x.step hi2 hw ht
      rw [nI_1]
      rw [show i + 1 = 32 - n by omega] at this ⊢
      exact sq_shift hs h1 hb hz k n _ j (by omega) this
    have I : 32 * s + i < 192 := by omega
    refine ⟨fun (c1 : (32 : Int32) ≤ nI i + nI b) => ?_, fun (c1 : ¬ (32 : Int32) ≤ nI i + nI b) => ?_⟩
    · rw [nI_add] at c1
      have c1 := (nI_leI (a := 32) (by decide) (by omega)).mp c1
      refine ⟨fun _ => ?_, fun c => absurd rfl c⟩
      refine ⟨32 * s + i, ⟨I, ix32 s i, Or.inl rfl⟩, ?_⟩
      refine ⟨fun _ => ?_, fun c => absurd rfl c⟩
      refine ⟨32 * s, ⟨show 32 * s < 192 by omega, ix32 s 0⟩, ?_⟩
      refine ⟨32 * s + i, ⟨I, ix32 s i⟩, ?_⟩
      exact nxt 0 _ _ (by rw [if_neg (by omega)]) (fun q => by omega)
    · rw [nI_add] at c1
      have c1 : i + b < 32 := by
        rcases Nat.lt_or_ge (i + b) 32 with q | q
        · exact q
        · exact absurd (nI_le (a := 32) q (by omega)) c1
      have ei : (32 : Int32) * nI s + (nI i + nI b) = nI (32 * s + (i + b)) := by rw [nI_add, ix32]
      have I2 : 32 * s + (i + b) < 192 := by omega
      refine ⟨fun c => absurd c (by decide), fun _ => ?_⟩
      refine ⟨fun c => absurd c (by decide), fun _ => ?_⟩
      refine ⟨32 * s + (i + b), ⟨I2, ei⟩, ?_⟩
      have o1 := x.2.2.2 (i + b) (by omega) c1
      have o42 : ∀ w, (sd_pi hx 41 0 (32 * s + i) w).2.1 42 0 (32 * s + (i + b)) = hm.2.1 42 0 (32 * s + (i + b)) := fun w => o1.2
      refine ⟨fun (c2 : hx.1 41 0 (32 * s + (i + b)) = 0) => ?_, fun (c2 : ¬ hx.1 41 0 (32 * s + (i + b)) = 0) => ?_⟩
      · refine ⟨32 * s + i, ⟨I, ix32 s i, Or.inl rfl⟩, ?_⟩
        refine ⟨fun c => absurd c (by decide), fun _ => ?_⟩
        refine ⟨32 * s + (i + b), ⟨I2, ei⟩, ?_⟩
        refine ⟨32 * s + i, ⟨I, ix32 s i⟩, ?_⟩
        exact nxt 0 _ _ (by rw [if_pos c1, ← o1.1, c2]) (fun _ => o42 0)
      · refine ⟨32 * s + i, ⟨I, ix32 s i, Or.inr rfl⟩, ?_⟩
        refine ⟨fun c => absurd c (by decide), fun _ => ?_⟩
        refine ⟨32 * s + (i + b), ⟨I2, ei⟩, ?_⟩
        refine ⟨32 * s + i, ⟨I, ix32 s i⟩, ?_⟩
        refine nxt 1 _ _ ?_ (fun _ => o42 1)
        rw [if_pos c1]
        rcases hz (i + b) c1 with q | q
        · exact absurd (o1.1.trans q) c2
        · exact q.symm
theorem sm_shift (hs : s < 6) (h1 : 1 ≤ b) (hb : b ≤ 32) (hz : ∀ k, k < 32 → hm.1 41 0 (32 * s + k) = 0 ∨ hm.1 41 0 (32 * s + k) = 1) (k : ∀ hm', Fx (PSh s) hm hm' → (∀ k, k < 32 → hm'.1 41 0 (32 * s + k) = if k + b < 32 then hm.1 41 0 (32 * s + (k + b)) else 0) → (∀ k, k + b < 32 → hm'.2.1 42 0 (32 * s + k) = hm.2.1 42 0 (32 * s + (k + b))) → hm'.2.1 38 0 s = hm.2.1 38 0 s + lN b → Q none hm') : sd_E1 l y_X9_shift [v_r 7 0, v_i (nI s), v_i (nI b)] hm Q := by
  refine sd_e1 [2] 80 (cd := cd_X9_shift) (by decide) rfl (Nat.le_of_ble_eq_true rfl) ?_
  exact sq_shift hs h1 hb hz k 32 hm _ (Nat.le_refl _) ⟨.rf, fun k hk => by omega, fun k hk => by omega, fun k _ _ => ⟨rfl, rfl⟩⟩
end SF
section PS
variable {hc hm hm' : sd_H} {e s b : Nat}
theorem PM.shift (p : PM hc hm s e b) (h1 : 1 ≤ b) (hb : b ≤ 32) (f : Fx (PSh s) hm hm') (w1 : ∀ k, k < 32 → hm'.1 41 0 (32 * s + k) = if k + b < 32 then hm.1 41 0 (32 * s + (k + b)) else 0) (w2 : ∀ k, k + b < 32 → hm'.2.1 42 0 (32 * s + k) = hm.2.1 42 0 (32 * s + (k + b))) (w3 : hm'.2.1 38 0 s = hm.2.1 38 0 s + lN b) (he : e < 2 ^ 40) : PM hc hm' s e 0 ∧ wc (fun k => hm'.1 41 0 (32 * s + k)) 0 32 = wc (fun k => hm.1 41 0 (32 * s + k)) b (32 - b) := by
  obtain ⟨a1, a2, a3, a4, a5, a6, a7, a8, a9, a10, a11⟩ := p
  have ew : wc (fun k => hm'.1 41 0 (32 * s + k)) 0 32 = wc (fun k => hm.1 41 0 (32 * s + k)) b (32 - b) := by
    have e1 := wc_app (fun k => hm'.1 41 0 (32 * s + k)) (32 - b) 0 b
    rw [show 32 - b + b = 32 by omega] at e1
    rw [e1, wc_z b (0 + (32 - b)) (fun k hk => by
      show hm'.1 41 0 (32 * s + (0 + (32 - b) + k)) = 0
      rw [w1 _ (by omega), if_neg (by omega)])]
    rw [Nat.add_zero]
    refine wc_cg _ _ _ (fun k hk => ?_)
    show hm'.1 41 0 (32 * s + (0 + k)) = hm.1 41 0 (32 * s + (b + k))
    rw [w1 _ (by omega), if_pos (by omega), show 0 + k + b = b + k by omega]
  have hN : (hm.2.1 38 0 s + lN b).toInt = (hm.2.1 38 0 s).toInt + b := by
    rw [Int64.toInt_add, lN_toInt (by omega)]
    exact Int.bmod_eq_of_le (by omega) (by omega)
  have es : ∀ k, hm'.2.1 38 0 s + lN k = hm.2.1 38 0 s + lN (b + k) := fun k => by rw [w3, Int64.add_assoc, lN_add]
  refine ⟨⟨a1, ?_, ?_, ?_, ?_, ?_, ?_, ?_, ?_, ?_, ?_⟩, ew⟩
  · rw [a2, w3, Int64.add_assoc, lN_add]; rfl
  · intro k hk
    rw [es, if_neg (by omega), w1 k hk]
    by_cases q : k + b < 32
    · rw [if_pos q, show b + k = k + b by omega, a3 (k + b) q, if_neg (by omega)]
    · rw [if_neg q]
      have e2 : sl (hm.2.1 38 0 s + lN (b + k)) = sl (hm.2.1 38 0 s + lN (b + k - 32)) := by
        rw [sl_add _ _ (by omega), sl_add _ _ (by omega)]; omega
      rw [e2, a3 (b + k - 32) (by omega), if_pos (by omega)]
  · intro k hk _ hw
    rw [w1 k hk] at hw
    by_cases q : k + b < 32
    · rw [if_pos q] at hw
      rw [w2 k q, es, show b + k = k + b by omega]
      exact a4 (k + b) q (by omega) hw
    · rw [if_neg q] at hw; exact absurd rfl hw
  · intro k hk
    rw [w1 k hk]
    by_cases q : k + b < 32
    · rw [if_pos q]; exact a5 _ q
    · rw [if_neg q]; exact Or.inl rfl
  · rw [a6, ew]
  · intro c h1 h5
    rw [f.1 43 0 _ (by unfold PSh; omega)]; exact a7 c h1 h5
  · rw [f.2.1 39 0 s (by unfold PSh; omega)]; exact a8
  · rw [f.1 40 0 s (by unfold PSh; omega)]; exact a9
  · rw [w3, hN]; omega
  · rw [w3, hN]; omega
end PS
