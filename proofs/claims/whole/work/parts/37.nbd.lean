/-! bounds of the NUMBERS over a judgement -/
theorem i_addI {a b : Int32} (h1 : -2147483648 ≤ a.toInt + b.toInt) (h2 : a.toInt + b.toInt < 2147483648) : (a + b).toInt = a.toInt + b.toInt := by
  rw [Int32.toInt_add]; exact Int.bmod_eq_of_le (by omega) (by omega)
theorem i_subI {a b : Int32} (h1 : -2147483648 ≤ a.toInt - b.toInt) (h2 : a.toInt - b.toInt < 2147483648) : (a - b).toInt = a.toInt - b.toInt := by
  rw [Int32.toInt_sub]; exact Int.bmod_eq_of_le (by omega) (by omega)
theorem i_z {x : Int32} : x = 0 ↔ x.toInt = 0 := by
  constructor
  · intro q; rw [q]; rfl
  · intro q; exact Int32.toInt_inj.mp q
theorem i_le0 {x : Int32} : x ≤ 0 ↔ x.toInt ≤ 0 := by rw [Int32.le_iff_toInt_le]; rfl
theorem i_and16 (x : Int32) : 0 ≤ (x &&& 65535).toInt ∧ (x &&& 65535).toInt < 65536 := by
  obtain ⟨j, hj, e⟩ := pk_andE x (m := 65535) 16 (by decide)
  rw [e, nI_toInt (by omega)]
  omega
section NBS
variable {f : Nat → Int32} {t : Nat} {q : Int32}
theorem NBd.got (b : NBd f t) (ht : t ≤ 1000) : NBd (upd f 5 (f 5 + 1)) (t + 1) := by
  have e5 : (f 5 + 1).toInt = (f 5).toInt + 1 := i_addI (by unfold NBd at b; show _ ≤ _ + (1 : Int); omega) (by unfold NBd at b; show _ + (1 : Int) < _; omega)
  show (0 ≤ (f 0).toInt ∧ (f 0).toInt < 65536) ∧ (0 ≤ (f 1).toInt ∧ (f 1).toInt ≤ 65536 * (t + 1 : Nat)) ∧ (0 ≤ (f 2).toInt ∧ (f 2).toInt < 65536) ∧ (0 ≤ (f 4).toInt ∧ (f 4).toInt ≤ 2) ∧ (0 ≤ (f 5 + 1).toInt ∧ (f 5 + 1).toInt ≤ (t + 1 : Nat)) ∧ (0 ≤ (f 6).toInt ∧ (f 6).toInt ≤ (t + 1 : Nat)) ∧ -65536 ≤ (f 7).toInt ∧ (f 7).toInt ≤ 65536 * ((t + 1 : Nat) + 1)
  unfold NBd at b
  rw [e5]; omega
theorem NBd.set (hq : 0 ≤ q.toInt ∧ q.toInt < 65536) (h4 : 0 ≤ (f 4).toInt ∧ (f 4).toInt ≤ 2) : NBd (nb_set f q) t := by
  show (0 ≤ q.toInt ∧ q.toInt < 65536) ∧ (0 ≤ (0 : Int) ∧ (0 : Int) ≤ 65536 * t) ∧ (0 ≤ q.toInt ∧ q.toInt < 65536) ∧ (0 ≤ (f 4).toInt ∧ (f 4).toInt ≤ 2) ∧ (0 ≤ (0 : Int) ∧ (0 : Int) ≤ t) ∧ (0 ≤ (0 : Int) ∧ (0 : Int) ≤ t) ∧ -65536 ≤ (0 : Int) ∧ (0 : Int) ≤ 65536 * (t + 1)
  omega
theorem nb_new_b (hq : 0 ≤ q.toInt ∧ q.toInt < 65536) : NBd (nb_new (fun _ => 0) q) t := by
  have := i_and16 (q - 1)
  show (0 ≤ ((q - 1) &&& 65535).toInt ∧ ((q - 1) &&& 65535).toInt < 65536) ∧ (0 ≤ (0 : Int) ∧ (0 : Int) ≤ 65536 * t) ∧ (0 ≤ q.toInt ∧ q.toInt < 65536) ∧ (0 ≤ (2 : Int) ∧ (2 : Int) ≤ 2) ∧ (0 ≤ (0 : Int) ∧ (0 : Int) ≤ t) ∧ (0 ≤ (0 : Int) ∧ (0 : Int) ≤ t) ∧ -65536 ≤ (0 : Int) ∧ (0 : Int) ≤ 65536 * (t + 1)
  omega
theorem nb_j_f (b : NBd f t) (hq : 0 ≤ q.toInt ∧ q.toInt < 65536) (ht : t ≤ 1000) : NBd (nb_j f q).2 (t + 1) ∧ (((nb_j f q).1 = 0 ∧ ((nb_j f q).2 4 = 0 ↔ f 4 = 0)) ∨ ((nb_j f q).1 = 1 ∧ f 4 = 0 ∧ (nb_j f q).2 4 = 0) ∨ ((nb_j f q).1 = 2 ∧ (nb_j f q).2 4 = 0 ∧ (nb_j f q).2 0 = q ∧ (nb_j f q).2 1 = 0)) := by
  have b4 : 0 ≤ (f 4).toInt ∧ (f 4).toInt ≤ 2 := b.2.2.2.1
  have good : ∀ (v : Int32) (f1 : Nat → Int32), nb_j0 f q = (v, f1) → ¬ v = 0 → nb_j f q = (v, upd f1 5 (f1 5 + 1)) := fun v f1 e hv => by unfold nb_j; rw [e, if_neg hv]
  have bad : ∀ (f1 : Nat → Int32), nb_j0 f q = (0, f1) → nb_j f q = (0, f1) := fun f1 e => by unfold nb_j; rw [e]; rfl
  by_cases c1 : f 4 ≤ 0
  · have f40 : f 4 = 0 := i_z.mpr (by have := i_le0.mp c1; omega)
    have e0 : nb_j0 f q = nb_bel f q := by unfold nb_j0; rw [if_pos c1]
    unfold nb_bel at e0
    by_cases c2 : 3000 ≤ (q - f 0) &&& 65535
    · rw [if_pos c2] at e0
      by_cases c3 : (q - f 0) &&& 65535 ≤ 65436
      · rw [if_pos c3] at e0
        by_cases c4 : q = f 3
        · rw [if_pos c4] at e0
          rw [good _ _ e0 (by decide)]
          exact ⟨(NBd.set hq b4).got ht, Or.inr (Or.inr ⟨rfl, f40, rfl, rfl⟩)⟩
        · rw [if_neg c4] at e0
          rw [bad _ e0]
          refine ⟨?_, Or.inl ⟨rfl, Iff.rfl⟩⟩
          exact (show NBd (upd f 3 ((q + 1) &&& 65535)) t from b).mono (by omega)
      · rw [if_neg c3] at e0
        rw [good _ _ e0 (by decide)]
        exact ⟨b.got ht, Or.inr (Or.inl ⟨rfl, f40, f40⟩)⟩
    · rw [if_neg c2] at e0
      rw [good _ _ e0 (by decide)]
      refine ⟨?_, Or.inr (Or.inl ⟨rfl, f40, f40⟩)⟩
      have e5 : (f 5 + 1).toInt = (f 5).toInt + 1 := i_addI (by unfold NBd at b; show _ ≤ _ + (1 : Int); omega) (by unfold NBd at b; show _ + (1 : Int) < _; omega)
      have e1 : ∀ x : Int32, (x = 0 ∨ x = 65536) → (f 1 + x).toInt = (f 1).toInt + x.toInt ∧ 0 ≤ x.toInt ∧ x.toInt ≤ 65536 := by
        intro x hx
        have hb : 0 ≤ x.toInt ∧ x.toInt ≤ 65536 := by rcases hx with rfl | rfl <;> decide
        exact ⟨i_addI (by unfold NBd at b; omega) (by unfold NBd at b; omega), hb⟩
      have e2 := e1 (if f 0 ≤ q then 0 else 65536) (by by_cases z : f 0 ≤ q <;> simp [z])
      generalize (if f 0 ≤ q then (0 : Int32) else 65536) = x at e2 ⊢
      show (0 ≤ q.toInt ∧ q.toInt < 65536) ∧ (0 ≤ (f 1 + x).toInt ∧ (f 1 + x).toInt ≤ 65536 * (t + 1 : Nat)) ∧ (0 ≤ (f 2).toInt ∧ (f 2).toInt < 65536) ∧ (0 ≤ (f 4).toInt ∧ (f 4).toInt ≤ 2) ∧ (0 ≤ (f 5 + 1).toInt ∧ (f 5 + 1).toInt ≤ (t + 1 : Nat)) ∧ (0 ≤ (f 6).toInt ∧ (f 6).toInt ≤ (t + 1 : Nat)) ∧ -65536 ≤ (f 7).toInt ∧ (f 7).toInt ≤ 65536 * ((t + 1 : Nat) + 1)
      unfold NBd at b
      rw [e5, e2.1]; omega
  · have f4p : ¬ (f 4).toInt ≤ 0 := fun z => c1 (i_le0.mpr z)
    have f41 : ¬ f 4 = 0 := fun z => f4p (by rw [z]; decide)
    have e0 : nb_j0 f q = nb_pro f q := by unfold nb_j0; rw [if_neg c1]
    unfold nb_pro at e0
    have e4 : (f 4 - 1).toInt = (f 4).toInt - 1 := i_subI (by show _ ≤ _ - (1 : Int); omega) (by show _ - (1 : Int) < _; omega)
    by_cases c2 : q = (f 0 + 1) &&& 65535
    · rw [if_pos c2] at e0
      by_cases c3 : f 4 - 1 ≤ 0
      · rw [if_pos c3] at e0
        rw [good _ _ e0 (by decide)]
        have z4 : f 4 - 1 = 0 := i_z.mpr (by have := i_le0.mp c3; omega)
        refine ⟨(NBd.set hq (show 0 ≤ (f 4 - 1).toInt ∧ (f 4 - 1).toInt ≤ 2 by omega)).got ht, Or.inr (Or.inr ⟨rfl, z4, rfl, rfl⟩)⟩
      · rw [if_neg c3] at e0
        rw [bad _ e0]
        have z4 : ¬ f 4 - 1 = 0 := fun z => c3 (by rw [z]; decide)
        refine ⟨?_, Or.inl ⟨rfl, ⟨fun z => absurd z z4, fun z => absurd z f41⟩⟩⟩
        show (0 ≤ q.toInt ∧ q.toInt < 65536) ∧ (0 ≤ (f 1).toInt ∧ (f 1).toInt ≤ 65536 * (t + 1 : Nat)) ∧ (0 ≤ (f 2).toInt ∧ (f 2).toInt < 65536) ∧ (0 ≤ (f 4 - 1).toInt ∧ (f 4 - 1).toInt ≤ 2) ∧ (0 ≤ (f 5).toInt ∧ (f 5).toInt ≤ (t + 1 : Nat)) ∧ (0 ≤ (f 6).toInt ∧ (f 6).toInt ≤ (t + 1 : Nat)) ∧ -65536 ≤ (f 7).toInt ∧ (f 7).toInt ≤ 65536 * ((t + 1 : Nat) + 1)
        unfold NBd at b
        rw [e4]; omega
    · rw [if_neg c2] at e0
      rw [bad _ e0]
      refine ⟨?_, Or.inl ⟨rfl, ⟨fun z => absurd (show (1 : Int32) = 0 from z) (by decide), fun z => absurd z f41⟩⟩⟩
      show (0 ≤ q.toInt ∧ q.toInt < 65536) ∧ (0 ≤ (f 1).toInt ∧ (f 1).toInt ≤ 65536 * (t + 1 : Nat)) ∧ (0 ≤ (f 2).toInt ∧ (f 2).toInt < 65536) ∧ (0 ≤ (1 : Int) ∧ (1 : Int) ≤ 2) ∧ (0 ≤ (f 5).toInt ∧ (f 5).toInt ≤ (t + 1 : Nat)) ∧ (0 ≤ (f 6).toInt ∧ (f 6).toInt ≤ (t + 1 : Nat)) ∧ -65536 ≤ (f 7).toInt ∧ (f 7).toInt ≤ 65536 * ((t + 1 : Nat) + 1)
      unfold NBd at b
      omega
theorem nb_long_b : -1099511627776 ≤ (nb_long f q).toInt ∧ (nb_long f q).toInt ≤ 1099511627776 := by
  have a1 := Int32.le_toInt (f 1)
  have a2 := Int32.toInt_lt (f 1)
  have b1 := Int32.le_toInt q
  have b2 := Int32.toInt_lt q
  have e1 : ((f 1).toInt64 + q.toInt64).toInt = (f 1).toInt + q.toInt := by
    rw [Int64.toInt_add, Int32.toInt_toInt64, Int32.toInt_toInt64]
    exact Int.bmod_eq_of_le (by omega) (by omega)
  unfold nb_long
  split
  · rw [e1]; omega
  · rw [Int64.toInt_sub, e1, show (65536 : Int64).toInt = 65536 from rfl, Int.bmod_eq_of_le (by omega) (by omega)]
    omega
theorem nb_long_0 (h0 : f 0 = q) (h1 : f 1 = 0) (hq : 0 ≤ q.toInt) : 0 ≤ (nb_long f q).toInt := by
  unfold nb_long
  rw [h0, h1, if_pos (Int32.le_refl _), show (0 : Int32).toInt64 = 0 from rfl, Int64.zero_add, Int32.toInt_toInt64]
  exact hq
end NBS
