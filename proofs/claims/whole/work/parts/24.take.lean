/-! StreamDesk.take; the constructors of the class -/
theorem wn4 (i : Nat) : sd_wn 4 i = 0 := by
  match i with
  | 0 | 1 | 2 | 3 | 4 | 5 | 6 | 7 => rfl
  | _ + 8 => rfl
theorem wn5 (i : Nat) : sd_wn 5 i = 0 := by
  match i with
  | 0 | 1 | 2 => rfl
  | _ + 3 => rfl
theorem wn3 (i : Nat) : ((i = 1 ∨ i = 2 ∨ i = 3) ∧ sd_wn 3 i = 1) ∨ (sd_wn 3 i = 0) := by
  match i with
  | 0 => exact Or.inr rfl
  | 1 => exact Or.inl ⟨by omega, rfl⟩
  | 2 => exact Or.inl ⟨by omega, rfl⟩
  | 3 => exact Or.inl ⟨by omega, rfl⟩
  | 4 | 5 | 6 | 7 => exact Or.inr rfl
  | _ + 8 => exact Or.inr rfl
theorem wn6 (i : Nat) : (i = 0 ∧ sd_wn 6 i = 2) ∨ ((i = 2 ∨ i = 3 ∨ i = 4) ∧ sd_wn 6 i = 1) ∨ (sd_wn 6 i = 0) := by
  match i with
  | 0 => exact Or.inl ⟨rfl, rfl⟩
  | 1 => exact Or.inr (Or.inr rfl)
  | 2 => exact Or.inr (Or.inl ⟨by omega, rfl⟩)
  | 3 => exact Or.inr (Or.inl ⟨by omega, rfl⟩)
  | 4 => exact Or.inr (Or.inl ⟨by omega, rfl⟩)
  | 5 | 6 | 7 | 8 => exact Or.inr (Or.inr rfl)
  | _ + 9 => exact Or.inr (Or.inr rfl)
theorem dk_new_r3 {h : sd_H} {sn k i : Nat} {b q : Int32} (hC : SC h sn) (hk : k ≠ sn) : (dk_new h sn b q).2.2.1 3 k i = h.2.2.1 3 k i := by
  obtain ⟨s3, s4, s5, s6, s16, s17, s18, -⟩ := hC
  simp [dk_new, sn_new, pl_new, sd_pi, sd_pr, sd_nw, sd_ri, s3, hk]
theorem dk_new_r6 {h : sd_H} {sn k i : Nat} {b q : Int32} (hC : SC h sn) (hk : k ≠ sn) : (dk_new h sn b q).2.2.1 6 k i = h.2.2.1 6 k i := by
  obtain ⟨s3, s4, s5, s6, s16, s17, s18, -⟩ := hC
  simp [dk_new, sn_new, pl_new, sd_pi, sd_pr, sd_nw, sd_ri, s6, hk]
theorem dk_new_n3 {h : sd_H} {sn : Nat} {b q : Int32} (hC : SC h sn) : (dk_new h sn b q).2.2.1 3 sn 1 = some sn ∧ (dk_new h sn b q).2.2.1 3 sn 2 = some sn ∧ (dk_new h sn b q).2.2.1 3 sn 3 = some sn := by
  obtain ⟨s3, s4, s5, s6, s16, s17, s18, -⟩ := hC
  simp [dk_new, sn_new, pl_new, sd_pi, sd_pr, sd_nw, sd_ri, s3, s4, s5, s6]
theorem dk_new_n6 {h : sd_H} {sn : Nat} {b q : Int32} (hC : SC h sn) : (dk_new h sn b q).2.2.1 6 sn 0 = some 0 ∧ (dk_new h sn b q).2.2.1 6 sn 2 = some sn ∧ (dk_new h sn b q).2.2.1 6 sn 3 = some sn ∧ (dk_new h sn b q).2.2.1 6 sn 4 = some sn := by
  obtain ⟨s3, s4, s5, s6, s16, s17, s18, -⟩ := hC
  simp [dk_new, sn_new, pl_new, sd_pi, sd_pr, sd_nw, sd_ri, s6, s16, s17, s18]
theorem dk_new_c {h : sd_H} {sn : Nat} {b q : Int32} (hC : SC h sn) : SC (dk_new h sn b q) (sn + 1) := by
  obtain ⟨s3, s4, s5, s6, s16, s17, s18, s0, s1, s2⟩ := hC
  unfold SC
  simp [dk_new, sn_new, pl_new, sd_pi, sd_pr, sd_nw, sd_ri, s3, s4, s5, s6, s16, s17, s18, s0, s1, s2]
theorem dk_new_ok {h : sd_H} {sn : Nat} {b q : Int32} (hok : sd_OK h) (hC : SC h sn) : sd_OK (dk_new h sn b q) := by
  have c' := dk_new_c (b := b) (q := q) hC
  intro T k i hT hk
  rcases (show T = 0 ∨ T = 1 ∨ T = 2 ∨ T = 3 ∨ T = 4 ∨ T = 5 ∨ T = 6 ∨ T = 7 by omega) with rfl | rfl | rfl | rfl | rfl | rfl | rfl | rfl
  · exact hok 0 k i (by decide) hk
  · exact hok 1 k i (by decide) hk
  · exact hok 2 k i (by decide) hk
  · by_cases he : k = sn
    · subst he
      obtain ⟨n1, n2, n3⟩ := dk_new_n3 (b := b) (q := q) hC
      rcases wn3 i with ⟨q1, q2⟩ | q
      · refine ⟨fun _ => ?_, fun z => (by rw [q2] at z; cases z)⟩
        rcases q1 with rfl | rfl | rfl
        · exact n1
        · exact n2
        · exact n3
      · exact ⟨fun z => (by rw [q] at z; cases z), fun z => (by rw [q] at z; cases z)⟩
    · rw [dk_new_r3 hC he]
      exact hok 3 k i (by decide) (by rw [c'.1] at hk; rw [hC.1]; omega)
  · exact ⟨fun z => (by rw [wn4] at z; cases z), fun z => (by rw [wn4] at z; cases z)⟩
  · exact ⟨fun z => (by rw [wn5] at z; cases z), fun z => (by rw [wn5] at z; cases z)⟩
  · by_cases he : k = sn
    · subst he
      obtain ⟨n0, n1, n2, n3⟩ := dk_new_n6 (b := b) (q := q) hC
      rcases wn6 i with ⟨rfl, q2⟩ | ⟨q1, q2⟩ | q
      · exact ⟨fun z => (by rw [q2] at z; cases z), fun _ => n0⟩
      · refine ⟨fun _ => ?_, fun z => (by rw [q2] at z; cases z)⟩
        rcases q1 with rfl | rfl | rfl
        · exact n1
        · exact n2
        · exact n3
      · exact ⟨fun z => (by rw [q] at z; cases z), fun z => (by rw [q] at z; cases z)⟩
    · rw [dk_new_r6 hC he]
      exact hok 6 k i (by decide) (by rw [c'.2.2.2.1] at hk; rw [hC.2.2.2.1]; omega)
  · exact hok 7 k i (by decide) hk
def dk_rcv (h : sd_H) (s e : Nat) : Int32 × sd_H := sn_rcv h s e (pk_2 h 2) (pk_4 h 4) (dk_rt h) (h.1 0 0 6) (h.1 0 0 7)
def dk_take (h : sd_H) (s e : Nat) : Int32 × sd_H := if (dk_rcv h s e).1 = 0 then (0, sd_pi (dk_rcv h s e).2 0 0 9 ((dk_rcv h s e).2.1 0 0 9 + 1)) else (1, sd_pi (dk_rcv h s e).2 0 0 8 ((dk_rcv h s e).2.1 0 0 8 + 1))
section TK
variable {l : Launch} {Q : Option sd_V → sd_H → Prop} {sn : Nat} {h : sd_H}
theorem sp_take {e : Nat} (hN : SN h sn) (hC : SC h sn) (he : h.1 2 0 4 = nI e) (hb : e + 3000 < 2 ^ 31) (kf : ¬ dk_fault h sn = 0 → Q (some (v_i (-10 - dk_fault h sn))) (sd_pi h 0 0 10 (h.1 0 0 10 + 1)))
    (ky : dk_fault h sn = 0 → ∀ (h1 : sd_H) (s : Nat), ((dk_find h (pk_4 h 8) 0 sn = some s ∧ h1 = h) ∨ (dk_find h (pk_4 h 8) 0 sn = none ∧ sn < 6 ∧ s = sn ∧ h1 = dk_new h sn (pk_4 h 8) (pk_2 h 2))) → Q (some (v_i (dk_take h1 s e).1)) (dk_take h1 s e).2) : sd_E1 l y_X8_take [v_r 0 0] h Q := by
  intro hok
  revert hok
  show sd_E1 l y_X8_take [v_r 0 0] h Q
  intro hok
  refine sd_e1 (Q := Q) [18] 80 (cd := cd_X8_take) (by decide) rfl (Nat.le_of_ble_eq_true rfl) ?_ hok
  refine sp_dataFault hN ?_
  refine ⟨fun c1 => ?_, fun c1 => ?_⟩
  · refine sd_go [] 80 (cd := cd_X8_take) (by decide) rfl ?_
    exact ⟨fun n c => (by cases c), fun _ => kf c1⟩
  · have ky := ky c1
    refine ⟨by decide, ?_⟩
    have rest : ∀ (h1 : sd_H) (s : Nat), h1.1 2 0 4 = nI e → Q (some (v_i (dk_take h1 s e).1)) (dk_take h1 s e).2 → sd_Wq l none y_X8_take true Q 18 [some (v_r 0 0), some (v_i (dk_fault h sn)), some (v_r 3 s), none] [] h1 7 100 := by
      intro h1 s he1 k
      refine sd_go [] 80 (cd := cd_X8_take) (by decide) rfl ?_
      refine ⟨fun n _ => ?_, fun c => (by cases c)⟩
      refine sp_dsort ?_
      refine sp_rateOf ?_
      refine sp_number ?_
      refine sp_stamp ?_
      refine sp_receive (e := e) he1 hb ?_
      unfold dk_take at k
      refine ⟨fun (c2 : (dk_rcv h1 s e).1 = 0) => ?_, fun (c2 : ¬ (dk_rcv h1 s e).1 = 0) => ?_⟩
      · rw [if_pos c2] at k; exact k
      · rw [if_neg c2] at k; exact k
    have hlt : sn < 6 ∨ ∃ s, dk_find h (pk_4 h 8) 0 sn = some s := by
      unfold dk_fault at c1
      split at c1
      · split at c1
        · exact absurd c1 (by decide)
        · split at c1
          · next q => exact Or.inl q
          · split at c1
            · exact absurd c1 (by decide)
            · next q =>
              cases hf : dk_find h (pk_4 h 8) 0 sn with
              | none => exact absurd hf q
              | some s => exact Or.inr ⟨s, rfl⟩
      · next q => exact absurd c1 q
    refine sp_sent hN hC hlt (fun _ _ => dk_new_ok hok hC) (fun s hf => ?_) (fun hl hf => ?_)
    · exact rest h s he (ky h s (Or.inl ⟨hf, rfl⟩))
    · exact rest _ sn he (ky _ sn (Or.inr ⟨hf, hl, rfl, rfl⟩))
/-! constructors of the class -/
def pk_ini (h : sd_H) (p : Nat) : sd_H := sd_pr (sd_nw h 11) 1 p 0 (some (h.2.2.2 11))
theorem sp_pkinit {p : Nat} (k : Q none (pk_ini h p)) : sd_E l y_X4_init [v_r 1 p] h Q := by
  refine sd_e0 [] 60 (cd := cd_X4_init) (by decide) rfl (Nat.le_of_ble_eq_true rfl) ?_
  refine ⟨rfl, ?_⟩
  exact k
def ev_ini (h : sd_H) (p : Nat) : sd_H := sd_pr (sd_nw (sd_pr (sd_nw (sd_pr (sd_nw (sd_pr (sd_nw h 12) 2 p 0 (some (h.2.2.2 12))) 13) 2 p 1 (some (h.2.2.2 13))) 14) 2 p 2 (some (h.2.2.2 14))) 15) 2 p 3 (some (h.2.2.2 15))
theorem sp_evinit {p : Nat} (k : Q none (ev_ini h p)) : sd_E l y_X1_init [v_r 2 p] h Q := by
  refine sd_e0 [] 60 (cd := cd_X1_init) (by decide) rfl (Nat.le_of_ble_eq_true rfl) ?_
  refine ⟨rfl, ?_⟩
  refine ⟨rfl, ?_⟩
  refine ⟨rfl, ?_⟩
  refine ⟨rfl, ?_⟩
  exact k
end TK
