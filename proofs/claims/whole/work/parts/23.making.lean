/-! makings of the class: Player, Sender, Numbers, Jitter; senderThatSent, take -/
theorem sd_E1.to {l : Launch} {y : Nat} {as : List sd_V} {h : sd_H} {Q : Option sd_V → sd_H → Prop} (e : sd_E1 l y as h Q) (hok : sd_OK h) : sd_E l y as h Q := sd_E_mono (e hok) fun _ _ q => q.2
section MK
variable {l : Launch} {Q : Option sd_V → sd_H → Prop} {sn : Nat} {h : sd_H}
theorem sp_byteAt0 {i : Int32} (hb0 : h.2.2.1 1 0 0 = some 0) (k : Q (some (v_i (pk_b h i))) h) : sd_E l y_X4_byteAt [v_r 1 0, v_i i] h Q := by
  refine sd_e0 [23] 40 (cd := cd_X4_byteAt) (by decide) rfl (Nat.le_of_ble_eq_true rfl) ?_
  have z : ¬ (0 ≤ i ∧ i < h.1 1 0 1 ∧ i < 300) → Q (some (v_i 0)) h := fun q => by
    unfold pk_b at k; rw [if_neg q] at k; exact k
  refine ⟨fun c1 => ?_, fun c1 => ?_⟩
  · exact z fun q => absurd c1 (Int32.not_lt.mpr q.1)
  · refine ⟨fun c2 => ?_, fun c2 => ?_⟩
    · exact z fun q => absurd c2 (Int32.not_le.mpr q.2.1)
    · refine ⟨fun c3 => ?_, fun c3 => ?_⟩
      · exact z fun q => absurd c3 (Int32.not_le.mpr q.2.2)
      · show sd_Wq l none y_X4_byteAt false Q 23 (sd_in y_X4_byteAt [v_r 1 0, v_i i]) [.inr (.inr (11, h.2.2.1 1 0 0))] h 0 0
        rw [hb0]
        refine sd_go [] 40 (cd := cd_X4_byteAt) (by decide) rfl ?_
        obtain ⟨i1, i2⟩ := i_ix (N := 300) c1 (i_nle c3) (by decide)
        refine ⟨i.toNatClampNeg, ⟨i1, i2⟩, ?_⟩
        unfold pk_b at k
        rw [if_pos ⟨i_nlt c1, i_nle c2, i_nle c3⟩] at k
        exact k
theorem sp_halfAt0 {i : Int32} (hb0 : h.2.2.1 1 0 0 = some 0) (k : Q (some (v_i (pk_2 h i))) h) : sd_E l y_X4_halfAt [v_r 1 0, v_i i] h Q := by
  refine sd_e0 [] 40 (cd := cd_X4_halfAt) (by decide) rfl (Nat.le_of_ble_eq_true rfl) ?_
  refine sp_byteAt0 hb0 ?_
  refine sp_byteAt0 hb0 ?_
  exact k
theorem sp_wordAt0 {i : Int32} (hb0 : h.2.2.1 1 0 0 = some 0) (k : Q (some (v_i (pk_4 h i))) h) : sd_E l y_X4_wordAt [v_r 1 0, v_i i] h Q := by
  refine sd_e0 [] 40 (cd := cd_X4_wordAt) (by decide) rfl (Nat.le_of_ble_eq_true rfl) ?_
  refine sp_halfAt0 hb0 ?_
  refine sp_halfAt0 hb0 ?_
  exact k
theorem sp_number0 (hb0 : h.2.2.1 1 0 0 = some 0) (k : Q (some (v_i (pk_2 h 2))) h) : sd_E l y_X0_number [v_r 1 0] h Q := by
  refine sd_e0 [] 40 (cd := cd_X0_number) (by decide) rfl (Nat.le_of_ble_eq_true rfl) ?_
  exact sp_halfAt0 hb0 k
theorem sp_source0 (hb0 : h.2.2.1 1 0 0 = some 0) (k : Q (some (v_i (pk_4 h 8))) h) : sd_E l y_X0_source [v_r 1 0] h Q := by
  refine sd_e0 [] 40 (cd := cd_X0_source) (by decide) rfl (Nat.le_of_ble_eq_true rfl) ?_
  exact sp_wordAt0 hb0 k
theorem sp_jinit {j : Nat} (k : Q none h) : sd_E l y_X2_init [v_r 5 j] h Q := by
  refine sd_e0 [] 40 (cd := cd_X2_init) (by decide) rfl (Nat.le_of_ble_eq_true rfl) ?_
  exact k
/-- a new Numbers -/
def nb_new (f : Nat → Int32) (q : Int32) : Nat → Int32 := upd (upd (nb_set f q) 0 ((q - 1) &&& 65535)) 4 2
theorem sp_ninit {j : Nat} {q : Int32} (k : Q none (sd_ri h 4 j (nb_new (h.1 4 j) q))) : sd_E l y_X3_init [v_r 4 j, v_i q] h Q := by
  refine sd_e0 [] 40 (cd := cd_X3_init) (by decide) rfl (Nat.le_of_ble_eq_true rfl) ?_
  refine sp_setBy0 ?_
  show Q none (sd_pi (sd_pi (sd_ri h 4 j (nb_set (h.1 4 j) q)) 4 j 0 ((q - 1) &&& 65535)) 4 j 4 2)
  rw [sd_pi_ri, sd_pi_ri]
  exact k
/-- a new Player -/
def pl_new (h : sd_H) (p : Nat) (n : Int32) : sd_H := sd_pi (sd_pr (sd_pr (sd_nw (sd_pr (sd_nw (sd_pr (sd_nw h 16) 6 p 2 (some (h.2.2.2 16))) 17) 6 p 3 (some (h.2.2.2 17))) 18) 6 p 4 (some (h.2.2.2 18))) 6 p 0 (some 0)) 6 p 1 n
theorem sp_pinit {p : Nat} {n : Int32} (k : Q none (pl_new h p n)) : sd_E l y_X5_init [v_r 6 p, v_r 2 0, v_i n] h Q := by
  refine sd_e0 [] 60 (cd := cd_X5_init) (by decide) rfl (Nat.le_of_ble_eq_true rfl) ?_
  refine ⟨rfl, ?_⟩
  refine ⟨rfl, ?_⟩
  refine ⟨rfl, ?_⟩
  exact k
/-- a new Sender -/
def sn_new (h : sd_H) (s : Nat) (b q : Int32) (p : Nat) : sd_H :=
  sd_pr (sd_pr (sd_ri (sd_nw (sd_pi (sd_pr (sd_nw h 5) 3 s 2 (some (h.2.2.2 5))) 3 s 0 b) 4) 4 (h.2.2.2 4) (nb_new (fun _ => 0) q)) 3 s 1 (some (h.2.2.2 4))) 3 s 3 (some p)
theorem sp_sinit {s p : Nat} {b q : Int32} (k : Q none (sn_new h s b q p)) : sd_E l y_X7_init [v_r 3 s, v_i b, v_i q, v_r 6 p] h Q := by
  refine sd_e0 [] 60 (cd := cd_X7_init) (by decide) rfl (Nat.le_of_ble_eq_true rfl) ?_
  refine sp_jinit ?_
  refine sp_ninit ?_
  have e : (sd_nw (sd_pi (sd_pr (sd_nw h 5) 3 s 2 (some (h.2.2.2 5))) 3 s 0 b) 4).1 4 (h.2.2.2 4) = fun _ => 0 := by
    show (if h.2.2.2 4 = h.2.2.2 4 then (fun _ => 0) else _) = _
    rw [if_pos rfl]
  show Q none (sd_pr (sd_pr (sd_ri (sd_nw (sd_pi (sd_pr (sd_nw h 5) 3 s 2 (some (h.2.2.2 5))) 3 s 0 b) 4) 4 (h.2.2.2 4) (nb_new ((sd_nw (sd_pi (sd_pr (sd_nw h 5) 3 s 2 (some (h.2.2.2 5))) 3 s 0 b) 4).1 4 (h.2.2.2 4)) q)) 3 s 1 (some (h.2.2.2 4))) 3 s 3 (some p))
  rw [e]
  exact k
/-- the seventh-less SENDER: Player, Sender, its place in the row, the count -/
def dk_new (h : sd_H) (sn : Nat) (b q : Int32) : sd_H := sd_pi (sd_pr (sn_new (sd_nw (pl_new (sd_nw h 6) (h.2.2.2 6) (nI sn)) 3) (h.2.2.2 3) b q (h.2.2.2 6)) 9 0 sn (some (h.2.2.2 3))) 0 0 5 (nI (sn + 1))
/-- the counts that go with the senders -/
def SC (h : sd_H) (sn : Nat) : Prop := h.2.2.2 3 = sn ∧ h.2.2.2 4 = sn ∧ h.2.2.2 5 = sn ∧ h.2.2.2 6 = sn ∧ h.2.2.2 16 = sn ∧ h.2.2.2 17 = sn ∧ h.2.2.2 18 = sn ∧ h.2.2.2 0 = 1 ∧ h.2.2.2 1 = 1 ∧ h.2.2.2 2 = 1
theorem sp_sent (hN : SN h sn) (hC : SC h sn) (hlt : sn < 6 ∨ ∃ s, dk_find h (pk_4 h 8) 0 sn = some s) (hnew : sn < 6 → dk_find h (pk_4 h 8) 0 sn = none → sd_OK (dk_new h sn (pk_4 h 8) (pk_2 h 2))) (ky : ∀ s, dk_find h (pk_4 h 8) 0 sn = some s → Q (some (v_r 3 s)) h) (kn : sn < 6 → dk_find h (pk_4 h 8) 0 sn = none → Q (some (v_r 3 sn)) (dk_new h sn (pk_4 h 8) (pk_2 h 2))) : sd_E1 l y_X8_senderThatSent [v_r 0 0] h Q := by
  intro hok
  obtain ⟨s3, s4, s5, s6, s16, s17, s18, s0, s1, s2⟩ := hC
  have f0 : h.2.2.1 0 0 0 = some 0 := (hok 0 0 0 (by decide) (by omega)).1 rfl
  have f1 : h.2.2.1 0 0 1 = some 0 := (hok 0 0 1 (by decide) (by omega)).1 rfl
  have f3 : h.2.2.1 0 0 3 = some 0 := (hok 0 0 3 (by decide) (by omega)).1 rfl
  have fb : h.2.2.1 1 0 0 = some 0 := (hok 1 0 0 (by decide) (by omega)).1 rfl
  have hn6 := hN.2.1
  refine sd_e0 [34, 77] 60 (cd := cd_X8_senderThatSent) (by decide) rfl (Nat.le_of_ble_eq_true rfl) ?_
  show sd_E l y_X0_source [.inr (.inr (1, h.2.2.1 0 0 0))] h _
  rw [f0]
  refine (sp_source ?_).to hok
  refine (sp_with hN ?_).to hok
  cases hf : dk_find h (pk_4 h 8) 0 sn with
  | some s => exact ⟨fun n _ => ⟨hok, ky s hf⟩, fun c => (by cases c)⟩
  | none =>
    have hl6 : sn < 6 := by
      rcases hlt with q | ⟨s, q⟩
      · exact q
      · rw [hf] at q; cases q
    refine ⟨fun n c => (by cases c), fun _ => ?_⟩
    refine ⟨fun c => absurd c (by rw [hN.1]; exact nI_pos (by omega)), fun _ => ?_⟩
    refine ⟨fun _ => ?_, fun c => absurd (by rw [hN.1]; exact nI_lt (a := sn) (b := 6) hl6 (by decide)) c⟩
    refine sd_go [77] 60 (cd := cd_X8_senderThatSent) (by decide) rfl ?_
    refine ⟨by decide, ?_⟩
    show sd_E l y_X5_init [v_r 6 (h.2.2.2 6), .inr (.inr (2, h.2.2.1 0 0 1)), v_i (h.1 0 0 5)] (sd_nw h 6) _
    rw [f1, hN.1]
    refine sp_pinit ?_
    show sd_E l y_X0_source [.inr (.inr (1, h.2.2.1 0 0 0))] (sd_nw (pl_new (sd_nw h 6) (h.2.2.2 6) (nI sn)) 3) _
    rw [f0]
    refine sp_source0 fb ?_
    show sd_E l y_X0_number [.inr (.inr (1, h.2.2.1 0 0 0))] (sd_nw (pl_new (sd_nw h 6) (h.2.2.2 6) (nI sn)) 3) _
    rw [f0]
    refine sp_number0 fb ?_
    refine ⟨by decide, ?_⟩
    refine sp_sinit ?_
    show sd_Wq l none y_X8_senderThatSent false _ 77 _ [.inr (.inr (9, h.2.2.1 0 0 3))] (sn_new (sd_nw (pl_new (sd_nw h 6) (h.2.2.2 6) (nI sn)) 3) (h.2.2.2 3) (pk_4 h 8) (pk_2 h 2) (h.2.2.2 6)) _ _
    rw [f3]
    refine sd_go [] 60 (cd := cd_X8_senderThatSent) (by decide) rfl ?_
    refine ⟨sn, ⟨hl6, hN.1⟩, ?_⟩
    have e : sd_pi (sd_pr (sn_new (sd_nw (pl_new (sd_nw h 6) (h.2.2.2 6) (nI sn)) 3) (h.2.2.2 3) (pk_4 h 8) (pk_2 h 2) (h.2.2.2 6)) 9 0 sn (some (h.2.2.2 3))) 0 0 5 (h.1 0 0 5 + 1) = dk_new h sn (pk_4 h 8) (pk_2 h 2) := by
      unfold dk_new; rw [hN.1, nI_1]
    show sd_OK (sd_pi (sd_pr (sn_new (sd_nw (pl_new (sd_nw h 6) (h.2.2.2 6) (nI sn)) 3) (h.2.2.2 3) (pk_4 h 8) (pk_2 h 2) (h.2.2.2 6)) 9 0 sn (some (h.2.2.2 3))) 0 0 5 (h.1 0 0 5 + 1)) ∧ Q (some (v_r 3 (h.2.2.2 3))) (sd_pi (sd_pr (sn_new (sd_nw (pl_new (sd_nw h 6) (h.2.2.2 6) (nI sn)) 3) (h.2.2.2 3) (pk_4 h 8) (pk_2 h 2) (h.2.2.2 6)) 9 0 sn (some (h.2.2.2 3))) 0 0 5 (h.1 0 0 5 + 1))
    rw [e, s3]
    exact ⟨hnew hl6 hf, kn hl6 hf⟩
end MK
