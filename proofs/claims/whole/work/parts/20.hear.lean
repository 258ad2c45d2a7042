/-! StreamDesk: hear and its parts -/
def dk_clock (h : sd_H) (sn : Nat) (p : Int32) : sd_H := match dk_find h (pk_4 h (p + 4)) 0 sn with
  | none => h
  | some s => sn_clock h s (pk_4 h (p + 10)) (h.1 0 0 6)
def dk_blk (h : sd_H) (p hl : Int32) (k : Nat) : sd_H := if pk_4 h (p + hl + nI k * 24) = h.1 0 0 12 then dk_keep h (p + hl + nI k * 24) (pk_4 h (p + 4)) else h
def dk_blocks (p hl : Int32) : Nat → Nat → sd_H → sd_H
  | 0, _, h => h
  | n + 1, k, h => dk_blocks p hl n (k + 1) (dk_blk h p hl k)
def dk_lv (h : sd_H) (e sn : Nat) (p : Int32) (k : Nat) : sd_H × Nat := match dk_find h (pk_4 h (p + 4 + 4 * nI k)) 0 sn with
  | none => (h, e)
  | some s => (sn_leave h s e (h.1 0 0 6), if h.1 3 s 4 = 0 then e + 1 else e)
def dk_leave (sn : Nat) (p : Int32) : Nat → Nat → sd_H → Nat → sd_H × Nat
  | 0, _, h, e => (h, e)
  | n + 1, k, h, e => dk_leave sn p n (k + 1) (dk_lv h e sn p k).1 (dk_lv h e sn p k).2
def ct (x : Int32) : Nat := x.toNatClampNeg
theorem rf_ct_n (h : sd_H) (p : Int32) : rf_ct h p = nI (ct (rf_ct h p)) ∧ ct (rf_ct h p) < 32 := by
  obtain ⟨j, h1, h2⟩ := pk_andE (pk_b h p) (m := 31) 5 (by decide)
  have e : rf_ct h p = nI j := h2
  unfold ct
  rw [e, nI_clamp (by omega)]
  exact ⟨rfl, h1⟩
def dk_part (h : sd_H) (e sn : Nat) (p : Int32) : sd_H × Nat := if rf_so h p = 203 then dk_leave sn p (ct (rf_ct h p)) 0 h e else if rf_so h p = 200 then (dk_blocks p (rf_ll (rf_so h p) 0) (ct (rf_ct (dk_clock h sn p) p)) 0 (dk_clock h sn p), e) else if rf_so h p = 201 then (dk_blocks p (rf_ll (rf_so h p) 0) (ct (rf_ct h p)) 0 h, e) else (h, e)
def dk_hear (sn : Nat) : Nat → sd_H → Nat → Int32 → Nat × sd_H × Nat
  | 0, h, e, _ => (0, h, e)
  | n + 1, h, e, p => if pk_s h ≤ p then (n + 1, h, e) else dk_hear sn n (dk_part h e sn p).1 (dk_part h e sn p).2 (rf_en (dk_part h e sn p).1 p)
/-- what hearing leaves alone -/
def hfr (h h' : sd_H) : Prop := h'.2.2.1 = h.2.2.1 ∧ h'.1 0 = h.1 0 ∧ h'.1 1 = h.1 1 ∧ h'.1 11 = h.1 11
theorem hfr.rf (h : sd_H) : hfr h h := ⟨rfl, rfl, rfl, rfl⟩
theorem hfr.tr {a b c : sd_H} (x : hfr a b) (z : hfr b c) : hfr a c := ⟨z.1.trans x.1, z.2.1.trans x.2.1, z.2.2.1.trans x.2.2.1, z.2.2.2.trans x.2.2.2⟩
theorem hfr.SN {h h' : sd_H} {sn : Nat} (x : hfr h h') (hN : SN h sn) : SN h' sn := sd_SN_of hN (by rw [x.2.1]) x.1
theorem hfr_leave {h : sd_H} {s e : Nat} {nw : Int32} : hfr h (sn_leave h s e nw) := by
  unfold sn_leave
  split
  · exact ⟨rfl, rfl, rfl, rfl⟩
  · exact hfr.rf h
theorem sn_leave_e {h : sd_H} {s e : Nat} {nw : Int32} (he : h.1 2 0 4 = nI e) : (sn_leave h s e nw).1 2 0 4 = nI (if h.1 3 s 4 = 0 then e + 1 else e) := by
  unfold sn_leave
  split
  · rfl
  · exact he
theorem dk_lv_fr {h : sd_H} {e sn k : Nat} {p : Int32} (he : h.1 2 0 4 = nI e) : hfr h (dk_lv h e sn p k).1 ∧ (dk_lv h e sn p k).1.1 2 0 4 = nI (dk_lv h e sn p k).2 ∧ (dk_lv h e sn p k).2 ≤ e + 1 := by
  unfold dk_lv
  split
  · exact ⟨hfr.rf h, he, by show e ≤ e + 1; omega⟩
  · next s _ => exact ⟨hfr_leave, sn_leave_e he, by show (if h.1 3 s 4 = 0 then e + 1 else e) ≤ e + 1; split <;> omega⟩
theorem dk_leave_fr {sn : Nat} {p : Int32} : ∀ (n k : Nat) (h : sd_H) (e : Nat), h.1 2 0 4 = nI e → hfr h (dk_leave sn p n k h e).1 ∧ (dk_leave sn p n k h e).1.1 2 0 4 = nI (dk_leave sn p n k h e).2 ∧ (dk_leave sn p n k h e).2 ≤ e + n
  | 0, _, h, e, he => ⟨hfr.rf h, he, Nat.le_refl _⟩
  | n + 1, k, h, e, he => by
    obtain ⟨a1, a2, a3⟩ := dk_lv_fr (sn := sn) (k := k) (p := p) he
    obtain ⟨b1, b2, b3⟩ := dk_leave_fr (sn := sn) (p := p) n (k + 1) _ _ a2
    exact ⟨a1.tr b1, b2, by show (dk_leave sn p n (k + 1) (dk_lv h e sn p k).1 (dk_lv h e sn p k).2).2 ≤ e + (n + 1); omega⟩
theorem hfr_blk {h : sd_H} {p hl : Int32} {k : Nat} : hfr h (dk_blk h p hl k) ∧ (dk_blk h p hl k).1 2 = h.1 2 := by
  unfold dk_blk
  split
  · exact ⟨⟨rfl, rfl, rfl, rfl⟩, rfl⟩
  · exact ⟨hfr.rf h, rfl⟩
theorem hfr_blocks {p hl : Int32} : ∀ (n k : Nat) (h : sd_H), hfr h (dk_blocks p hl n k h) ∧ (dk_blocks p hl n k h).1 2 = h.1 2
  | 0, _, h => ⟨hfr.rf h, rfl⟩
  | n + 1, k, h => by
    obtain ⟨b1, b2⟩ := hfr_blocks (p := p) (hl := hl) n (k + 1) (dk_blk h p hl k)
    exact ⟨hfr_blk.1.tr b1, b2.trans hfr_blk.2⟩
theorem hfr_clock {h : sd_H} {sn : Nat} {p : Int32} : hfr h (dk_clock h sn p) ∧ (dk_clock h sn p).1 2 = h.1 2 := by
  unfold dk_clock
  split
  · exact ⟨hfr.rf h, rfl⟩
  · exact ⟨⟨rfl, rfl, rfl, rfl⟩, rfl⟩
theorem dk_part_fr {h : sd_H} {e sn : Nat} {p : Int32} (he : h.1 2 0 4 = nI e) : hfr h (dk_part h e sn p).1 ∧ (dk_part h e sn p).1.1 2 0 4 = nI (dk_part h e sn p).2 ∧ (dk_part h e sn p).2 ≤ e + 31 := by
  unfold dk_part
  split
  · obtain ⟨a1, a2, a3⟩ := dk_leave_fr (sn := sn) (p := p) (ct (rf_ct h p)) 0 h e he
    have := (rf_ct_n h p).2
    exact ⟨a1, a2, by omega⟩
  · split
    · have a := hfr_clock (h := h) (sn := sn) (p := p)
      have b := hfr_blocks (p := p) (hl := rf_ll (rf_so h p) 0) (ct (rf_ct (dk_clock h sn p) p)) 0 (dk_clock h sn p)
      exact ⟨a.1.tr b.1, by show (dk_blocks _ _ _ _ _).1 2 0 4 = _; rw [b.2, a.2]; exact he, Nat.le_add_right _ _⟩
    · split
      · have b := hfr_blocks (p := p) (hl := rf_ll (rf_so h p) 0) (ct (rf_ct h p)) 0 h
        exact ⟨b.1, by show (dk_blocks _ _ _ _ _).1 2 0 4 = _; rw [b.2]; exact he, Nat.le_add_right _ _⟩
      · exact ⟨hfr.rf h, he, Nat.le_add_right _ _⟩
section HE
variable {l : Launch} {Q : Option sd_V → sd_H → Prop} {sn : Nat} {h : sd_H}
theorem sp_hearClock {p : Int32} (hN : SN h sn) (k : Q none (dk_clock h sn p)) : sd_E1 l y_X8_hearClock [v_r 0 0, v_i p] h Q := by
  refine sd_e1 [] 80 (cd := cd_X8_hearClock) (by decide) rfl (Nat.le_of_ble_eq_true rfl) ?_
  refine sp_wordAt ?_
  refine sp_with hN ?_
  unfold dk_clock at k
  cases hf : dk_find h (pk_4 h (p + 4)) 0 sn with
  | none =>
    rw [hf] at k
    exact ⟨fun _ => k, fun n c => (by cases c)⟩
  | some s =>
    rw [hf] at k
    refine ⟨fun c => (by cases c), fun n _ => ?_⟩
    refine sp_wordAt ?_
    exact sp_keepClock k
theorem sq_blocks {p hl : Int32} {m : Nat} (hm : m < 32) : ∀ (n : Nat) (h : sd_H) (j5 : Option sd_V), n ≤ m → Q none (dk_blocks p hl n (m - n) h) → sd_Wq l none y_X8_hearBlocks true Q 12 [some (v_r 0 0), some (v_i p), some (v_i hl), some (v_i (nI m)), some (v_i (nI (m - n))), j5] [] h 0 0
  | 0, h, j5, hn, k => by
    refine sd_go [12] 80 (cd := cd_X8_hearBlocks) (by decide) rfl ?_
    exact ⟨fun _ => k, fun c => absurd (nI_le (Nat.le_refl m) (by omega)) c⟩
  | n + 1, h, j5, hn, k => by
    refine sd_go [12] 80 (cd := cd_X8_hearBlocks) (by decide) rfl ?_
    refine ⟨fun c => absurd c ?_, fun _ => ?_⟩
    · exact Int32.not_le.mpr (nI_lt (a := m - (n + 1)) (b := m) (by omega) (by omega))
    have ei : nI (m - (n + 1)) + 1 = nI (m - n) := by rw [nI_1, show m - (n + 1) + 1 = m - n by omega]
    unfold dk_blocks at k
    rw [show m - (n + 1) + 1 = m - n by omega] at k
    refine sp_wordAt ?_
    unfold dk_blk at k
    refine ⟨fun (c1 : ¬ pk_4 h (p + hl + nI (m - (n + 1)) * 24) = h.1 0 0 12) => ?_, fun (c1 : pk_4 h (p + hl + nI (m - (n + 1)) * 24) = h.1 0 0 12) => ?_⟩
    · rw [if_neg c1] at k
      show sd_Wq l none y_X8_hearBlocks true Q 12 [some (v_r 0 0), some (v_i p), some (v_i hl), some (v_i (nI m)), some (v_i (nI (m - (n + 1)) + 1)), _] [] h 0 0
      rw [ei]
      exact sq_blocks hm n h _ (by omega) k
    · rw [if_pos c1] at k
      refine sp_wordAt ?_
      refine sp_keepBlock ?_
      show sd_Wq l none y_X8_hearBlocks true Q 12 [some (v_r 0 0), some (v_i p), some (v_i hl), some (v_i (nI m)), some (v_i (nI (m - (n + 1)) + 1)), _] [] (dk_keep h (p + hl + nI (m - (n + 1)) * 24) (pk_4 h (p + 4))) 0 0
      rw [ei]
      exact sq_blocks hm n _ _ (by omega) k
theorem sp_hearBlocks {p hl : Int32} (k : Q none (dk_blocks p hl (ct (rf_ct h p)) 0 h)) : sd_E1 l y_X8_hearBlocks [v_r 0 0, v_i p, v_i hl] h Q := by
  refine sd_e1 [12] 80 (cd := cd_X8_hearBlocks) (by decide) rfl (Nat.le_of_ble_eq_true rfl) ?_
  refine sp_counted ?_
  obtain ⟨e1, e2⟩ := rf_ct_n h p
  have w := sq_blocks (l := l) (Q := Q) (p := p) (hl := hl) e2 (ct (rf_ct h p)) h none (Nat.le_refl _) (by rw [Nat.sub_self]; exact k)
  rw [Nat.sub_self, ← e1] at w
  exact w
set_option maxRecDepth 100000 in
theorem sq_leave {p : Int32} {m : Nat} (hm : m < 32) : ∀ (n : Nat) (h : sd_H) (e : Nat) (j4 : Option sd_V), n ≤ m → SN h sn → h.1 2 0 4 = nI e → e + n < 2 ^ 31 → Q none (dk_leave sn p n (m - n) h e).1 → sd_Wq l none y_X8_hearLeaving true Q 11 [some (v_r 0 0), some (v_i p), some (v_i (nI m)), some (v_i (nI (m - n))), j4] [] h 0 0
  | 0, h, e, j4, hn, hN, he, hb, k => by
    refine sd_go [11] 80 (cd := cd_X8_hearLeaving) (by decide) rfl ?_
    exact ⟨fun _ => k, fun c => absurd (nI_le (Nat.le_refl m) (by omega)) c⟩
  | n + 1, h, e, j4, hn, hN, he, hb, k => by
    refine sd_go [11] 80 (cd := cd_X8_hearLeaving) (by decide) rfl ?_
    refine ⟨fun c => absurd c ?_, fun _ => ?_⟩
    · exact Int32.not_le.mpr (nI_lt (a := m - (n + 1)) (b := m) (by omega) (by omega))
    have ei : nI (m - (n + 1)) + 1 = nI (m - n) := by rw [nI_1, show m - (n + 1) + 1 = m - n by omega]
    have fr := dk_lv_fr (sn := sn) (k := m - (n + 1)) (p := p) he
    unfold dk_leave at k
    rw [show m - (n + 1) + 1 = m - n by omega] at k
    refine sp_wordAt ?_
    refine sp_with hN ?_
    unfold dk_lv at k fr
    cases hf : dk_find h (pk_4 h (p + 4 + 4 * nI (m - (n + 1)))) 0 sn with
    | none =>
      rw [hf] at k fr
      refine ⟨fun _ => ?_, fun n c => (by cases c)⟩
      show sd_Wq l none y_X8_hearLeaving true Q 11 [some (v_r 0 0), some (v_i p), some (v_i (nI m)), some (v_i (nI (m - (n + 1)) + 1)), _] [] h 0 0
      rw [ei]
      exact sq_leave hm n h e _ (by omega) hN he (by omega) k
    | some s =>
      rw [hf] at k fr
      refine ⟨fun c => (by cases c), fun n' _ => ?_⟩
      refine sp_leave he (by omega) ?_
      show sd_Wq l none y_X8_hearLeaving true Q 11 [some (v_r 0 0), some (v_i p), some (v_i (nI m)), some (v_i (nI (m - (n + 1)) + 1)), _] [] (sn_leave h s e (h.1 0 0 6)) 0 0
      rw [ei]
      exact sq_leave hm n _ _ _ (by omega) (fr.1.SN hN) fr.2.1 (by have := fr.2.2; dsimp only at this ⊢; omega) k
theorem sp_hearLeaving {p : Int32} {e : Nat} (hN : SN h sn) (he : h.1 2 0 4 = nI e) (hb : e + 32 < 2 ^ 31) (k : Q none (dk_leave sn p (ct (rf_ct h p)) 0 h e).1) : sd_E1 l y_X8_hearLeaving [v_r 0 0, v_i p] h Q := by
  refine sd_e1 [11] 80 (cd := cd_X8_hearLeaving) (by decide) rfl (Nat.le_of_ble_eq_true rfl) ?_
  refine sp_counted ?_
  obtain ⟨e1, e2⟩ := rf_ct_n h p
  have w := sq_leave (l := l) (Q := Q) (sn := sn) (p := p) e2 (ct (rf_ct h p)) h e none (Nat.le_refl _) hN he (by omega) (by rw [Nat.sub_self]; exact k)
  rw [Nat.sub_self, ← e1] at w
  exact w
theorem sp_hearPart {p : Int32} {e : Nat} (hN : SN h sn) (he : h.1 2 0 4 = nI e) (hb : e + 32 < 2 ^ 31) (k : Q none (dk_part h e sn p).1) : sd_E1 l y_X8_hearPart [v_r 0 0, v_i p] h Q := by
  refine sd_e1 [] 80 (cd := cd_X8_hearPart) (by decide) rfl (Nat.le_of_ble_eq_true rfl) ?_
  refine sp_rsort ?_
  unfold dk_part at k
  refine ⟨fun c1 => ?_, fun c1 => ?_⟩
  rotate_left
  · rw [if_pos c1] at k
    exact sp_hearLeaving hN he hb k
  rw [if_neg c1] at k
  refine ⟨fun c2 => ?_, fun c2 => ?_⟩
  · rw [if_neg c2] at k
    refine ⟨fun c3 => absurd c3 c2, fun _ => ?_⟩
    refine ⟨fun c4 => ?_, fun c4 => ?_⟩
    · rw [if_neg c4] at k; exact k
    · rw [if_pos c4] at k
      refine sp_leastLength ?_
      exact sp_hearBlocks k
  · rw [if_pos c2] at k
    refine sp_hearClock hN ?_
    refine ⟨fun _ => ?_, fun c3 => absurd c2 c3⟩
    refine sp_leastLength ?_
    exact sp_hearBlocks k
set_option maxRecDepth 100000 in
theorem sq_hear {f0 : Int32} : ∀ (n : Nat) (h : sd_H) (e : Nat) (p : Int32), n ≤ 75 → SN h sn → h.1 2 0 4 = nI e → e + 32 * (n + 1) < 2 ^ 31 → Q (some (v_i (nI (75 - (dk_hear sn n h e p).1)))) (sd_pi (dk_hear sn n h e p).2.1 0 0 11 ((dk_hear sn n h e p).2.1.1 0 0 11 + 1)) → sd_Wq l none y_X8_hear true Q 21 [some (v_r 0 0), some (v_i f0), some (v_i (nI (75 - n))), some (v_i p)] [] h 0 0
  | 0, h, e, p, hn, hN, he, hb, k => by
    refine sd_go [21] 80 (cd := cd_X8_hear) (by decide) rfl ?_
    exact ⟨fun _ => k, fun c => absurd (show (75 : Int32) ≤ nI 75 by decide) c⟩
  | n + 1, h, e, p, hn, hN, he, hb, k => by
    refine sd_go [21] 80 (cd := cd_X8_hear) (by decide) rfl ?_
    refine ⟨fun c => absurd c ?_, fun _ => ?_⟩
    · exact Int32.not_le.mpr (nI_lt (a := 75 - (n + 1)) (b := 75) (by omega) (by decide))
    unfold dk_hear at k
    refine ⟨fun (c1 : pk_s h ≤ p) => ?_, fun (c1 : ¬ pk_s h ≤ p) => ?_⟩
    · rw [if_pos c1] at k; exact k
    rw [if_neg c1] at k
    obtain ⟨a1, a2, a3⟩ := dk_part_fr (sn := sn) (p := p) he
    refine sp_hearPart hN he (by omega) ?_
    refine sp_end ?_
    show sd_Wq l none y_X8_hear true Q 21 [some (v_r 0 0), some (v_i f0), some (v_i (nI (75 - (n + 1)) + 1)), some (v_i (rf_en (dk_part h e sn p).1 p))] [] (dk_part h e sn p).1 0 0
    rw [nI_1, show 75 - (n + 1) + 1 = 75 - n by omega]
    exact sq_hear n _ _ _ (by omega) (a1.SN hN) a2 (by omega) k
theorem sp_hear {e : Nat} (hN : SN h sn) (he : h.1 2 0 4 = nI e) (hb : e + 3000 < 2 ^ 31) (kn : ¬ rf_fault h = 0 → Q (some (v_i (-10 - rf_fault h))) h) (ky : rf_fault h = 0 → Q (some (v_i (nI (75 - (dk_hear sn 75 h e 0).1)))) (sd_pi (dk_hear sn 75 h e 0).2.1 0 0 11 ((dk_hear sn 75 h e 0).2.1.1 0 0 11 + 1))) : sd_E1 l y_X8_hear [v_r 0 0] h Q := by
  refine sd_e1 [21] 80 (cd := cd_X8_hear) (by decide) rfl (Nat.le_of_ble_eq_true rfl) ?_
  refine sp_rfault ?_
  refine ⟨fun c1 => ?_, fun c1 => kn c1⟩
  exact sq_hear 75 h e 0 (Nat.le_refl _) hN he (by omega) (ky c1)
end HE
