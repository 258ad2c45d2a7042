/-! StreamDesk: pass, keepBlock, hearClock, hearBlocks, hearLeaving, hearPart, hear -/
theorem sd_SN_of {h h' : sd_H} {sn : Nat} (hN : SN h sn) (e1 : h'.1 0 0 5 = h.1 0 0 5) (e2 : h'.2.2.1 = h.2.2.1) : SN h' sn := ⟨e1.trans hN.1, hN.2.1, fun s hs => by rw [e2]; exact hN.2.2 s hs⟩
/-- what playing leaves alone: all references and counts, all of the tags that aren't the log's, a player's or its rows' -/
def pfr (h h' : sd_H) : Prop := h'.2.2 = h.2.2 ∧ ∀ T, T ≠ 2 → T ≠ 6 → T ≠ 12 → T ≠ 13 → T ≠ 15 → T ≠ 16 → T ≠ 18 → h'.1 T = h.1 T
theorem pfr.rf (h : sd_H) : pfr h h := ⟨rfl, fun _ _ _ _ _ _ _ _ => rfl⟩
theorem pfr.tr {a b c : sd_H} (x : pfr a b) (z : pfr b c) : pfr a c := ⟨z.1.trans x.1, fun T h1 h2 h3 h4 h5 h6 h7 => (z.2 T h1 h2 h3 h4 h5 h6 h7).trans (x.2 T h1 h2 h3 h4 h5 h6 h7)⟩
theorem sd_pi_T {h : sd_H} {T k i : Nat} {v : Int32} {T' : Nat} (hn : T' ≠ T) : (sd_pi h T k i v).1 T' = h.1 T' := by
  unfold sd_pi; dsimp only; rw [if_neg hn]
theorem sd_ri_T {h : sd_H} {T k : Nat} {g : Nat → Int32} {T' : Nat} (hn : T' ≠ T) : (sd_ri h T k g).1 T' = h.1 T' := by
  unfold sd_ri; dsimp only; rw [if_neg hn]
theorem pfr_note {h : sd_H} {s e c : Nat} {n : Int64} {nw : Int32} : pfr h (pl_note h s e c n nw) := by
  refine ⟨rfl, fun T h1 h2 h3 h4 h5 h6 h7 => ?_⟩
  unfold pl_note ev_add
  rw [sd_pi_T h1, sd_pi_T h5]
  show (sd_pi (sd_pi (sd_pi h 16 s c (h.1 16 s c + 1)) 12 0 (e % 64) (nI c)) 13 0 (e % 64) (h.1 6 s 1)).1 T = h.1 T
  rw [sd_pi_T h4, sd_pi_T h3, sd_pi_T h6]
theorem pfr_step {h : sd_H} {s e c : Nat} {nw : Int32} : pfr h (pl_step h s e c nw) := by
  have a1 : pfr h (sd_pi (sd_pi h 6 s 5 (h.1 6 s 5 - if h.1 18 s (sl (h.2.1 6 s 6)) = 0 then 0 else 1)) 18 s (sl (h.2.1 6 s 6)) 0) := by
    refine ⟨rfl, fun T h1 h2 h3 h4 h5 h6 h7 => ?_⟩
    rw [sd_pi_T h7, sd_pi_T h2]
  have a2 := pfr.tr a1 (pfr_note (s := s) (e := e) (c := c) (n := h.2.1 6 s 6) (nw := nw))
  exact ⟨a2.1, a2.2⟩
theorem pfr_steps {s : Nat} {nw : Int32} : ∀ (n : Nat) (h : sd_H) (e : Nat), pfr h (pl_steps s nw n h e)
  | 0, h, _ => pfr.rf h
  | n + 1, h, e => pfr.tr pfr_step (pfr_steps n (pl_step h s e 2 nw) (e + 1))
theorem pfr_turn {h : sd_H} {s e g : Nat} {nw : Int32} : pfr h (pl_turn h s e nw g) := pfr.tr (pfr_steps g h e) pfr_step
theorem pfr_play {s : Nat} {nw : Int32} : ∀ (n : Nat) (h : sd_H) (e : Nat) (d : Int32), pfr h (pl_play s nw n h e d).2.1
  | 0, h, _, _ => pfr.rf h
  | n + 1, h, e, d => by
    unfold pl_play
    split
    · exact pfr.rf h
    · split
      · exact pfr.rf h
      · exact pfr.tr pfr_turn (pfr_play n _ _ _)
theorem pl_play_e {s : Nat} {nw : Int32} : ∀ (n : Nat) (h : sd_H) (e : Nat) (d : Int32), h.1 2 0 4 = nI e → (pl_play s nw n h e d).2.1.1 2 0 4 = nI (pl_play s nw n h e d).2.2 ∧ e ≤ (pl_play s nw n h e d).2.2 ∧ (pl_play s nw n h e d).2.2 ≤ e + 33 * n
  | 0, h, e, d, he => ⟨he, Nat.le_refl _, Nat.le_refl _⟩
  | n + 1, h, e, d, he => by
    unfold pl_play
    split
    · exact ⟨he, Nat.le_refl _, Nat.le_add_right _ _⟩
    · split
      · exact ⟨he, Nat.le_refl _, Nat.le_add_right _ _⟩
      · have hg := pl_gap_le (h := h) (s := s) (nw := nw) 32 (Nat.le_refl _)
        obtain ⟨a1, a2, a3⟩ := pl_play_e (s := s) (nw := nw) n (pl_turn h s e nw (pl_gap h s nw 32)) (e + pl_gap h s nw 32 + 1) (d + (nI (pl_gap h s nw 32) + 1)) pl_step_e
        exact ⟨a1, by omega, by omega⟩
/-- all senders from i on play -/
def dk_pass (nw : Int32) : Nat → Nat → sd_H → Nat → Int32 → Int32 × sd_H × Nat
  | _, 0, h, e, d => (d, h, e)
  | i, n + 1, h, e, d => dk_pass nw (i + 1) n (pl_play i nw 32 h e 0).2.1 (pl_play i nw 32 h e 0).2.2 (d + (pl_play i nw 32 h e 0).1)
section D2
variable {l : Launch} {Q : Option sd_V → sd_H → Prop} {sn : Nat}
set_option maxRecDepth 100000 in
theorem sq_pass {ms nw : Int32} : ∀ (n : Nat) (h : sd_H) (e : Nat) (d : Int32) (j4 : Option sd_V), n ≤ 6 → SN h sn → h.1 0 0 6 = nw → h.1 2 0 4 = nI e → e + 2000 * (n + 1) < 2 ^ 31 → Q (some (v_i (dk_pass nw (6 - n) (sn - (6 - n)) h e d).1)) (dk_pass nw (6 - n) (sn - (6 - n)) h e d).2.1 → sd_Wq l none y_X8_pass true Q 42 [some (v_r 0 0), some (v_i ms), some (v_i d), some (v_i (nI (6 - n))), j4] [] h 0 0
  | 0, h, e, d, j4, hn, hN, hnw, he, hb, k => by
    refine sd_go [42] 60 (cd := cd_X8_pass) (by decide) rfl ?_
    refine ⟨fun _ => ?_, fun c => absurd (show (6 : Int32) ≤ nI 6 by decide) c⟩
    have e0 : sn - (6 - 0) = 0 := by have := hN.2.1; omega
    rw [e0] at k
    exact k
  | n + 1, h, e, d, j4, hn, hN, hnw, he, hb, k => by
    refine sd_go [42] 60 (cd := cd_X8_pass) (by decide) rfl ?_
    refine ⟨fun c => absurd c ?_, fun _ => ?_⟩
    · exact Int32.not_le.mpr (nI_lt (a := 6 - (n + 1)) (b := 6) (by omega) (by decide))
    have ei : nI (6 - (n + 1)) + 1 = nI (6 - n) := by rw [nI_1, show 6 - (n + 1) + 1 = 6 - n by omega]
    refine sp_num hN (fun c => ?_) (fun s hs es => ?_)
    · have hge : sn ≤ 6 - (n + 1) := by
        rcases c with c | c
        · exact absurd c (nI_pos (by omega))
        · exact (nI_leI (by have := hN.2.1; omega) (by omega)).mp c
      have e1 : sn - (6 - (n + 1)) = 0 := by omega
      have e2 : sn - (6 - n) = 0 := by omega
      rw [e1] at k
      refine ⟨fun _ => ?_, fun n' c => by cases c⟩
      show sd_Wq l none y_X8_pass true Q 42 [some (v_r 0 0), some (v_i ms), some (v_i d), some (v_i (nI (6 - (n + 1)) + 1)), _] [] h 0 0
      rw [ei]
      refine sq_pass n h e d _ (by omega) hN hnw he (by omega) ?_
      rw [e2]; exact k
    · have es' : 6 - (n + 1) = s := (nI_eq (by omega) (by have := hN.2.1; omega)).mp es
      have e1 : sn - (6 - (n + 1)) = (sn - (6 - n)) + 1 := by omega
      rw [e1] at k
      unfold dk_pass at k
      rw [es'] at k
      refine ⟨fun c => (by cases c), fun n' _ => ?_⟩
      show sd_E1 l y_X5_playDue [v_r 6 s, v_i (h.1 0 0 6)] h _
      rw [hnw]
      refine sp_play he (by omega) ?_
      obtain ⟨p1, p2, p3⟩ := pl_play_e (s := s) (nw := nw) 32 h e 0 he
      have pf := pfr_play (s := s) (nw := nw) 32 h e 0
      show sd_Wq l none y_X8_pass true Q 42 [some (v_r 0 0), some (v_i ms), some (v_i (d + (pl_play s nw 32 h e 0).1)), some (v_i (nI (6 - (n + 1)) + 1)), _] [] (pl_play s nw 32 h e 0).2.1 0 0
      rw [ei]
      have pT := fun T h1 h2 h3 h4 h5 h6 h7 => congrFun (congrFun (pf.2 T h1 h2 h3 h4 h5 h6 h7) 0)
      refine sq_pass n _ (pl_play s nw 32 h e 0).2.2 _ _ (by omega) (sd_SN_of hN (pT 0 (by decide) (by decide) (by decide) (by decide) (by decide) (by decide) (by decide) 5) (congrArg Prod.fst pf.1)) ((pT 0 (by decide) (by decide) (by decide) (by decide) (by decide) (by decide) (by decide) 6).trans hnw) p1 (by omega) ?_
      rw [show s + 1 = 6 - n by omega] at k
      exact k
variable {h : sd_H}
theorem sp_pass {ms : Int32} {e nw : Nat} (hN : SN h sn) (hnw : h.1 0 0 6 = nI nw) (hnb : nw ≤ 100000000) (he : h.1 2 0 4 = nI e) (hb : e + 20000 < 2 ^ 31) (kb : (ms < 0 ∨ 10000 < ms) → Q (some (v_i (-2))) h) (kf : ∀ m : Nat, m ≤ 10000 → ms = nI m → 100000000 < nw + m → Q (some (v_i (-3))) h)
    (ky : ∀ m : Nat, m ≤ 10000 → ms = nI m → nw + m ≤ 100000000 → Q (some (v_i (dk_pass (nI (nw + m)) 0 sn (sd_pi h 0 0 6 (nI (nw + m))) e 0).1)) (dk_pass (nI (nw + m)) 0 sn (sd_pi h 0 0 6 (nI (nw + m))) e 0).2.1) : sd_E1 l y_X8_pass [v_r 0 0, v_i ms] h Q := by
  refine sd_e1 [42] 60 (cd := cd_X8_pass) (by decide) rfl (Nat.le_of_ble_eq_true rfl) ?_
  refine ⟨fun c1 => kb (Or.inl c1), fun c1 => ?_⟩
  refine ⟨fun c2 => ?_, fun c2 => kb (Or.inr (i_nle c2))⟩
  obtain ⟨m, hm, rfl⟩ := nI_of2 (M := 10000) (n := 10000) rfl c1 c2
  have es : h.1 0 0 6 + nI m = nI (nw + m) := by rw [hnw, nI_add]
  refine ⟨fun c3 => ?_, fun c3 => ?_⟩
  · rw [es] at c3
    have c3 := (nI_leI (a := nw + m) (b := 100000000) (by omega) (by decide)).mp c3
    show sd_Wq l none y_X8_pass true Q 42 [some (v_r 0 0), some (v_i (nI m)), some (v_i 0), some (v_i 0), none] [] (sd_pi h 0 0 6 (h.1 0 0 6 + nI m)) 0 0
    rw [es]
    exact sq_pass 6 _ e 0 _ (Nat.le_refl _) hN rfl he (by omega) (ky m hm rfl c3)
  · rw [es] at c3
    have c3 : ¬ nw + m ≤ 100000000 := fun q => c3 ((nI_leI (a := nw + m) (b := 100000000) (by omega) (by decide)).mpr q)
    exact kf m hm rfl (by omega)
def dk_keep (h : sd_H) (b w : Int32) : sd_H := sd_pi (sd_pi (sd_pi (sd_pi (sd_pi (sd_pi (sd_pi h 10 0 0 (pk_b h (b + 4))) 10 0 1 (pk_4 h (b + 4) <<< 8 >>> 8)) 10 0 2 (pk_4 h (b + 8))) 10 0 3 (pk_4 h (b + 12))) 10 0 4 (pk_4 h (b + 16))) 10 0 5 (pk_4 h (b + 20))) 10 0 6 w
theorem sp_keepBlock {b w : Int32} (k : Q none (dk_keep h b w)) : sd_E1 l y_X8_keepBlock [v_r 0 0, v_i b, v_i w] h Q := by
  refine sd_e1 [] 80 (cd := cd_X8_keepBlock) (by decide) rfl (Nat.le_of_ble_eq_true rfl) ?_
  refine sp_byteAt ?_
  refine ⟨0, ⟨by decide, rfl⟩, ?_⟩
  refine sp_wordAt ?_
  refine ⟨1, ⟨by decide, rfl⟩, ?_⟩
  refine sp_wordAt ?_
  refine ⟨2, ⟨by decide, rfl⟩, ?_⟩
  refine sp_wordAt ?_
  refine ⟨3, ⟨by decide, rfl⟩, ?_⟩
  refine sp_wordAt ?_
  refine ⟨4, ⟨by decide, rfl⟩, ?_⟩
  refine sp_wordAt ?_
  refine ⟨5, ⟨by decide, rfl⟩, ?_⟩
  refine ⟨6, ⟨by decide, rfl⟩, ?_⟩
  exact k
end D2
