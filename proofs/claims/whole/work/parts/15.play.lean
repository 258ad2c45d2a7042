/-! Player.playDue -/
def pl_steps (s : Nat) (nw : Int32) : Nat → sd_H → Nat → sd_H
  | 0, h, _ => h
  | n + 1, h, e => pl_steps s nw n (pl_step h s e 2 nw) (e + 1)
def pl_turn (h : sd_H) (s e : Nat) (nw : Int32) (g : Nat) : sd_H := pl_step (pl_steps s nw g h e) s (e + g) 1 nw
def pl_play (s : Nat) (nw : Int32) : Nat → sd_H → Nat → Int32 → Int32 × sd_H × Nat
  | 0, h, e, d => (d, h, e)
  | n + 1, h, e, d => if h.1 6 s 5 ≤ 0 then (d, h, e) else if pl_gap h s nw 32 = 32 then (d, h, e) else pl_play s nw n (pl_turn h s e nw (pl_gap h s nw 32)) (e + pl_gap h s nw 32 + 1) (d + (nI (pl_gap h s nw 32) + 1))
theorem pl_step_e {h : sd_H} {s e c : Nat} {nw : Int32} : (pl_step h s e c nw).1 2 0 4 = nI (e + 1) := rfl
theorem pl_steps_e {s : Nat} {nw : Int32} : ∀ (n : Nat) (h : sd_H) (e : Nat), h.1 2 0 4 = nI e → (pl_steps s nw n h e).1 2 0 4 = nI (e + n)
  | 0, _, _, he => he
  | n + 1, h, e, he => by
    have := pl_steps_e (s := s) (nw := nw) n (pl_step h s e 2 nw) (e + 1) pl_step_e
    rw [show e + (n + 1) = e + 1 + n by omega]
    exact this
theorem pl_gap_le {h : sd_H} {s : Nat} {nw : Int32} : ∀ n, n ≤ 32 → pl_gap h s nw n ≤ 32
  | 0, _ => Nat.le_refl _
  | n + 1, hn => by
    unfold pl_gap
    split
    · exact pl_gap_le n (by omega)
    · split
      · exact pl_gap_le n (by omega)
      · omega
section PY
variable {l : Launch} {Q : Option sd_V → sd_H → Prop} {s : Nat} {nw : Int32}
theorem sq_lose {g : Nat} (hg : g < 32) {d t : Int32} : ∀ (m : Nat) (h : sd_H) (e : Nat), m ≤ g → h.1 2 0 4 = nI e → e + m < 2 ^ 31 → sd_Wq l none y_X5_playDue true Q 56 [some (v_r 6 s), some (v_i nw), some (v_i d), some (v_i t), some (v_i (nI g)), some (v_i (nI g))] [] (pl_steps s nw m h e) 0 0 → sd_Wq l none y_X5_playDue true Q 37 [some (v_r 6 s), some (v_i nw), some (v_i d), some (v_i t), some (v_i (nI g)), some (v_i (nI (g - m)))] [] h 0 0
  | 0, h, e, hm, he, hb, k => by
    refine sd_go [4, 37, 56] 40 (cd := cd_X5_playDue) (by decide) rfl ?_
    exact ⟨fun _ => k, fun c => absurd (nI_le (Nat.le_refl g) (by omega)) c⟩
  | m + 1, h, e, hm, he, hb, k => by
    refine sd_go [4, 37, 56] 40 (cd := cd_X5_playDue) (by decide) rfl ?_
    refine ⟨fun c => absurd c ?_, fun _ => ?_⟩
    · exact Int32.not_le.mpr (nI_lt (a := g - (m + 1)) (b := g) (by omega) (by omega))
    refine sp_step (e := e) (c := 2) (by decide) he (by omega) ?_
    show sd_Wq l none y_X5_playDue true Q 37 [some (v_r 6 s), some (v_i nw), some (v_i d), some (v_i t), some (v_i (nI g)), some (v_i (nI (g - (m + 1)) + 1))] [] (pl_step h s e 2 nw) 0 0
    rw [nI_1, show g - (m + 1) + 1 = g - m by omega]
    exact sq_lose hg m (pl_step h s e 2 nw) (e + 1) (by omega) pl_step_e (by omega) k
theorem sq_play : ∀ (n : Nat) (h : sd_H) (e : Nat) (d : Int32) (j4 j5 : Option sd_V), n ≤ 32 → h.1 2 0 4 = nI e → e + 33 * n < 2 ^ 31 → Q (some (v_i (pl_play s nw n h e d).1)) (pl_play s nw n h e d).2.1 → sd_Wq l none y_X5_playDue true Q 4 [some (v_r 6 s), some (v_i nw), some (v_i d), some (v_i (nI (32 - n))), j4, j5] [] h 0 0
  | 0, h, e, d, j4, j5, hn, he, hb, k => by
    refine sd_go [4, 37, 56] 40 (cd := cd_X5_playDue) (by decide) rfl ?_
    exact ⟨fun _ => k, fun c => absurd (show (32 : Int32) ≤ nI 32 by decide) c⟩
  | n + 1, h, e, d, j4, j5, hn, he, hb, k => by
    refine sd_go [4, 37, 56] 40 (cd := cd_X5_playDue) (by decide) rfl ?_
    refine ⟨fun c => absurd c ?_, fun _ => ?_⟩
    · exact Int32.not_le.mpr (nI_lt (a := 32 - (n + 1)) (b := 32) (by omega) (by decide))
    unfold pl_play at k
    refine ⟨fun c1 => ?_, fun c1 => ?_⟩
    · rw [if_pos c1] at k; exact k
    rw [if_neg c1] at k
    refine sp_gap ?_
    have hg := pl_gap_le (h := h) (s := s) (nw := nw) 32 (Nat.le_refl _)
    generalize pl_gap h s nw 32 = g at k hg ⊢
    refine ⟨fun c2 => ?_, fun c2 => ?_⟩
    · have c2' : ¬ g = 32 := fun q => c2 (by rw [q]; rfl)
      rw [if_neg c2'] at k
      have hg2 : g < 32 := by omega
      have w := sq_lose (l := l) (Q := Q) (s := s) (nw := nw) (g := g) hg2 (d := d) (t := nI (32 - (n + 1))) g h e (Nat.le_refl _) he (by omega) ?_
      · rw [Nat.sub_self] at w
        exact w
      refine sd_go [4, 37] 40 (cd := cd_X5_playDue) (by decide) rfl ?_
      refine sp_step (e := e + g) (c := 1) (by decide) (pl_steps_e g h e he) (by omega) ?_
      show sd_Wq l none y_X5_playDue true Q 4 [some (v_r 6 s), some (v_i nw), some (v_i (d + (nI g + 1))), some (v_i (nI (32 - (n + 1)) + 1)), some (v_i (nI g)), some (v_i (nI g))] [] (pl_turn h s e nw g) 0 0
      rw [nI_1 (32 - (n + 1)), show 32 - (n + 1) + 1 = 32 - n by omega]
      exact sq_play n (pl_turn h s e nw g) (e + g + 1) _ _ _ (by omega) pl_step_e (by omega) k
    · have c2' : g = 32 := by
        have := (nI_eq (a := g) (b := 32) (by omega) (by decide)).mp c2
        exact this
      rw [if_pos c2'] at k
      exact k
theorem sp_play {h : sd_H} {e : Nat} (he : h.1 2 0 4 = nI e) (hb : e + 2000 < 2 ^ 31) (k : Q (some (v_i (pl_play s nw 32 h e 0).1)) (pl_play s nw 32 h e 0).2.1) : sd_E1 l y_X5_playDue [v_r 6 s, v_i nw] h Q := by
  refine sd_e1 [4, 37, 56] 60 (cd := cd_X5_playDue) (by decide) rfl (Nat.le_of_ble_eq_true rfl) ?_
  exact sq_play 32 h e 0 _ _ (Nat.le_refl _) he (by omega) k
end PY
