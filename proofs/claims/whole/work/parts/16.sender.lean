/-! Sender (tag 3: 0 bytes, 4 left, 5 hasClock, 6 clockMiddle, 7 clockNow) and the reads of StreamDesk (tag 0) -/
def evn (h : sd_H) : Nat := (h.1 2 0 4).toNatClampNeg
theorem evn_of {h : sd_H} {e : Nat} (he : h.1 2 0 4 = nI e) (hb : e < 2 ^ 31) : evn h = e := by unfold evn; rw [he]; exact nI_clamp hb
def sn_r1 (h : sd_H) (s : Nat) (q st rt nw : Int32) : sd_H := sd_ri (sd_ri h 4 s (nb_j (h.1 4 s) q).2) 5 s (jt_f (h.1 5 s) ((nw.toInt64 * rt.toInt64 / 1000).toInt32 - st))
def sn_r2 (h : sd_H) (s e : Nat) (q st rt nw dl : Int32) : sd_H := if (nb_j (h.1 4 s) q).1 = 2 then pl_begin (sn_r1 h s q st rt nw) s e (nb_long (nb_j (h.1 4 s) q).2 q) st nw dl else pl_arrive (sn_r1 h s q st rt nw) s e (nb_long (nb_j (h.1 4 s) q).2 q) st rt nw dl
def sn_rcv (h : sd_H) (s e : Nat) (q st rt nw dl : Int32) : Int32 × sd_H := if (nb_j (h.1 4 s) q).1 = 0 then (0, sd_ri h 4 s (nb_j (h.1 4 s) q).2) else (1, (pl_play s nw 32 (sn_r2 h s e q st rt nw dl) (evn (sn_r2 h s e q st rt nw dl)) 0).2.1)
theorem pl_note_e {h : sd_H} {s e c : Nat} {n : Int64} {nw : Int32} : (pl_note h s e c n nw).1 2 0 4 = nI (e + 1) := rfl
theorem pl_begin_e {h : sd_H} {s e : Nat} {n : Int64} {st nw dl : Int32} : (pl_begin h s e n st nw dl).1 2 0 4 = nI (e + 1) := rfl
theorem pl_arrive_e {h : sd_H} {s e : Nat} {n : Int64} {st rt nw dl : Int32} (he : h.1 2 0 4 = nI e) : (pl_arrive h s e n st rt nw dl).1 2 0 4 = nI e ∨ (pl_arrive h s e n st rt nw dl).1 2 0 4 = nI (e + 1) := by
  unfold pl_arrive
  split
  · exact Or.inr rfl
  · split
    · split
      · exact Or.inl he
      · exact Or.inr rfl
    · split
      · exact Or.inr rfl
      · exact Or.inr rfl
theorem sn_r2_e {h : sd_H} {s e : Nat} {q st rt nw dl : Int32} (he : h.1 2 0 4 = nI e) : (sn_r2 h s e q st rt nw dl).1 2 0 4 = nI e ∨ (sn_r2 h s e q st rt nw dl).1 2 0 4 = nI (e + 1) := by
  unfold sn_r2
  split
  · exact Or.inr rfl
  · exact pl_arrive_e (h := sn_r1 h s q st rt nw) he
section SN
variable {l : Launch} {h : sd_H} {Q : Option sd_V → sd_H → Prop} {s : Nat}
theorem sp_receive {e : Nat} {q st rt nw dl : Int32} (he : h.1 2 0 4 = nI e) (hb : e + 3000 < 2 ^ 31) (k : Q (some (v_i (sn_rcv h s e q st rt nw dl).1)) (sn_rcv h s e q st rt nw dl).2) : sd_E1 l y_X7_receive [v_r 3 s, v_i q, v_i st, v_i rt, v_i nw, v_i dl] h Q := by
  refine sd_e1 [] 80 (cd := cd_X7_receive) (by decide) rfl (Nat.le_of_ble_eq_true rfl) ?_
  refine sp_judge ?_
  unfold sn_rcv at k
  refine ⟨fun c1 => ?_, fun c1 => ?_⟩
  rotate_left
  · rw [if_pos c1] at k; exact ⟨Or.inl rfl, k⟩
  rw [if_neg c1] at k
  refine ⟨by decide, ?_⟩
  refine sp_follow ?_
  refine sp_longNumber ?_
  have e4 : (sn_r1 h s q st rt nw).1 4 s = (nb_j (h.1 4 s) q).2 := by
    show (sd_ri h 4 s (nb_j (h.1 4 s) q).2).1 4 s = _
    exact sd_ri_at
  have ef : sd_ri (sd_ri h 4 s (nb_j (h.1 4 s) q).2) 5 s (jt_f ((sd_ri h 4 s (nb_j (h.1 4 s) q).2).1 5 s) ((nw.toInt64 * rt.toInt64 / 1000).toInt32 - st)) = sn_r1 h s q st rt nw := rfl
  have h4 := sn_r2_e (s := s) (q := q) (st := st) (rt := rt) (nw := nw) (dl := dl) he
  refine ⟨fun c2 => ?_, fun c2 => ?_⟩
  · have e5 : sn_r2 h s e q st rt nw dl = pl_arrive (sn_r1 h s q st rt nw) s e (nb_long (nb_j (h.1 4 s) q).2 q) st rt nw dl := if_neg c2
    show sd_E1 l y_X5_arrive [v_r 6 s, v_l (nb_long ((sn_r1 h s q st rt nw).1 4 s) q), v_i st, v_i rt, v_i nw, v_i dl] (sn_r1 h s q st rt nw) _
    rw [e4]
    refine sp_arrive (e := e) he (by omega) ?_
    rw [← e5]
    rcases h4 with h4 | h4
    · refine sp_play (e := e) h4 (by omega) ?_
      rw [evn_of h4 (by omega)] at k
      exact ⟨Or.inr rfl, k⟩
    · refine sp_play (e := e + 1) h4 (by omega) ?_
      rw [evn_of h4 (by omega)] at k
      exact ⟨Or.inr rfl, k⟩
  · have e5 : sn_r2 h s e q st rt nw dl = pl_begin (sn_r1 h s q st rt nw) s e (nb_long (nb_j (h.1 4 s) q).2 q) st nw dl := if_pos c2
    show sd_E1 l y_X5_begin [v_r 6 s, v_l (nb_long ((sn_r1 h s q st rt nw).1 4 s) q), v_i st, v_i nw, v_i dl] (sn_r1 h s q st rt nw) _
    rw [e4]
    refine sp_begin (e := e) he (by omega) ?_
    rw [← e5]
    rcases h4 with h4 | h4
    · refine sp_play (e := e) h4 (by omega) ?_
      rw [evn_of h4 (by omega)] at k
      exact ⟨Or.inr rfl, k⟩
    · refine sp_play (e := e + 1) h4 (by omega) ?_
      rw [evn_of h4 (by omega)] at k
      exact ⟨Or.inr rfl, k⟩
def sn_clock (h : sd_H) (s : Nat) (m nw : Int32) : sd_H := sd_pi (sd_pi (sd_pi h 3 s 5 1) 3 s 6 m) 3 s 7 nw
theorem sp_keepClock {m nw : Int32} (k : Q none (sn_clock h s m nw)) : sd_E1 l y_X7_keepClock [v_r 3 s, v_i m, v_i nw] h Q := by
  refine sd_e1 [] 60 (cd := cd_X7_keepClock) (by decide) rfl (Nat.le_of_ble_eq_true rfl) ?_
  exact ⟨Or.inr rfl, k⟩
def sn_leave (h : sd_H) (s e : Nat) (nw : Int32) : sd_H := if h.1 3 s 4 = 0 then pl_note (pl_forget (sd_pi h 3 s 4 1) s) s e 7 0 nw else h
theorem sp_leave {e : Nat} {nw : Int32} (he : h.1 2 0 4 = nI e) (hb : e < 2 ^ 31) (k : Q none (sn_leave h s e nw)) : sd_E1 l y_X7_leave [v_r 3 s, v_i nw] h Q := by
  refine sd_e1 [] 60 (cd := cd_X7_leave) (by decide) rfl (Nat.le_of_ble_eq_true rfl) ?_
  unfold sn_leave at k
  refine ⟨fun c1 => ?_, fun c1 => ?_⟩
  · rw [if_neg c1] at k; exact k
  · rw [if_pos c1] at k
    refine ⟨Or.inr rfl, ?_⟩
    refine sp_forget ?_
    exact sp_note (e := e) (c := 7) (by decide) he hb k
def sn_fld (h : sd_H) (s : Nat) (w : Int32) : Int32 :=
  if w = 0 then h.1 3 s 0 else if w = 1 then h.1 4 s 0 else if w = 2 then h.1 4 s 1 else if w = 3 then h.1 4 s 2 else if w = 4 then h.1 4 s 3 else if w = 5 then h.1 4 s 4 else if w = 6 then h.1 4 s 5 else if w = 7 then h.1 5 s 0 else
  if w = 8 then (if h.1 4 s 4 = 0 then nb_due (h.1 4 s) else 0) else if w = 9 then (if h.1 4 s 4 = 0 then nb_lost (h.1 4 s) else 0) else if w = 10 then h.1 16 s 1 else if w = 11 then h.1 16 s 2 else if w = 12 then h.1 16 s 3 else if w = 13 then h.1 16 s 4 else if w = 14 then h.1 16 s 5 else if w = 15 then h.1 6 s 5 else if w = 16 then (if h.1 3 s 4 = 0 then 0 else 1) else -2147483648
theorem i_lt10 {w : Int32} (h1 : ¬ w < 10) (h2 : ¬ 14 < w) : w = 10 ∨ w = 11 ∨ w = 12 ∨ w = 13 ∨ w = 14 := by
  rw [Int32.lt_iff_toInt_lt] at h1 h2
  have h1 : ¬ w.toInt < 10 := h1
  have h2 : ¬ 14 < w.toInt := h2
  rcases (show w.toInt = 10 ∨ w.toInt = 11 ∨ w.toInt = 12 ∨ w.toInt = 13 ∨ w.toInt = 14 by omega) with q | q | q | q | q
  · exact Or.inl (Int32.toInt_inj.mp q)
  · exact Or.inr (Or.inl (Int32.toInt_inj.mp q))
  · exact Or.inr (Or.inr (Or.inl (Int32.toInt_inj.mp q)))
  · exact Or.inr (Or.inr (Or.inr (Or.inl (Int32.toInt_inj.mp q))))
  · exact Or.inr (Or.inr (Or.inr (Or.inr (Int32.toInt_inj.mp q))))
theorem sp_sfield {w : Int32} (k : Q (some (v_i (sn_fld h s w))) h) : sd_E1 l y_X7_field [v_r 3 s, v_i w] h Q := by
  refine sd_e1 [42] 60 (cd := cd_X7_field) (by decide) rfl (Nat.le_of_ble_eq_true rfl) ?_
  have rest : (w < 10 ∨ 14 < w) → ∀ b : Int32, ((b = 0 ∧ ¬ h.1 4 s 4 = 0) ∨ (b = 1 ∧ h.1 4 s 4 = 0)) → sd_Wq l none y_X7_field true Q 42 [some (v_r 3 s), some (v_i w), some (v_i b)] [] h 0 0 := by
    intro hw b hb
    refine sd_go [] 60 (cd := cd_X7_field) (by decide) rfl ?_
    unfold sn_fld at k
    refine ⟨fun (c : w = 0) => ?_, fun (c : ¬ w = 0) => ?_⟩
    · rw [if_pos c] at k; exact k
    rw [if_neg c] at k
    refine ⟨fun (c : w = 1) => ?_, fun (c : ¬ w = 1) => ?_⟩
    · rw [if_pos c] at k; exact k
    rw [if_neg c] at k
    refine ⟨fun (c : w = 2) => ?_, fun (c : ¬ w = 2) => ?_⟩
    · rw [if_pos c] at k; exact k
    rw [if_neg c] at k
    refine ⟨fun (c : w = 3) => ?_, fun (c : ¬ w = 3) => ?_⟩
    · rw [if_pos c] at k; exact k
    rw [if_neg c] at k
    refine ⟨fun (c : w = 4) => ?_, fun (c : ¬ w = 4) => ?_⟩
    · rw [if_pos c] at k; exact k
    rw [if_neg c] at k
    refine ⟨fun (c : w = 5) => ?_, fun (c : ¬ w = 5) => ?_⟩
    · rw [if_pos c] at k; exact k
    rw [if_neg c] at k
    refine ⟨fun (c : w = 6) => ?_, fun (c : ¬ w = 6) => ?_⟩
    · rw [if_pos c] at k; exact k
    rw [if_neg c] at k
    refine ⟨fun (c : w = 7) => ?_, fun (c : ¬ w = 7) => ?_⟩
    · rw [if_pos c] at k; exact k
    rw [if_neg c] at k
    refine ⟨fun (c : w = 8) => ?_, fun (c : ¬ w = 8) => ?_⟩
    · rw [if_pos c] at k
      rcases hb with ⟨rfl, hb⟩ | ⟨rfl, hb⟩
      · rw [if_neg hb] at k
        exact ⟨fun _ => k, fun c => absurd rfl c⟩
      · rw [if_pos hb] at k
        exact ⟨fun c => absurd c (by decide), fun _ => sp_due k⟩
    rw [if_neg c] at k
    refine ⟨fun (c : w = 9) => ?_, fun (c : ¬ w = 9) => ?_⟩
    · rw [if_pos c] at k
      rcases hb with ⟨rfl, hb⟩ | ⟨rfl, hb⟩
      · rw [if_neg hb] at k
        exact ⟨fun _ => k, fun c => absurd rfl c⟩
      · rw [if_pos hb] at k
        exact ⟨fun c => absurd c (by decide), fun _ => sp_lost k⟩
    rw [if_neg c] at k
    have no : ∀ z : Int32, (¬ z < 10 ∧ ¬ 14 < z) → w = z → False := fun z hz e => by
      subst e; rcases hw with q | q
      · exact hz.1 q
      · exact hz.2 q
    refine ⟨fun (c : w = 10) => (no 10 (by decide) c).elim, fun (c : ¬ w = 10) => ?_⟩
    rw [if_neg c] at k
    refine ⟨fun (c : w = 11) => (no 11 (by decide) c).elim, fun (c : ¬ w = 11) => ?_⟩
    rw [if_neg c] at k
    refine ⟨fun (c : w = 12) => (no 12 (by decide) c).elim, fun (c : ¬ w = 12) => ?_⟩
    rw [if_neg c] at k
    refine ⟨fun (c : w = 13) => (no 13 (by decide) c).elim, fun (c : ¬ w = 13) => ?_⟩
    rw [if_neg c] at k
    refine ⟨fun (c : w = 14) => (no 14 (by decide) c).elim, fun (c : ¬ w = 14) => ?_⟩
    rw [if_neg c] at k
    refine ⟨fun (c : w = 15) => ?_, fun (c : ¬ w = 15) => ?_⟩
    · rw [if_pos c] at k; exact k
    rw [if_neg c] at k
    refine ⟨fun (c : w = 16) => ?_, fun (c : ¬ w = 16) => ?_⟩
    · rw [if_pos c] at k
      refine ⟨fun c2 => ?_, fun c2 => ?_⟩
      · rw [if_pos c2] at k; exact k
      · rw [if_neg c2] at k; exact k
    rw [if_neg c] at k
    exact k
  have rest2 : (w < 10 ∨ 14 < w) → (¬ h.1 4 s 4 = 0 → sd_Wq l none y_X7_field true Q 42 [some (v_r 3 s), some (v_i w), some (v_i 0)] [] h 0 0) ∧ (h.1 4 s 4 = 0 → sd_Wq l none y_X7_field true Q 42 [some (v_r 3 s), some (v_i w), some (v_i 1)] [] h 0 0) :=
    fun hw => ⟨fun c => rest hw 0 (Or.inl ⟨rfl, c⟩), fun c => rest hw 1 (Or.inr ⟨rfl, c⟩)⟩
  refine ⟨fun c1 => rest2 (Or.inl c1), fun c1 => ?_⟩
  refine ⟨fun c2 => rest2 (Or.inr c2), fun c2 => ?_⟩
  rcases i_lt10 c1 c2 with rfl | rfl | rfl | rfl | rfl
  · exact sp_noted k
  · exact sp_noted k
  · exact sp_noted k
  · exact sp_noted k
  · exact sp_noted k
end SN
