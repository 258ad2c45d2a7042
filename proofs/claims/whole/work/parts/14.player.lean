/-! Player (tag 6): ints 1 senderNumber, 5 waiting, 8 beginStamp; longs 6 next, 7 beginTime; rows 16 notes, 17 times, 18 held -/
def pl_note (h : sd_H) (s e c : Nat) (n : Int64) (nw : Int32) : sd_H := ev_add (sd_pi h 16 s c (h.1 16 s c + 1)) e (nI c) (h.1 6 s 1) n nw
def pl_hold (h : sd_H) (s : Nat) (n t : Int64) : sd_H := sd_pi (sd_pi (sd_pl h 17 s (sl n) t) 18 s (sl n) 1) 6 s 5 (h.1 6 s 5 + 1)
def pl_waits (h : sd_H) (s : Nat) (n : Int64) : Int32 := if n < h.2.1 6 s 6 then 0 else if ¬ n - h.2.1 6 s 6 < 32 then 0 else if h.1 18 s (sl n) = 0 then 0 else 1
def fz (f : Nat → Int32) (n : Nat) : Nat → Int32 := fun j => if j < n then 0 else f j
def pl_forget (h : sd_H) (s : Nat) : sd_H := sd_pi (sd_ri h 18 s (fz (h.1 18 s) 32)) 6 s 5 0
section PL
variable {l : Launch} {h : sd_H} {Q : Option sd_V → sd_H → Prop} {s : Nat}
theorem sp_note {e c : Nat} {nw : Int32} {n : Int64} (hc : c < 8) (he : h.1 2 0 4 = nI e) (hb : e < 2 ^ 31) (k : Q none (pl_note h s e c n nw)) : sd_E1 l y_X5_note [v_r 6 s, v_i (nI c), v_l n, v_i nw] h Q := by
  refine sd_e1 [] 60 (cd := cd_X5_note) (by decide) rfl (Nat.le_of_ble_eq_true rfl) ?_
  refine ⟨fun q => absurd q (nI_pos (by omega)), fun _ => ?_⟩
  refine ⟨fun q => absurd q (Int32.not_le.mpr (nI_lt (a := c) (b := 8) hc (by decide))), fun _ => ?_⟩
  refine ⟨c, ⟨hc, rfl⟩, ?_⟩
  refine ⟨c, ⟨hc, rfl⟩, ?_⟩
  refine sp_add (e := e) he hb ?_
  exact k
theorem sp_noted {i : Int32} (k : Q (some (v_i (if i < 0 then 0 else if 8 ≤ i then 0 else h.1 16 s i.toNatClampNeg))) h) : sd_E1 l y_X5_noted [v_r 6 s, v_i i] h Q := by
  refine sd_e1 [] 60 (cd := cd_X5_noted) (by decide) rfl (Nat.le_of_ble_eq_true rfl) ?_
  refine ⟨fun c1 => ?_, fun c1 => ?_⟩
  · rw [if_pos c1] at k; exact k
  rw [if_neg c1] at k
  refine ⟨fun c2 => ?_, fun c2 => ?_⟩
  · rw [if_pos c2] at k; exact k
  rw [if_neg c2] at k
  obtain ⟨i1, i2⟩ := i_ix (N := 8) c1 (i_nle c2) (by decide)
  exact ⟨_, ⟨i1, i2⟩, k⟩
theorem sp_hold {n t : Int64} (k : Q none (pl_hold h s n t)) : sd_E1 l y_X5_hold [v_r 6 s, v_l n, v_l t] h Q := by
  refine sd_e1 [] 60 (cd := cd_X5_hold) (by decide) rfl (Nat.le_of_ble_eq_true rfl) ?_
  refine sp_slotOf ?_
  refine ⟨sl n, ⟨sl_lt n, rfl⟩, ?_⟩
  refine ⟨sl n, ⟨sl_lt n, rfl, Or.inr rfl⟩, ?_⟩
  exact k
theorem sp_waits {n : Int64} (k : Q (some (v_i (pl_waits h s n))) h) : sd_E1 l y_X5_waits [v_r 6 s, v_l n] h Q := by
  refine sd_e1 [] 60 (cd := cd_X5_waits) (by decide) rfl (Nat.le_of_ble_eq_true rfl) ?_
  unfold pl_waits at k
  refine ⟨fun c1 => ?_, fun c1 => ?_⟩
  · rw [if_pos (lc_lt.mp c1)] at k; exact ⟨Or.inl rfl, k⟩
  rw [if_neg (fun q => c1 (lc_lt.mpr q))] at k
  refine ⟨fun c2 => ?_, fun c2 => ?_⟩
  · rw [if_pos (lc_ge.mp c2)] at k; exact ⟨Or.inl rfl, k⟩
  rw [if_neg (fun q => c2 (lc_ge.mpr q))] at k
  refine sp_slotOf ?_
  refine ⟨sl n, ⟨sl_lt n, rfl⟩, ?_⟩
  refine ⟨fun c3 => ?_, fun c3 => ?_⟩
  · rw [if_pos c3] at k; exact ⟨Or.inl rfl, k⟩
  · rw [if_neg c3] at k; exact ⟨Or.inr rfl, k⟩
theorem sp_timeOf {n : Int64} (k : Q (some (v_l (h.2.1 17 s (sl n)))) h) : sd_E1 l y_X5_timeOf [v_r 6 s, v_l n] h Q := by
  refine sd_e1 [] 60 (cd := cd_X5_timeOf) (by decide) rfl (Nat.le_of_ble_eq_true rfl) ?_
  refine sp_slotOf ?_
  exact ⟨sl n, ⟨sl_lt n, rfl⟩, k⟩
theorem fz_up (f : Nat → Int32) (n : Nat) : upd (fz f n) n 0 = fz f (n + 1) := by
  funext j
  unfold upd fz
  by_cases h1 : j = n
  · subst h1; simp
  · rw [if_neg h1]
    by_cases h2 : j < n
    · rw [if_pos h2, if_pos (by omega)]
    · rw [if_neg h2, if_neg (by omega)]
theorem sq_forget {f : Nat → Int32} : ∀ (n : Nat), n ≤ 32 → Q none (sd_pi (sd_ri h 18 s (fz f 32)) 6 s 5 0) → sd_Wq l none y_X5_forgetWaiting true Q 2 [some (v_r 6 s), some (v_i (nI (32 - n)))] [] (sd_ri h 18 s (fz f (32 - n))) 0 0
  | 0, _, k => by
    refine sd_go [2] 30 (cd := cd_X5_forgetWaiting) (by decide) rfl ?_
    exact ⟨fun _ => k, fun c => absurd (show (32 : Int32) ≤ nI 32 by decide) c⟩
  | n + 1, hn, k => by
    refine sd_go [2] 30 (cd := cd_X5_forgetWaiting) (by decide) rfl ?_
    refine ⟨fun c => absurd c ?_, fun _ => ?_⟩
    · exact Int32.not_le.mpr (nI_lt (a := 32 - (n + 1)) (b := 32) (by omega) (by decide))
    refine ⟨32 - (n + 1), ⟨show 32 - (n + 1) < 32 by omega, rfl, Or.inl rfl⟩, ?_⟩
    show sd_Wq l none y_X5_forgetWaiting true Q 2 [some (v_r 6 s), some (v_i (nI (32 - (n + 1)) + 1))] [] (sd_pi (sd_ri h 18 s (fz f (32 - (n + 1)))) 18 s (32 - (n + 1)) 0) 0 0
    rw [sd_pi_ri, fz_up, nI_1, show 32 - (n + 1) + 1 = 32 - n by omega]
    exact sq_forget n (by omega) k
theorem sp_forget (k : Q none (pl_forget h s)) : sd_E1 l y_X5_forgetWaiting [v_r 6 s] h Q := by
  refine sd_e1 [2] 60 (cd := cd_X5_forgetWaiting) (by decide) rfl (Nat.le_of_ble_eq_true rfl) ?_
  have e : h = sd_ri h 18 s (fz (h.1 18 s) (32 - 32)) := by
    have : fz (h.1 18 s) (32 - 32) = h.1 18 s := by funext j; simp [fz]
    rw [this, sd_ri_self]
  have w := sq_forget (l := l) (h := h) (s := s) (Q := Q) (f := h.1 18 s) 32 (by omega) k
  rw [← e] at w
  exact w
/-- begin: what waits is forgotten, then the first that waits -/
def pl_begin (h : sd_H) (s e : Nat) (n : Int64) (st nw dl : Int32) : sd_H :=
  pl_hold (pl_note (sd_pi (sd_pl (sd_pl (pl_forget h s) 6 s 6 n) 6 s 7 (nw.toInt64 + dl.toInt64)) 6 s 8 st) s e 6 n nw) s n (nw.toInt64 + dl.toInt64)
theorem sp_begin {e : Nat} {n : Int64} {st nw dl : Int32} (he : h.1 2 0 4 = nI e) (hb : e < 2 ^ 31) (k : Q none (pl_begin h s e n st nw dl)) : sd_E1 l y_X5_begin [v_r 6 s, v_l n, v_i st, v_i nw, v_i dl] h Q := by
  refine sd_e1 [] 60 (cd := cd_X5_begin) (by decide) rfl (Nat.le_of_ble_eq_true rfl) ?_
  refine sp_forget ?_
  refine sp_note (e := e) (c := 6) (by decide) he hb ?_
  refine sp_hold ?_
  have e7 : (pl_note (sd_pi (sd_pl (sd_pl (pl_forget h s) 6 s 6 n) 6 s 7 (nw.toInt64 + dl.toInt64)) 6 s 8 st) s e 6 n nw).2.1 6 s 7 = nw.toInt64 + dl.toInt64 := by
    show (sd_pl (sd_pl (pl_forget h s) 6 s 6 n) 6 s 7 (nw.toInt64 + dl.toInt64)).2.1 6 s 7 = _
    exact sd_pl_eq
  show Q none (pl_hold (pl_note (sd_pi (sd_pl (sd_pl (pl_forget h s) 6 s 6 n) 6 s 7 (nw.toInt64 + dl.toInt64)) 6 s 8 st) s e 6 n nw) s n ((pl_note (sd_pi (sd_pl (sd_pl (pl_forget h s) 6 s 6 n) 6 s 7 (nw.toInt64 + dl.toInt64)) 6 s 8 st) s e 6 n nw).2.1 6 s 7))
  rw [e7]
  exact k
def pl_since (h : sd_H) (s : Nat) (st rt : Int32) : Int64 := if rt ≤ 0 then 0 else fl_d ((st - h.1 6 s 8).toInt64 * 1000) rt.toInt64
theorem i_l0 {x : Int32} : x.toInt64 = 0 ↔ x = 0 := by
  constructor
  · intro q
    apply Int32.toInt_inj.mp
    rw [← Int32.toInt_toInt64, q]; rfl
  · intro q; rw [q]; rfl
theorem sp_since {st rt : Int32} (k : Q (some (v_l (pl_since h s st rt))) h) : sd_E1 l y_X5_sinceBegin [v_r 6 s, v_i st, v_i rt] h Q := by
  refine sd_e1 [] 60 (cd := cd_X5_sinceBegin) (by decide) rfl (Nat.le_of_ble_eq_true rfl) ?_
  unfold pl_since at k
  refine ⟨fun c1 => ?_, fun c1 => ?_⟩
  · rw [if_pos c1] at k; exact k
  · rw [if_neg c1] at k
    have c2 := i_nle c1
    rw [Int32.lt_iff_toInt_lt] at c2
    have c2 : (0 : Int) < rt.toInt := c2
    refine sp_fdiv (fun q => ?_) (fun q => ?_) k
    · have := i_l0.mp q
      rw [this] at c2
      exact absurd c2 (by decide)
    · rw [Int64.lt_iff_toInt_lt, Int32.toInt_toInt64] at q
      have q : rt.toInt < (0 : Int) := q
      omega
def pl_arrive (h : sd_H) (s e : Nat) (n : Int64) (st rt nw dl : Int32) : sd_H := if n < h.2.1 6 s 6 then pl_note h s e 3 n nw else if n - h.2.1 6 s 6 < 32 then (if pl_waits h s n = 0 then pl_hold h s n (h.2.1 6 s 7 + pl_since h s st rt) else pl_note h s e 5 n nw) else if h.1 6 s 5 = 0 then pl_begin h s e n st nw dl else pl_note h s e 4 n nw
theorem sp_arrive {e : Nat} {n : Int64} {st rt nw dl : Int32} (he : h.1 2 0 4 = nI e) (hb : e < 2 ^ 31) (k : Q none (pl_arrive h s e n st rt nw dl)) : sd_E1 l y_X5_arrive [v_r 6 s, v_l n, v_i st, v_i rt, v_i nw, v_i dl] h Q := by
  refine sd_e1 [] 60 (cd := cd_X5_arrive) (by decide) rfl (Nat.le_of_ble_eq_true rfl) ?_
  unfold pl_arrive at k
  refine ⟨fun c1 => ?_, fun c1 => ?_⟩
  · have c1 := lc_ge.mp c1
    refine ⟨fun c2 => ?_, fun c2 => ?_⟩
    · have c2 := lc_lt.mp c2
      refine ⟨fun _ => ?_, fun c4 => absurd (lc_lt.mpr c2) c4⟩
      rw [if_neg c1, if_pos c2] at k
      refine sp_waits ?_
      refine ⟨fun c3 => ?_, fun c3 => ?_⟩
      · rw [if_pos c3] at k
        refine sp_since ?_
        exact sp_hold k
      · rw [if_neg c3] at k
        exact sp_note (e := e) (c := 5) (by decide) he hb k
    · have c2' : ¬ n - h.2.1 6 s 6 < 32 := fun q => c2 (lc_lt.mpr q)
      rw [if_neg c1, if_neg c2'] at k
      refine ⟨fun c3 => ?_, fun c3 => ?_⟩
      · rw [if_neg c3] at k
        refine ⟨fun c4 => absurd c4 c2, fun _ => ?_⟩
        exact sp_note (e := e) (c := 4) (by decide) he hb k
      · rw [if_pos c3] at k
        exact sp_begin he hb k
  · have c1 : n < h.2.1 6 s 6 := Classical.not_not.mp fun q => c1 (lc_ge.mpr q)
    rw [if_pos c1] at k
    exact sp_note (e := e) (c := 3) (by decide) he hb k
/-- how far above NEXT the first lies that is due -/
def pl_gap (h : sd_H) (s : Nat) (nw : Int32) : Nat → Nat
  | 0 => 32
  | n + 1 => if h.1 18 s (sl (h.2.1 6 s 6 + (nI (32 - (n + 1))).toInt64)) = 0 then pl_gap h s nw n else if nw.toInt64 < h.2.1 17 s (sl (h.2.1 6 s 6 + (nI (32 - (n + 1))).toInt64)) then pl_gap h s nw n else 32 - (n + 1)
theorem sq_gap {nw : Int32} : ∀ (n : Nat), n ≤ 32 → ∀ (j3 : Option sd_V), Q (some (v_i (nI (pl_gap h s nw n)))) h → sd_Wq l none y_X5_gapToDue true Q 2 [some (v_r 6 s), some (v_i nw), some (v_i (nI (32 - n))), j3] [] h 0 0
  | 0, _, j3, k => by
    refine sd_go [2] 40 (cd := cd_X5_gapToDue) (by decide) rfl ?_
    exact ⟨fun _ => k, fun c => absurd (show (32 : Int32) ≤ nI 32 by decide) c⟩
  | n + 1, hn, j3, k => by
    refine sd_go [2] 40 (cd := cd_X5_gapToDue) (by decide) rfl ?_
    refine ⟨fun c => absurd c ?_, fun _ => ?_⟩
    · exact Int32.not_le.mpr (nI_lt (a := 32 - (n + 1)) (b := 32) (by omega) (by decide))
    refine sp_slotOf ?_
    refine ⟨_, ⟨sl_lt _, rfl⟩, ?_⟩
    unfold pl_gap at k
    have nxt : Q (some (v_i (nI (pl_gap h s nw n)))) h → ∀ j, sd_Wq l none y_X5_gapToDue true Q 2 [some (v_r 6 s), some (v_i nw), some (v_i (nI (32 - (n + 1)) + 1)), j] [] h 0 0 := by
      intro k j
      rw [nI_1, show 32 - (n + 1) + 1 = 32 - n by omega]
      exact sq_gap n (by omega) j k
    refine ⟨fun c1 => ?_, fun c1 => ?_⟩
    · rw [if_pos c1] at k
      exact nxt k _
    · rw [if_neg c1] at k
      refine ⟨_, ⟨sl_lt _, rfl⟩, ?_⟩
      refine ⟨fun c2 => ?_, fun c2 => ?_⟩
      · rw [if_pos (lc_gt.mp c2)] at k
        exact nxt k _
      · rw [if_neg (fun q => c2 (lc_gt.mpr q))] at k
        exact k
theorem sp_gap {nw : Int32} (k : Q (some (v_i (nI (pl_gap h s nw 32)))) h) : sd_E1 l y_X5_gapToDue [v_r 6 s, v_i nw] h Q := by
  refine sd_e1 [2] 60 (cd := cd_X5_gapToDue) (by decide) rfl (Nat.le_of_ble_eq_true rfl) ?_
  exact sq_gap 32 (by omega) _ k
def pl_step (h : sd_H) (s e c : Nat) (nw : Int32) : sd_H :=
  sd_pl (pl_note (sd_pi (sd_pi h 6 s 5 (h.1 6 s 5 - if h.1 18 s (sl (h.2.1 6 s 6)) = 0 then 0 else 1)) 18 s (sl (h.2.1 6 s 6)) 0) s e c (h.2.1 6 s 6) nw) 6 s 6 (h.2.1 6 s 6 + 1)
theorem sp_step {e c : Nat} {nw : Int32} (hc : c < 8) (he : h.1 2 0 4 = nI e) (hb : e < 2 ^ 31) (k : Q none (pl_step h s e c nw)) : sd_E1 l y_X5_step [v_r 6 s, v_i (nI c), v_i nw] h Q := by
  refine sd_e1 [] 60 (cd := cd_X5_step) (by decide) rfl (Nat.le_of_ble_eq_true rfl) ?_
  refine sp_slotOf ?_
  refine ⟨_, ⟨sl_lt _, rfl⟩, ?_⟩
  unfold pl_step at k
  refine ⟨fun c1 => ?_, fun c1 => ?_⟩
  · rw [if_pos c1] at k
    refine ⟨_, ⟨sl_lt _, rfl, Or.inl rfl⟩, ?_⟩
    exact sp_note (e := e) hc he hb k
  · rw [if_neg c1] at k
    refine ⟨_, ⟨sl_lt _, rfl, Or.inl rfl⟩, ?_⟩
    exact sp_note (e := e) hc he hb k
end PL
