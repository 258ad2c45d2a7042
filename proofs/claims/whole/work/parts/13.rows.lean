/-! rows of an object as functions; EventLog, Numbers, Jitter -/
def sd_ri (h : sd_H) (T k : Nat) (g : Nat → Int32) : sd_H := (fun T' => if T' = T then (fun k' => if k' = k then g else h.1 T k') else h.1 T', h.2)
theorem sd_ri_at {h : sd_H} {T k : Nat} {g : Nat → Int32} : (sd_ri h T k g).1 T k = g := by simp [sd_ri]
theorem sd_ri_self (h : sd_H) (T k : Nat) : sd_ri h T k (h.1 T k) = h := by
  have e : (sd_ri h T k (h.1 T k)).1 = h.1 := by
    funext T' k'
    unfold sd_ri
    dsimp only
    by_cases h1 : T' = T
    · subst h1
      by_cases h2 : k' = k
      · subst h2; simp
      · simp [h2]
    · simp [h1]
  exact Prod.ext e rfl
theorem sd_pi_ri {h : sd_H} {T k i : Nat} {g : Nat → Int32} {v : Int32} : sd_pi (sd_ri h T k g) T k i v = sd_ri h T k (upd g i v) := by
  have e : (sd_pi (sd_ri h T k g) T k i v).1 = (sd_ri h T k (upd g i v)).1 := by
    funext T' k'
    unfold sd_pi sd_ri
    dsimp only
    by_cases h1 : T' = T
    · subst h1
      by_cases h2 : k' = k
      · subst h2; simp; rfl
      · simp [h2]
    · simp [h1]
  exact Prod.ext e rfl
theorem sd_pi_r (h : sd_H) (T k i : Nat) (v : Int32) : sd_pi h T k i v = sd_ri h T k (upd (h.1 T k) i v) := by
  have := sd_pi_ri (h := h) (T := T) (k := k) (i := i) (g := h.1 T k) (v := v)
  rw [sd_ri_self] at this
  exact this
theorem up_s {f : Nat → Int32} {k : Nat} {x : Int32} : upd f k x k = x := pk_us
/-! Numbers: 0 top, 1 rounds, 2 base, 3 odd, 4 probation, 5 got, 6 gotBefore, 7 dueBefore -/
def nb_set (f : Nat → Int32) (q : Int32) : Nat → Int32 := upd (upd (upd (upd (upd (upd (upd f 2 q) 0 q) 3 65537) 1 0) 5 0) 6 0) 7 0
def nb_pro (f : Nat → Int32) (q : Int32) : Int32 × (Nat → Int32) := if q = (f 0 + 1) &&& 65535 then (if f 4 - 1 ≤ 0 then (2, nb_set (upd (upd f 4 (f 4 - 1)) 0 q) q) else (0, upd (upd f 4 (f 4 - 1)) 0 q)) else (0, upd (upd f 4 1) 0 q)
def nb_bel (f : Nat → Int32) (q : Int32) : Int32 × (Nat → Int32) := if 3000 ≤ (q - f 0) &&& 65535 then (if (q - f 0) &&& 65535 ≤ 65436 then (if q = f 3 then (2, nb_set f q) else (0, upd f 3 ((q + 1) &&& 65535))) else (1, f)) else (1, upd (upd f 1 (f 1 + if f 0 ≤ q then 0 else 65536)) 0 q)
def nb_j0 (f : Nat → Int32) (q : Int32) : Int32 × (Nat → Int32) := if f 4 ≤ 0 then nb_bel f q else nb_pro f q
def nb_j (f : Nat → Int32) (q : Int32) : Int32 × (Nat → Int32) := if (nb_j0 f q).1 = 0 then nb_j0 f q else ((nb_j0 f q).1, upd (nb_j0 f q).2 5 ((nb_j0 f q).2 5 + 1))
def nb_long (f : Nat → Int32) (q : Int32) : Int64 := if q ≤ f 0 then (f 1).toInt64 + q.toInt64 else (f 1).toInt64 + q.toInt64 - 65536
def nb_due (f : Nat → Int32) : Int32 := f 1 + f 0 - f 2 + 1
def nb_lost (f : Nat → Int32) : Int32 := i_max (-8388608) (i_min 8388607 (nb_due f - f 5))
section NB
variable {l : Launch} {h : sd_H} {Q : Option sd_V → sd_H → Prop} {s : Nat}
theorem sp_setBy {q : Int32} (k : Q none (sd_ri h 4 s (nb_set (h.1 4 s) q))) : sd_E1 l y_X3_setBy [v_r 4 s, v_i q] h Q := by
  refine sd_e1 [] 40 (cd := cd_X3_setBy) (by decide) rfl (Nat.le_of_ble_eq_true rfl) ?_
  show Q none _
  simp only [sd_pi_r h, sd_pi_ri]
  exact k
theorem sp_setBy0 {q : Int32} (k : Q none (sd_ri h 4 s (nb_set (h.1 4 s) q))) : sd_E l y_X3_setBy [v_r 4 s, v_i q] h Q := by
  refine sd_e0 [] 40 (cd := cd_X3_setBy) (by decide) rfl (Nat.le_of_ble_eq_true rfl) ?_
  show Q none _
  simp only [sd_pi_r h, sd_pi_ri]
  exact k
theorem sd_ri_ri {T : Nat} {g g' : Nat → Int32} : sd_ri (sd_ri h T s g) T s g' = sd_ri h T s g' := by
  have e : (sd_ri (sd_ri h T s g) T s g').1 = (sd_ri h T s g').1 := by
    funext T' k'
    unfold sd_ri
    dsimp only
    by_cases h1 : T' = T
    · subst h1
      by_cases h2 : k' = s
      · subst h2; simp
      · simp [h2]
    · simp [h1]
  exact Prod.ext e rfl
theorem sp_judgePro {q : Int32} (k : Q (some (v_i (nb_pro (h.1 4 s) q).1)) (sd_ri h 4 s (nb_pro (h.1 4 s) q).2)) : sd_E1 l y_X3_judgeOnProbation [v_r 4 s, v_i q] h Q := by
  refine sd_e1 [] 60 (cd := cd_X3_judgeOnProbation) (by decide) rfl (Nat.le_of_ble_eq_true rfl) ?_
  unfold nb_pro at k
  refine ⟨fun (c1 : ¬ q = (h.1 4 s 0 + 1) &&& 65535) => ?_, fun (c1 : q = (h.1 4 s 0 + 1) &&& 65535) => ?_⟩
  · rw [if_neg c1] at k
    refine ⟨fun _ => ?_, fun c => absurd (rfl : (0 : Int32) = 0) c⟩
    refine ⟨fun c2 => ?_, fun c2 => ?_⟩
    · exfalso
      have c2 : (sd_pi (sd_pi h 4 s 4 1) 4 s 0 q).1 4 s 4 ≤ 0 := c2
      simp only [sd_pi_r h, sd_pi_ri, sd_ri_at] at c2
      exact absurd (show (1 : Int32) ≤ 0 from c2) (by decide)
    · show Q (some (v_i 0)) (sd_pi (sd_pi h 4 s 4 1) 4 s 0 q)
      simp only [sd_pi_r h, sd_pi_ri]
      exact k
  · rw [if_pos c1] at k
    refine ⟨fun c => absurd c (by decide), fun _ => ?_⟩
    refine ⟨fun c2 => ?_, fun c2 => ?_⟩
    · have c2 : (sd_pi (sd_pi h 4 s 4 (h.1 4 s 4 - 1)) 4 s 0 q).1 4 s 4 ≤ 0 := c2
      simp only [sd_pi_r h, sd_pi_ri, sd_ri_at] at c2
      have c2 : h.1 4 s 4 - 1 ≤ 0 := c2
      rw [if_pos c2] at k
      refine sp_setBy ?_
      show Q (some (v_i 2)) (sd_ri (sd_pi (sd_pi h 4 s 4 (h.1 4 s 4 - 1)) 4 s 0 q) 4 s (nb_set ((sd_pi (sd_pi h 4 s 4 (h.1 4 s 4 - 1)) 4 s 0 q).1 4 s) q))
      simp only [sd_pi_r h, sd_pi_ri, sd_ri_at, sd_ri_ri]
      exact k
    · have c2 : ¬ (sd_pi (sd_pi h 4 s 4 (h.1 4 s 4 - 1)) 4 s 0 q).1 4 s 4 ≤ 0 := c2
      simp only [sd_pi_r h, sd_pi_ri, sd_ri_at] at c2
      have c2 : ¬ h.1 4 s 4 - 1 ≤ 0 := c2
      rw [if_neg c2] at k
      show Q (some (v_i 0)) (sd_pi (sd_pi h 4 s 4 (h.1 4 s 4 - 1)) 4 s 0 q)
      simp only [sd_pi_r h, sd_pi_ri]
      exact k
theorem sp_judgeBel {q : Int32} (k : Q (some (v_i (nb_bel (h.1 4 s) q).1)) (sd_ri h 4 s (nb_bel (h.1 4 s) q).2)) : sd_E1 l y_X3_judgeBelieved [v_r 4 s, v_i q] h Q := by
  refine sd_e1 [] 60 (cd := cd_X3_judgeBelieved) (by decide) rfl (Nat.le_of_ble_eq_true rfl) ?_
  unfold nb_bel at k
  refine ⟨fun (c1 : 3000 ≤ (q - h.1 4 s 0) &&& 65535) => ?_, fun (c1 : ¬ 3000 ≤ (q - h.1 4 s 0) &&& 65535) => ?_⟩
  · rw [if_pos c1] at k
    refine ⟨fun (c2 : (q - h.1 4 s 0) &&& 65535 ≤ 65436) => ?_, fun (c2 : ¬ (q - h.1 4 s 0) &&& 65535 ≤ 65436) => ?_⟩
    · rw [if_pos c2] at k
      refine ⟨fun c3 => ?_, fun c3 => ?_⟩
      · rw [if_neg c3] at k
        show Q (some (v_i 0)) (sd_pi h 4 s 3 ((q + 1) &&& 65535))
        rw [sd_pi_r h]
        exact k
      · rw [if_pos c3] at k
        exact sp_setBy k
    · rw [if_neg c2] at k
      have k : Q (some (v_i 1)) (sd_ri h 4 s (h.1 4 s)) := k
      rw [sd_ri_self] at k
      exact k
  · rw [if_neg c1] at k
    refine ⟨fun c2 => ?_, fun c2 => ?_⟩
    · rw [if_pos c2] at k
      show Q (some (v_i 1)) (sd_pi (sd_pi h 4 s 1 (h.1 4 s 1 + 0)) 4 s 0 q)
      simp only [sd_pi_r h, sd_pi_ri]
      exact k
    · rw [if_neg c2] at k
      show Q (some (v_i 1)) (sd_pi (sd_pi h 4 s 1 (h.1 4 s 1 + 65536)) 4 s 0 q)
      simp only [sd_pi_r h, sd_pi_ri]
      exact k
theorem sp_judge {q : Int32} (k : Q (some (v_i (nb_j (h.1 4 s) q).1)) (sd_ri h 4 s (nb_j (h.1 4 s) q).2)) : sd_E1 l y_X3_judge [v_r 4 s, v_i q] h Q := by
  refine sd_e1 [] 60 (cd := cd_X3_judge) (by decide) rfl (Nat.le_of_ble_eq_true rfl) ?_
  unfold nb_j at k
  have fin : ∀ (r : Int32 × (Nat → Int32)), nb_j0 (h.1 4 s) q = r → (r.1 = 0 → Q (some (v_i r.1)) (sd_ri h 4 s r.2)) ∧ (¬ r.1 = 0 → Q (some (v_i r.1)) (sd_pi (sd_ri h 4 s r.2) 4 s 5 ((sd_ri h 4 s r.2).1 4 s 5 + 1))) := by
    intro r hr
    rw [hr] at k
    refine ⟨fun c => ?_, fun c => ?_⟩
    · rw [if_pos c] at k; exact k
    · rw [if_neg c] at k
      rw [sd_pi_ri, sd_ri_at]
      exact k
  refine ⟨fun c1 => ?_, fun c1 => ?_⟩
  · refine sp_judgeBel ?_
    have e : nb_j0 (h.1 4 s) q = nb_bel (h.1 4 s) q := by unfold nb_j0; rw [if_pos c1]
    exact ⟨fun c => (fin _ e).1 c, fun c => (fin _ e).2 c⟩
  · refine sp_judgePro ?_
    have e : nb_j0 (h.1 4 s) q = nb_pro (h.1 4 s) q := by unfold nb_j0; rw [if_neg c1]
    exact ⟨fun c => (fin _ e).1 c, fun c => (fin _ e).2 c⟩
theorem sp_longNumber {q : Int32} (k : Q (some (v_l (nb_long (h.1 4 s) q))) h) : sd_E1 l y_X3_longNumber [v_r 4 s, v_i q] h Q := by
  refine sd_e1 [] 60 (cd := cd_X3_longNumber) (by decide) rfl (Nat.le_of_ble_eq_true rfl) ?_
  unfold nb_long at k
  refine ⟨fun c1 => ?_, fun c1 => ?_⟩
  · rw [if_pos c1] at k; exact k
  · rw [if_neg c1] at k; exact k
theorem sp_due (k : Q (some (v_i (nb_due (h.1 4 s)))) h) : sd_E1 l y_X3_due [v_r 4 s] h Q := by
  refine sd_e1 [] 60 (cd := cd_X3_due) (by decide) rfl (Nat.le_of_ble_eq_true rfl) ?_
  exact k
theorem sp_lost (k : Q (some (v_i (nb_lost (h.1 4 s)))) h) : sd_E1 l y_X3_lost [v_r 4 s] h Q := by
  refine sd_e1 [] 60 (cd := cd_X3_lost) (by decide) rfl (Nat.le_of_ble_eq_true rfl) ?_
  refine sp_due ?_
  refine sp_min ?_
  exact sp_max k
def nb_frac (f : Nat → Int32) : Int32 := if (nb_due f - f 7).toInt64 = 0 then 0 else if ¬ 0 < (nb_due f - f 7).toInt64 - (f 5 - f 6).toInt64 then 0 else (256 * ((nb_due f - f 7).toInt64 - (f 5 - f 6).toInt64) / (nb_due f - f 7).toInt64).toInt32 &&& 255
def nb_tf (f : Nat → Int32) : Nat → Int32 := upd (upd f 7 (nb_due f)) 6 (f 5)
theorem sp_takeFraction (k : Q (some (v_i (nb_frac (h.1 4 s)))) (sd_ri h 4 s (nb_tf (h.1 4 s)))) : sd_E1 l y_X3_takeFraction [v_r 4 s] h Q := by
  refine sd_e1 [] 60 (cd := cd_X3_takeFraction) (by decide) rfl (Nat.le_of_ble_eq_true rfl) ?_
  refine sp_due ?_
  refine sp_due ?_
  have e : sd_pi (sd_pi h 4 s 7 (nb_due (h.1 4 s))) 4 s 6 ((sd_pi h 4 s 7 (nb_due (h.1 4 s))).1 4 s 5) = sd_ri h 4 s (nb_tf (h.1 4 s)) := by
    simp only [sd_pi_r h, sd_pi_ri, sd_ri_at]
    rfl
  rw [← e] at k
  unfold nb_frac at k
  refine ⟨fun c1 => ?_, fun c1 => ?_⟩
  · rw [if_pos (lc_eq.mp c1)] at k; exact k
  · rw [if_neg (fun q => c1 (lc_eq.mpr q))] at k
    refine ⟨fun c2 => ?_, fun c2 => ?_⟩
    · rw [if_neg (fun q => q (lc_gt.mp c2))] at k
      exact ⟨fun q => c1 (lc_eq.mpr q), k⟩
    · rw [if_pos (fun q => c2 (lc_gt.mpr q))] at k; exact k
/-! Jitter: 0 value, 1 kept, 2 hasKept -/
def jt_f (f : Nat → Int32) (x : Int32) : Nat → Int32 := if f 2 = 0 then upd (upd f 1 x) 2 1 else upd (upd (upd f 0 (f 0 + (i_abs (x - f 1) - (f 0 + 8) >>> 4))) 1 x) 2 1
theorem sp_follow {x : Int32} (k : Q none (sd_ri h 5 s (jt_f (h.1 5 s) x))) : sd_E1 l y_X2_follow [v_r 5 s, v_i x] h Q := by
  refine sd_e1 [] 60 (cd := cd_X2_follow) (by decide) rfl (Nat.le_of_ble_eq_true rfl) ?_
  unfold jt_f at k
  refine ⟨fun c1 => ?_, fun c1 => ?_⟩
  · rw [if_pos c1] at k
    refine ⟨Or.inr rfl, ?_⟩
    show Q none (sd_pi (sd_pi h 5 s 1 x) 5 s 2 1)
    simp only [sd_pi_r h, sd_pi_ri]
    exact k
  · rw [if_neg c1] at k
    refine sp_abs ?_
    refine ⟨Or.inr rfl, ?_⟩
    show Q none (sd_pi (sd_pi (sd_pi h 5 s 0 (h.1 5 s 0 + (i_abs (x - h.1 5 s 1) - (h.1 5 s 0 + 8) >>> 4))) 5 s 1 x) 5 s 2 1)
    simp only [sd_pi_r h, sd_pi_ri]
    exact k
/-! EventLog -/
def ev_add (h : sd_H) (e : Nat) (kd sn : Int32) (n : Int64) (nw : Int32) : sd_H := sd_pi (sd_pi (sd_pl (sd_pi (sd_pi h 12 0 (e % 64) kd) 13 0 (e % 64) sn) 14 0 (e % 64) n) 15 0 (e % 64) nw) 2 0 4 (nI (e + 1))
theorem sp_add {e : Nat} {kd sn nw : Int32} {n : Int64} (he : h.1 2 0 4 = nI e) (hb : e < 2 ^ 31) (k : Q none (ev_add h e kd sn n nw)) : sd_E1 l y_X1_add [v_r 2 0, v_i kd, v_i sn, v_l n, v_i nw] h Q := by
  refine sd_e1 [] 60 (cd := cd_X1_add) (by decide) rfl (Nat.le_of_ble_eq_true rfl) ?_
  have hm : e % 64 < 64 := Nat.mod_lt _ (by decide)
  show sd_E1 l y_J9_floorMod_7cf53 [v_i (h.1 2 0 4), v_i 64] h _
  rw [he]
  refine sp_fmod64 hb ?_
  refine ⟨e % 64, ⟨hm, rfl⟩, ?_⟩
  refine ⟨e % 64, ⟨hm, rfl⟩, ?_⟩
  refine ⟨e % 64, ⟨hm, rfl⟩, ?_⟩
  refine ⟨e % 64, ⟨hm, rfl⟩, ?_⟩
  show Q none (sd_pi (sd_pi (sd_pl (sd_pi (sd_pi h 12 0 (e % 64) kd) 13 0 (e % 64) sn) 14 0 (e % 64) n) 15 0 (e % 64) nw) 2 0 4 (h.1 2 0 4 + 1))
  rw [he, nI_1]
  exact k
def ev_keeps (h : sd_H) (i : Int32) : Int32 := if i < 0 then 0 else if 64 ≤ i then 0 else if h.1 2 0 4 ≤ i then 0 else 1
theorem sp_keeps {i : Int32} (k : Q (some (v_i (ev_keeps h i))) h) : sd_E1 l y_X1_keeps [v_r 2 0, v_i i] h Q := by
  refine sd_e1 [] 60 (cd := cd_X1_keeps) (by decide) rfl (Nat.le_of_ble_eq_true rfl) ?_
  unfold ev_keeps at k
  refine ⟨fun c1 => ?_, fun c1 => ?_⟩
  · rw [if_pos c1] at k; exact ⟨Or.inl rfl, k⟩
  rw [if_neg c1] at k
  refine ⟨fun c2 => ?_, fun c2 => ?_⟩
  · rw [if_pos c2] at k; exact ⟨Or.inl rfl, k⟩
  rw [if_neg c2] at k
  refine ⟨fun c3 => ?_, fun c3 => ?_⟩
  · rw [if_pos c3] at k; exact ⟨Or.inl rfl, k⟩
  rw [if_neg c3] at k
  exact ⟨Or.inr rfl, k⟩
def ev_fld (h : sd_H) (j : Nat) (w : Int32) : Int64 := if w = 0 then (h.1 12 0 j).toInt64 else if w = 1 then (h.1 13 0 j).toInt64 else if w = 2 then h.2.1 14 0 j else if w = 3 then (h.1 15 0 j).toInt64 else -1
theorem sp_efield {i w : Int32} {e i0 : Nat} (he : h.1 2 0 4 = nI e) (hb : e < 2 ^ 30) (hi : i = nI i0) (hlt : i0 < e) (k : Q (some (v_l (ev_fld h ((e - 1 - i0) % 64) w))) h) : sd_E1 l y_X1_field [v_r 2 0, v_i i, v_i w] h Q := by
  refine sd_e1 [] 60 (cd := cd_X1_field) (by decide) rfl (Nat.le_of_ble_eq_true rfl) ?_
  have hm : (e - 1 - i0) % 64 < 64 := Nat.mod_lt _ (by decide)
  have ex : h.1 2 0 4 - 1 - i = nI (e - 1 - i0) := by
    rw [he, hi, show (1 : Int32) = nI 1 from rfl, pk_sub (by omega), pk_sub (by omega)]
  show sd_E1 l y_J9_floorMod_7cf53 [v_i (h.1 2 0 4 - 1 - i), v_i 64] h _
  rw [ex]
  refine sp_fmod64 (by omega) ?_
  unfold ev_fld at k
  refine ⟨fun (c : w = 0) => ?_, fun (c : ¬ w = 0) => ?_⟩
  · rw [if_pos c] at k; exact ⟨_, ⟨hm, rfl⟩, k⟩
  rw [if_neg c] at k
  refine ⟨fun (c : w = 1) => ?_, fun (c : ¬ w = 1) => ?_⟩
  · rw [if_pos c] at k; exact ⟨_, ⟨hm, rfl⟩, k⟩
  rw [if_neg c] at k
  refine ⟨fun (c : w = 2) => ?_, fun (c : ¬ w = 2) => ?_⟩
  · rw [if_pos c] at k; exact ⟨_, ⟨hm, rfl⟩, k⟩
  rw [if_neg c] at k
  refine ⟨fun (c : w = 3) => ?_, fun (c : ¬ w = 3) => ?_⟩
  · rw [if_pos c] at k; exact ⟨_, ⟨hm, rfl⟩, k⟩
  rw [if_neg c] at k
  exact k
end NB
