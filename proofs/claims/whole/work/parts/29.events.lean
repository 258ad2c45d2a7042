/-! EVENTS on both sides -/
def EV (hc hm : sd_H) (e : Nat) : Prop := hc.1 2 0 4 = nI e ∧ hm.1 7 0 35 = nI e ∧ ∀ j, j < 64 → hm.2.1 44 0 (4 * j) = (hc.1 12 0 j).toInt64 ∧ hm.2.1 44 0 (4 * j + 1) = (hc.1 13 0 j).toInt64 ∧ hm.2.1 44 0 (4 * j + 2) = hc.2.1 14 0 j ∧ hm.2.1 44 0 (4 * j + 3) = (hc.1 15 0 j).toInt64
def mh (h : sd_H) (e c s : Nat) (n : Int64) : sd_H := sd_pi (sd_pl (sd_pl (sd_pl (sd_pl h 44 0 (4 * (e % 64)) (nI c).toInt64) 44 0 (4 * (e % 64) + 1) (nI s).toInt64) 44 0 (4 * (e % 64) + 2) n) 44 0 (4 * (e % 64) + 3) (h.1 7 0 0).toInt64) 7 0 35 (nI (e + 1))
def mh2 (h : sd_H) (e c s : Nat) (n : Int64) : sd_H := if c ≤ 5 then sd_pi (mh h e c s n) 43 0 (6 * s + c) (h.1 43 0 (6 * s + c) + 1) else mh h e c s n
section EVS
variable {l : Launch} {Q : Option sd_V → sd_H → Prop} {hc hm : sd_H} {e : Nat}
theorem ix6 (s c : Nat) : (6 : Int32) * nI s + nI c = nI (6 * s + c) := by rw [show (6 : Int32) = nI 6 from rfl, pk_mul, nI_add]
theorem ix32 (s c : Nat) : (32 : Int32) * nI s + nI c = nI (32 * s + c) := by rw [show (32 : Int32) = nI 32 from rfl, pk_mul, nI_add]
theorem sm_happens {c s : Nat} {n : Int64} (he : hm.1 7 0 35 = nI e) (hb : e < 2 ^ 30) (hs : s < 6) (hc8 : c < 8) (k : Q none (mh2 hm e c s n)) : sd_E1 l y_X9_happens [v_r 7 0, v_i (nI c), v_i (nI s), v_l n] hm Q := by
  refine sd_e1 [] 80 (cd := cd_X9_happens) (by decide) rfl (Nat.le_of_ble_eq_true rfl) ?_
  refine ⟨by decide, ?_⟩
  have hm64 : e % 64 < 64 := Nat.mod_lt _ (by decide)
  have e4 : (4 : Int32) * (hm.1 7 0 35 - hm.1 7 0 35 / 64 * 64) = nI (4 * (e % 64)) := by
    rw [he, show nI e - nI e / 64 * 64 = nI (e % 64) from pk_rem (d := 64) (by omega) (by decide) (by decide), show (4 : Int32) = nI 4 from rfl, pk_mul]
  refine ⟨4 * (e % 64), ⟨show 4 * (e % 64) < 256 by omega, e4⟩, ?_⟩
  refine ⟨4 * (e % 64) + 1, ⟨show 4 * (e % 64) + 1 < 256 by omega, by rw [e4, nI_1]⟩, ?_⟩
  refine ⟨4 * (e % 64) + 2, ⟨show 4 * (e % 64) + 2 < 256 by omega, by rw [e4, show (2 : Int32) = nI 2 from rfl, nI_add]⟩, ?_⟩
  refine ⟨4 * (e % 64) + 3, ⟨show 4 * (e % 64) + 3 < 256 by omega, by rw [e4, show (3 : Int32) = nI 3 from rfl, nI_add]⟩, ?_⟩
  have eh : sd_pi (sd_pl (sd_pl (sd_pl (sd_pl hm 44 0 (4 * (e % 64)) (nI c).toInt64) 44 0 (4 * (e % 64) + 1) (nI s).toInt64) 44 0 (4 * (e % 64) + 2) n) 44 0 (4 * (e % 64) + 3) (hm.1 7 0 0).toInt64) 7 0 35 (hm.1 7 0 35 + 1) = mh hm e c s n := by
    unfold mh; rw [he, nI_1]
  unfold mh2 at k
  refine ⟨fun (c1 : (5 : Int32) < nI c) => ?_, fun (c1 : ¬ (5 : Int32) < nI c) => ?_⟩
  · have c1 := (nI_ltI (a := 5) (by decide) (by omega)).mp c1
    rw [if_neg (by omega), ← eh] at k
    exact k
  · have c1 : ¬ 5 < c := fun q => c1 (nI_lt (a := 5) q (by omega))
    rw [if_pos (by omega), ← eh] at k
    refine ⟨6 * s + c, ⟨show 6 * s + c < 36 by omega, ix6 s c⟩, ?_⟩
    exact ⟨6 * s + c, ⟨show 6 * s + c < 36 by omega, ix6 s c⟩, k⟩
theorem mh2_fx {c s : Nat} {n : Int64} : Fx (fun T _ i => T = 44 ∨ (T = 7 ∧ i = 35) ∨ (T = 43 ∧ i = 6 * s + c)) hm (mh2 hm e c s n) := by
  have f : Fx (fun T _ i => T = 44 ∨ (T = 7 ∧ i = 35) ∨ (T = 43 ∧ i = 6 * s + c)) hm (mh hm e c s n) := by
    unfold mh
    exact ((((Fx.rf.pl (Or.inl rfl)).pl (Or.inl rfl)).pl (Or.inl rfl)).pl (Or.inl rfl)).pi (Or.inr (Or.inl ⟨rfl, rfl⟩))
  unfold mh2
  split
  · exact f.pi (Or.inr (Or.inr ⟨rfl, rfl⟩))
  · exact f
theorem mh2_43 {c s : Nat} {n : Int64} (h5 : c ≤ 5) : (mh2 hm e c s n).1 43 0 (6 * s + c) = hm.1 43 0 (6 * s + c) + 1 := by
  unfold mh2
  rw [if_pos h5]
  exact sd_pi_eq
theorem mh2_35 {c s : Nat} {n : Int64} : (mh2 hm e c s n).1 7 0 35 = nI (e + 1) := by
  unfold mh2
  split <;> rfl
theorem mh2_l {c s : Nat} {n : Int64} : (mh2 hm e c s n).2 = (mh hm e c s n).2 := by
  unfold mh2
  split <;> rfl
theorem mh_44 {c s i : Nat} {n : Int64} : (mh hm e c s n).2.1 44 0 i = if i = 4 * (e % 64) + 3 then (hm.1 7 0 0).toInt64 else if i = 4 * (e % 64) + 2 then n else if i = 4 * (e % 64) + 1 then (nI s).toInt64 else if i = 4 * (e % 64) then (nI c).toInt64 else hm.2.1 44 0 i := by
  simp [mh, sd_pi, sd_pl]
theorem EV.add {c s : Nat} {n : Int64} {nw kd : Int32} (v : EV hc hm e) (hnw : hm.1 7 0 0 = nw) : EV (ev_add hc e (nI c) (nI s) n nw) (mh2 hm e c s n) (e + 1) := by
  obtain ⟨v1, v2, v3⟩ := v
  refine ⟨rfl, mh2_35, fun j hj => ?_⟩
  have hm64 : e % 64 < 64 := Nat.mod_lt _ (by decide)
  rw [mh2_l, mh_44, mh_44, mh_44, mh_44]
  obtain ⟨w0, w1, w2, w3⟩ := v3 j hj
  by_cases hq : j = e % 64
  · subst hq
    refine ⟨?_, ?_, ?_, ?_⟩
    · rw [if_neg (by omega), if_neg (by omega), if_neg (by omega), if_pos rfl]; simp [ev_add, sd_pi, sd_pl]
    · rw [if_neg (by omega), if_neg (by omega), if_pos rfl]; simp [ev_add, sd_pi, sd_pl]
    · rw [if_neg (by omega), if_pos rfl]; simp [ev_add, sd_pi, sd_pl]
    · rw [if_pos rfl, hnw]; simp [ev_add, sd_pi, sd_pl]
  · refine ⟨?_, ?_, ?_, ?_⟩
    · rw [if_neg (by omega), if_neg (by omega), if_neg (by omega), if_neg (by omega), w0]; simp [ev_add, sd_pi, sd_pl, hq]
    · rw [if_neg (by omega), if_neg (by omega), if_neg (by omega), if_neg (by omega), w1]; simp [ev_add, sd_pi, sd_pl, hq]
    · rw [if_neg (by omega), if_neg (by omega), if_neg (by omega), if_neg (by omega), w2]; simp [ev_add, sd_pi, sd_pl, hq]
    · rw [if_neg (by omega), if_neg (by omega), if_neg (by omega), if_neg (by omega), w3]; simp [ev_add, sd_pi, sd_pl, hq]
theorem EV.cg {hc' hm' : sd_H} (v : EV hc hm e) (c2 : hc'.1 2 0 4 = hc.1 2 0 4) (c12 : ∀ j, hc'.1 12 0 j = hc.1 12 0 j) (c13 : ∀ j, hc'.1 13 0 j = hc.1 13 0 j) (c14 : ∀ j, hc'.2.1 14 0 j = hc.2.1 14 0 j) (c15 : ∀ j, hc'.1 15 0 j = hc.1 15 0 j) (m : hm'.1 7 0 35 = hm.1 7 0 35) (m44 : ∀ j, hm'.2.1 44 0 j = hm.2.1 44 0 j) : EV hc' hm' e := by
  obtain ⟨v1, v2, v3⟩ := v
  refine ⟨by rw [c2, v1], by rw [m, v2], fun j hj => ?_⟩
  rw [m44, m44, m44, m44, c12, c13, c14, c15]
  exact v3 j hj
end EVS
/-! PLAYING on both sides, in the middle of a turn: the class has gone j steps -/
def wc (w : Nat → Int32) : Nat → Nat → Nat
  | _, 0 => 0
  | i, n + 1 => (if w i = 0 then 0 else 1) + wc w (i + 1) n
theorem wc_le (w : Nat → Int32) : ∀ n i, wc w i n ≤ n
  | 0, _ => Nat.le_refl _
  | n + 1, i => by
    have := wc_le w n (i + 1)
    unfold wc
    split <;> omega
theorem wc_cg {w w' : Nat → Int32} : ∀ (n i i' : Nat), (∀ k, k < n → w (i + k) = w' (i' + k)) → wc w i n = wc w' i' n
  | 0, _, _, _ => rfl
  | n + 1, i, i', h => by
    unfold wc
    rw [show w i = w' i' from h 0 (by omega), wc_cg n (i + 1) (i' + 1) (fun k hk => by
      have := h (k + 1) (by omega)
      rw [show i + 1 + k = i + (k + 1) by omega, show i' + 1 + k = i' + (k + 1) by omega]; exact this)]
theorem wc_app (w : Nat → Int32) : ∀ (n i m : Nat), wc w i (n + m) = wc w i n + wc w (i + n) m
  | 0, i, m => by simp [wc]
  | n + 1, i, m => by
    rw [show n + 1 + m = (n + m) + 1 by omega]
    show (if w i = 0 then 0 else 1) + wc w (i + 1) (n + m) = ((if w i = 0 then 0 else 1) + wc w (i + 1) n) + wc w (i + (n + 1)) m
    rw [wc_app w n (i + 1) m, show i + 1 + n = i + (n + 1) by omega]
    omega
theorem wc_z {w : Nat → Int32} : ∀ (n i : Nat), (∀ k, k < n → w (i + k) = 0) → wc w i n = 0
  | 0, _, _ => rfl
  | n + 1, i, h => by
    unfold wc
    rw [if_pos (show w i = 0 from h 0 (by omega)), wc_z n (i + 1) (fun k hk => by rw [show i + 1 + k = i + (k + 1) by omega]; exact h (k + 1) (by omega))]
def PM (hc hm : sd_H) (s e j : Nat) : Prop :=
  hc.1 6 s 1 = nI s ∧ hc.2.1 6 s 6 = hm.2.1 38 0 s + lN j ∧
  (∀ k, k < 32 → hc.1 18 s (sl (hm.2.1 38 0 s + lN k)) = if k < j then 0 else hm.1 41 0 (32 * s + k)) ∧
  (∀ k, k < 32 → j ≤ k → ¬ hm.1 41 0 (32 * s + k) = 0 → hm.2.1 42 0 (32 * s + k) = hc.2.1 17 s (sl (hm.2.1 38 0 s + lN k))) ∧
  (∀ k, k < 32 → hm.1 41 0 (32 * s + k) = 0 ∨ hm.1 41 0 (32 * s + k) = 1) ∧
  hc.1 6 s 5 = nI (wc (fun k => hm.1 41 0 (32 * s + k)) j (32 - j)) ∧
  (∀ c, 1 ≤ c → c ≤ 5 → hm.1 43 0 (6 * s + c) = hc.1 16 s c) ∧
  hm.2.1 39 0 s = hc.2.1 6 s 7 ∧ hm.1 40 0 s = hc.1 6 s 8 ∧
  0 ≤ (hm.2.1 38 0 s).toInt ∧ (hm.2.1 38 0 s).toInt + j ≤ 1099511627776 + e
theorem sl_add (n : Int64) (k : Nat) (hk : k < 2 ^ 31) : sl (n + lN k) = (sl n + k) % 32 := by
  have h1 : (n + lN k).toInt = (n.toInt + k).bmod (2 ^ 64) := by rw [Int64.toInt_add, lN_toInt hk]
  have h2 : (n.toInt + k).bmod (2 ^ 64) % 32 = (n.toInt + k) % 32 := by
    have := Int.bmod_emod (x := n.toInt + k) (m := 2 ^ 64)
    omega
  unfold sl
  rw [h1, h2]
  have h0 := Int.emod_nonneg n.toInt (show (32 : Int) ≠ 0 by decide)
  omega
