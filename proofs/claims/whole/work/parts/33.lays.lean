/-! note, hold, forget, begin on both sides -/
section NT
variable {hc hm hm' : sd_H} {e s : Nat}
theorem PM.note {c j : Nat} {nw : Int32} {n : Int64} (p : PM hc hm s e j) (v : EV hc hm e) (h1 : 1 ≤ c) (hnw : hm.1 7 0 0 = nw) (hs : s < 6) (h8 : c < 8) (h56 : c ≤ 5 ∨ 6 ≤ c) : PM (pl_note hc s e c n nw) (mh2 hm e c s n) s (e + 1) j ∧ EV (pl_note hc s e c n nw) (mh2 hm e c s n) (e + 1) := by
  obtain ⟨a1, a2, a3, a4, a5, a6, a7, a8, a9, a10, a11⟩ := p
  have v' : EV (sd_pi hc 16 s c (hc.1 16 s c + 1)) hm e := v.cg rfl (fun _ => rfl) (fun _ => rfl) (fun _ => rfl) (fun _ => rfl) rfl (fun _ => rfl)
  have v2 := v'.add (c := c) (s := s) (n := n) (nw := nw) (kd := 0) hnw
  rw [← a1] at v2
  have f := mh2_fx (hm := hm) (e := e) (c := c) (s := s) (n := n)
  refine ⟨⟨a1, ?_, ?_, ?_, ?_, ?_, ?_, ?_, ?_, ?_, ?_⟩, v2⟩
  · rw [f.2.1 38 0 s (by omega)]; exact a2
  · intro k hk
    rw [f.2.1 38 0 s (by omega), f.1 41 0 _ (by omega)]; exact a3 k hk
  · intro k hk hj
    rw [f.2.1 38 0 s (by omega), f.1 41 0 _ (by omega), f.2.1 42 0 _ (by omega)]; exact a4 k hk hj
  · intro k hk
    rw [f.1 41 0 _ (by omega)]; exact a5 k hk
  · rw [show wc (fun k => (mh2 hm e c s n).1 41 0 (32 * s + k)) j (32 - j) = wc (fun k => hm.1 41 0 (32 * s + k)) j (32 - j) from wc_cg _ _ _ (fun k _ => f.1 41 0 _ (by omega))]
    exact a6
  · intro c' hc1 hc5
    have e16 : (pl_note hc s e c n nw).1 16 s c' = (sd_pi hc 16 s c (hc.1 16 s c + 1)).1 16 s c' := rfl
    rw [e16]
    by_cases q : c' = c
    · rw [q, sd_pi_eq, mh2_43 (by omega), a7 c h1 (by omega)]
    · rw [sd_pi_ne (fun z => q z.2.2), f.1 43 0 _ (by omega)]
      exact a7 c' hc1 hc5
  · rw [f.2.1 39 0 s (by omega)]; exact a8
  · rw [f.1 40 0 s (by omega)]; exact a9
  · rw [f.2.1 38 0 s (by omega)]; exact a10
  · rw [f.2.1 38 0 s (by omega)]; omega
theorem wc_set {w w' : Nat → Int32} {k : Nat} (h0 : w k = 0) (h1 : ¬ w' k = 0) (hn : ∀ j, j ≠ k → w' j = w j) : ∀ (n i : Nat), i ≤ k → k < i + n → wc w' i n = wc w i n + 1
  | 0, i, _, h => by omega
  | n + 1, i, hi, h => by
    show (if w' i = 0 then 0 else 1) + wc w' (i + 1) n = (if w i = 0 then 0 else 1) + wc w (i + 1) n + 1
    by_cases q : i = k
    · subst q
      rw [if_pos h0, if_neg h1, wc_cg (w := w') (w' := w) n (i + 1) (i + 1) (fun k _ => hn _ (by omega))]
      omega
    · rw [hn i q, wc_set h0 h1 hn n (i + 1) (by omega) (by omega)]
      omega
theorem PM.hold {k : Nat} {t : Int64} (p : PM hc hm s e 0) (hk : k < 32) (hw : hm.1 41 0 (32 * s + k) = 0) : PM (pl_hold hc s (hm.2.1 38 0 s + lN k) t) (sd_pl (sd_pi hm 41 0 (32 * s + k) 1) 42 0 (32 * s + k) t) s e 0 := by
  obtain ⟨a1, a2, a3, a4, a5, a6, a7, a8, a9, a10, a11⟩ := p
  have e18 : ∀ x, (pl_hold hc s (hm.2.1 38 0 s + lN k) t).1 18 s x = if x = sl (hm.2.1 38 0 s + lN k) then 1 else hc.1 18 s x := by
    intro x
    show (sd_pi hc 18 s (sl (hm.2.1 38 0 s + lN k)) 1).1 18 s x = _
    by_cases q : x = sl (hm.2.1 38 0 s + lN k)
    · rw [if_pos q, q, sd_pi_eq]
    · rw [if_neg q, sd_pi_ne (fun z => q z.2.2)]
  have e17 : ∀ x, (pl_hold hc s (hm.2.1 38 0 s + lN k) t).2.1 17 s x = if x = sl (hm.2.1 38 0 s + lN k) then t else hc.2.1 17 s x := by
    intro x
    show (sd_pl hc 17 s (sl (hm.2.1 38 0 s + lN k)) t).2.1 17 s x = _
    by_cases q : x = sl (hm.2.1 38 0 s + lN k)
    · rw [if_pos q, q, sd_pl_eq]
    · rw [if_neg q, sd_pl_ne (fun z => q z.2.2)]
  have e41 : ∀ i, (sd_pl (sd_pi hm 41 0 (32 * s + k) 1) 42 0 (32 * s + k) t).1 41 0 (32 * s + i) = if i = k then 1 else hm.1 41 0 (32 * s + i) := by
    intro i
    show (sd_pi hm 41 0 (32 * s + k) 1).1 41 0 (32 * s + i) = _
    by_cases q : i = k
    · rw [if_pos q, q, sd_pi_eq]
    · rw [if_neg q, sd_pi_ne (by omega)]
  have e42 : ∀ i, (sd_pl (sd_pi hm 41 0 (32 * s + k) 1) 42 0 (32 * s + k) t).2.1 42 0 (32 * s + i) = if i = k then t else hm.2.1 42 0 (32 * s + i) := by
    intro i
    show (sd_pl hm 42 0 (32 * s + k) t).2.1 42 0 (32 * s + i) = _
    by_cases q : i = k
    · rw [if_pos q, q, sd_pl_eq]
    · rw [if_neg q, sd_pl_ne (by omega)]
  refine ⟨?_, a2, ?_, ?_, ?_, ?_, a7, a8, ?_, a10, a11⟩
  · show (sd_pi hc 6 s 5 _).1 6 s 1 = _
    rw [sd_pi_ne (by omega), a1]
  · intro i hi
    rw [e41, if_neg (by omega)]
    show (pl_hold hc s (hm.2.1 38 0 s + lN k) t).1 18 s (sl (hm.2.1 38 0 s + lN i)) = _
    rw [e18]
    by_cases q : i = k
    · subst q; rw [if_pos rfl, if_pos rfl]
    · rw [if_neg (sl_ne hi hk q), if_neg q, a3 i hi, if_neg (by omega)]
  · intro i hi _ hw'
    rw [e41] at hw'
    rw [e42]
    show _ = (pl_hold hc s (hm.2.1 38 0 s + lN k) t).2.1 17 s (sl (hm.2.1 38 0 s + lN i))
    rw [e17]
    by_cases q : i = k
    · subst q; rw [if_pos rfl, if_pos rfl]
    · rw [if_neg q] at hw'
      rw [if_neg (sl_ne hi hk q), if_neg q]; exact a4 i hi (by omega) hw'
  · intro i hi
    rw [e41]
    by_cases q : i = k
    · rw [if_pos q]; exact Or.inr rfl
    · rw [if_neg q]; exact a5 i hi
  · show (sd_pi _ 6 s 5 (hc.1 6 s 5 + 1)).1 6 s 5 = _
    rw [sd_pi_eq, a6, nI_1, wc_set (w := fun k => hm.1 41 0 (32 * s + k)) (w' := fun i => (sd_pl (sd_pi hm 41 0 (32 * s + k) 1) 42 0 (32 * s + k) t).1 41 0 (32 * s + i)) (k := k) hw (by rw [e41, if_pos rfl]; decide) (fun j hj => by rw [e41, if_neg hj]) (32 - 0) 0 (by omega) (by omega)]
  · show _ = (sd_pi hc 6 s 5 _).1 6 s 8
    rw [sd_pi_ne (by omega)]; exact a9
theorem PM.forget (p : PM hc hm s e 0) (f : Fx (fun T _ i => T = 41 ∧ 32 * s ≤ i ∧ i < 32 * s + 32) hm hm') (hz : ∀ k, k < 32 → hm'.1 41 0 (32 * s + k) = 0) : PM (pl_forget hc s) hm' s e 0 ∧ ∀ x, x < 32 → (pl_forget hc s).1 18 s x = 0 := by
  obtain ⟨a1, a2, a3, a4, a5, a6, a7, a8, a9, a10, a11⟩ := p
  have e18 : ∀ x, x < 32 → (pl_forget hc s).1 18 s x = 0 := by
    intro x hx
    show (sd_ri hc 18 s (fz (hc.1 18 s) 32)).1 18 s x = _
    rw [sd_ri_at]
    unfold fz
    rw [if_pos hx]
  refine ⟨⟨?_, ?_, ?_, ?_, ?_, ?_, ?_, ?_, ?_, ?_, ?_⟩, e18⟩
  · show (sd_pi (sd_ri hc 18 s _) 6 s 5 _).1 6 s 1 = _
    rw [sd_pi_ne (by omega)]; exact a1
  · rw [f.2.1 38 0 s (by omega)]; exact a2
  · intro k hk
    rw [e18 _ (sl_lt _), if_neg (by omega), hz k hk]
  · intro k hk _ hw
    exact absurd (hz k hk) hw
  · intro k hk
    exact Or.inl (hz k hk)
  · show (sd_pi _ 6 s 5 0).1 6 s 5 = _
    rw [sd_pi_eq, wc_z _ _ (fun k hk => by rw [Nat.zero_add]; exact hz k (by omega))]
    rfl
  · intro c h1 h5
    rw [f.1 43 0 _ (by omega)]; exact a7 c h1 h5
  · rw [f.2.1 39 0 s (by omega)]; exact a8
  · rw [f.1 40 0 s (by omega)]
    show _ = (sd_pi (sd_ri hc 18 s _) 6 s 5 _).1 6 s 8
    rw [sd_pi_ne (by omega)]; exact a9
  · rw [f.2.1 38 0 s (by omega)]; exact a10
  · rw [f.2.1 38 0 s (by omega)]; omega
theorem PM.anew {n T : Int64} {st : Int32} (p : PM hc hm s e 0) (hx : ∀ x, x < 32 → hc.1 18 s x = 0) (hz : ∀ k, k < 32 → hm.1 41 0 (32 * s + k) = 0) (n1 : 0 ≤ n.toInt) (n2 : n.toInt ≤ 1099511627776) : PM (sd_pi (sd_pl (sd_pl hc 6 s 6 n) 6 s 7 T) 6 s 8 st) (sd_pi (sd_pl (sd_pl (sd_pi hm 37 0 s 1) 38 0 s n) 39 0 s T) 40 0 s st) s e 0 := by
  obtain ⟨a1, a2, a3, a4, a5, a6, a7, a8, a9, a10, a11⟩ := p
  have e38 : (sd_pi (sd_pl (sd_pl (sd_pi hm 37 0 s 1) 38 0 s n) 39 0 s T) 40 0 s st).2.1 38 0 s = n := by
    show (sd_pl (sd_pi hm 37 0 s 1) 38 0 s n).2.1 38 0 s = n
    exact sd_pl_eq
  refine ⟨?_, ?_, ?_, ?_, ?_, ?_, a7, ?_, ?_, ?_, ?_⟩
  · show (sd_pi _ 6 s 8 _).1 6 s 1 = _
    rw [sd_pi_ne (by omega)]; exact a1
  · rw [e38]
    show (sd_pl (sd_pl hc 6 s 6 n) 6 s 7 T).2.1 6 s 6 = _
    rw [sd_pl_ne (by omega), sd_pl_eq]
    exact (Int64.add_zero _).symm
  · intro k hk
    rw [if_neg (by omega)]
    show hc.1 18 s _ = hm.1 41 0 _
    rw [hx _ (sl_lt _), hz k hk]
  · intro k hk _ hw
    exact absurd (hz k hk) hw
  · intro k hk
    exact Or.inl (hz k hk)
  · show (sd_pi _ 6 s 8 _).1 6 s 5 = _
    rw [sd_pi_ne (by omega)]; exact a6
  · show (sd_pl _ 39 0 s T).2.1 39 0 s = (sd_pl _ 6 s 7 T).2.1 6 s 7
    rw [sd_pl_eq, sd_pl_eq]
  · rw [sd_pi_eq, sd_pi_eq]
  · rw [e38]; exact n1
  · rw [e38]; omega
end NT
section LY
variable {l : Launch} {Q : Option sd_V → sd_H → Prop} {hc hm : sd_H} {e s : Nat}
theorem sq_mforget (hs : s < 6) (k : ∀ hm', Fx (fun T _ i => T = 41 ∧ 32 * s ≤ i ∧ i < 32 * s + 32) hm hm' → (∀ k, k < 32 → hm'.1 41 0 (32 * s + k) = 0) → Q none hm') : ∀ (n : Nat) (hx : sd_H), n ≤ 32 → Fx (fun T _ i => T = 41 ∧ 32 * s ≤ i ∧ i < 32 * s + 32) hm hx → (∀ k, k < 32 - n → hx.1 41 0 (32 * s + k) = 0) → sd_Wq l none y_X9_forget true Q 2 [some (v_r 7 0), some (v_i (nI s)), some (v_i (nI (32 - n)))] [] hx 0 0
  | 0, hx, hn, f, z => by
    refine sd_go [2] 60 (cd := cd_X9_forget) (by decide) rfl ?_
    exact ⟨fun _ => k hx f (fun k hk => z k (by omega)), fun c => absurd (show (32 : Int32) ≤ nI 32 by decide) c⟩
  | n + 1, hx, hn, f, z => by
    refine sd_go [2] 60 (cd := cd_X9_forget) (by decide) rfl ?_
    generalize hi : 32 - (n + 1) = i at z ⊢
    have hi2 : i < 32 := by omega
    refine ⟨fun c => absurd c (nI_ge (b := 32) hi2 (by decide)), fun _ => ?_⟩
    refine ⟨32 * s + i, ⟨show 32 * s + i < 192 by omega, ix32 s i, Or.inl rfl⟩, ?_⟩
    show sd_Wq l none y_X9_forget true Q 2 [some (v_r 7 0), some (v_i (nI s)), some (v_i (nI i + 1))] [] (sd_pi hx 41 0 (32 * s + i) 0) 0 0
    rw [nI_1, show i + 1 = 32 - n by omega]
    refine sq_mforget hs k n _ (by omega) (f.pi ⟨rfl, by omega, by omega⟩) (fun k hk => ?_)
    by_cases q : k = i
    · rw [q, sd_pi_eq]
    · rw [sd_pi_ne (by omega)]; exact z k (by omega)
theorem sm_forget (hs : s < 6) (k : ∀ hm', Fx (fun T _ i => T = 41 ∧ 32 * s ≤ i ∧ i < 32 * s + 32) hm hm' → (∀ k, k < 32 → hm'.1 41 0 (32 * s + k) = 0) → Q none hm') : sd_E1 l y_X9_forget [v_r 7 0, v_i (nI s)] hm Q := by
  refine sd_e1 [2] 60 (cd := cd_X9_forget) (by decide) rfl (Nat.le_of_ble_eq_true rfl) ?_
  exact sq_mforget hs k 32 hm (Nat.le_refl _) .rf (fun k hk => by omega)
theorem sq_waiting (hs : s < 6) : ∀ (n m : Nat), n ≤ 32 → Q (some (v_i (nI (m + wc (fun k => hm.1 41 0 (32 * s + k)) (32 - n) n)))) hm → sd_Wq l none y_X9_waiting true Q 4 [some (v_r 7 0), some (v_i (nI s)), some (v_i (nI m)), some (v_i (nI (32 - n)))] [] hm 0 0
  | 0, m, hn, k => by
    refine sd_go [4] 60 (cd := cd_X9_waiting) (by decide) rfl ?_
    exact ⟨fun _ => k, fun c => absurd (show (32 : Int32) ≤ nI 32 by decide) c⟩
  | n + 1, m, hn, k => by
    refine sd_go [4] 60 (cd := cd_X9_waiting) (by decide) rfl ?_
    have k : Q (some (v_i (nI (m + ((if hm.1 41 0 (32 * s + (32 - (n + 1))) = 0 then 0 else 1) + wc (fun k => hm.1 41 0 (32 * s + k)) (32 - (n + 1) + 1) n))))) hm := k
    generalize hi : 32 - (n + 1) = i at k ⊢
    have hi2 : i < 32 := by omega
    refine ⟨fun c => absurd c (nI_ge (b := 32) hi2 (by decide)), fun _ => ?_⟩
    refine ⟨32 * s + i, ⟨show 32 * s + i < 192 by omega, ix32 s i⟩, ?_⟩
    rw [show i + 1 = 32 - n by omega] at k
    refine ⟨fun (c1 : hm.1 41 0 (32 * s + i) = 0) => ?_, fun (c1 : ¬ hm.1 41 0 (32 * s + i) = 0) => ?_⟩
    · rw [if_pos c1] at k
      show sd_Wq l none y_X9_waiting true Q 4 [some (v_r 7 0), some (v_i (nI s)), some (v_i (nI m + nI 0)), some (v_i (nI i + 1))] [] hm 0 0
      rw [nI_1, nI_add, show i + 1 = 32 - n by omega]
      refine sq_waiting hs n (m + 0) (by omega) ?_
      rw [show m + 0 + wc (fun k => hm.1 41 0 (32 * s + k)) (32 - n) n = m + (0 + wc (fun k => hm.1 41 0 (32 * s + k)) (32 - n) n) by omega]
      exact k
    · rw [if_neg c1] at k
      show sd_Wq l none y_X9_waiting true Q 4 [some (v_r 7 0), some (v_i (nI s)), some (v_i (nI m + nI 1)), some (v_i (nI i + 1))] [] hm 0 0
      rw [nI_1, nI_add, show i + 1 = 32 - n by omega]
      refine sq_waiting hs n (m + 1) (by omega) ?_
      rw [show m + 1 + wc (fun k => hm.1 41 0 (32 * s + k)) (32 - n) n = m + (1 + wc (fun k => hm.1 41 0 (32 * s + k)) (32 - n) n) by omega]
      exact k
theorem sm_waiting (hs : s < 6) (k : Q (some (v_i (nI (wc (fun k => hm.1 41 0 (32 * s + k)) 0 32)))) hm) : sd_E1 l y_X9_waiting [v_r 7 0, v_i (nI s)] hm Q := by
  refine sd_e1 [4] 60 (cd := cd_X9_waiting) (by decide) rfl (Nat.le_of_ble_eq_true rfl) ?_
  refine sq_waiting hs 32 0 (Nat.le_refl _) ?_
  rw [Nat.zero_add]; exact k
theorem ix320 (s : Nat) : (32 : Int32) * nI s = nI (32 * s + 0) := by rw [show (32 : Int32) = nI 32 from rfl, pk_mul]; rfl
theorem mh2_fxn {c : Nat} {n : Int64} (h : ¬ c ≤ 5) : Fx (fun T _ i => T = 44 ∨ (T = 7 ∧ i = 35)) hm (mh2 hm e c s n) := by
  unfold mh2
  rw [if_neg h]
  unfold mh
  exact ((((Fx.rf.pl (Or.inl rfl)).pl (Or.inl rfl)).pl (Or.inl rfl)).pl (Or.inl rfl)).pi (Or.inr ⟨rfl, rfl⟩)
/-- what lays may change -/
def PLm (s : Nat) (T k i : Nat) : Prop := PPm s T k i ∨ ((T = 37 ∨ T = 39 ∨ T = 40) ∧ i = s)
theorem sm_begins {n : Int64} {st nw dl : Int32} (hs : s < 6) (p : PM hc hm s e 0) (v : EV hc hm e) (hnw : hm.1 7 0 0 = nw) (hdl : hm.1 7 0 1 = dl) (hb : e < 2 ^ 30) (n1 : 0 ≤ n.toInt) (n2 : n.toInt ≤ 1099511627776) (k : ∀ hm', PM (pl_begin hc s e n st nw dl) hm' s (e + 1) 0 → EV (pl_begin hc s e n st nw dl) hm' (e + 1) → Fx (PLm s) hm hm' → hm'.1 37 0 s = 1 → Q none hm') : sd_E1 l y_X9_begins [v_r 7 0, v_i (nI s), v_l n, v_i st] hm Q := by
  refine sd_e1 [] 60 (cd := cd_X9_begins) (by decide) rfl (Nat.le_of_ble_eq_true rfl) ?_
  refine sm_forget hs (fun hm1 f1 z1 => ?_)
  have s6 : s < 6 := hs
  refine ⟨s, ⟨s6, rfl, Or.inr rfl⟩, s, ⟨s6, rfl⟩, s, ⟨s6, rfl⟩, s, ⟨s6, rfl⟩, ?_⟩
  obtain ⟨p1, x1⟩ := p.forget f1 z1
  have v1 : EV (pl_forget hc s) hm1 e := v.cg rfl (fun _ => rfl) (fun _ => rfl) (fun _ => rfl) (fun _ => rfl) (f1.1 7 0 35 (by omega)) (fun i => f1.2.1 44 0 i (by omega))
  have g0 : hm1.1 7 0 0 = nw := by rw [f1.1 7 0 0 (by omega), hnw]
  have g1 : hm1.1 7 0 1 = dl := by rw [f1.1 7 0 1 (by omega), hdl]
  have p2 := p1.anew (n := n) (T := nw.toInt64 + dl.toInt64) (st := st) x1 z1 n1 n2
  have v2 : EV (sd_pi (sd_pl (sd_pl (pl_forget hc s) 6 s 6 n) 6 s 7 (nw.toInt64 + dl.toInt64)) 6 s 8 st) (sd_pi (sd_pl (sd_pl (sd_pi hm1 37 0 s 1) 38 0 s n) 39 0 s (nw.toInt64 + dl.toInt64)) 40 0 s st) e := v1.cg rfl (fun _ => rfl) (fun _ => rfl) (fun _ => rfl) (fun _ => rfl) rfl (fun _ => rfl)
  have F2 : Fx (PLm s) hm (sd_pi (sd_pl (sd_pl (sd_pi hm1 37 0 s 1) 38 0 s n) 39 0 s (nw.toInt64 + dl.toInt64)) 40 0 s st) := by
    refine ((((f1.mono (P' := PLm s) (fun T k i q => by unfold PLm PPm; omega)).pi ?_).pl ?_).pl ?_).pi ?_
    all_goals (unfold PLm PPm; omega)
  show sd_E1 l y_X9_happens [v_r 7 0, v_i (nI 6), v_i (nI s), v_l n] (sd_pi (sd_pl (sd_pl (sd_pi hm1 37 0 s 1) 38 0 s n) 39 0 s ((hm1.1 7 0 0).toInt64 + (hm1.1 7 0 1).toInt64)) 40 0 s st) _
  rw [g0, g1]
  have e37 : (sd_pi (sd_pl (sd_pl (sd_pi hm1 37 0 s 1) 38 0 s n) 39 0 s (nw.toInt64 + dl.toInt64)) 40 0 s st).1 37 0 s = 1 := by
    show (sd_pi hm1 37 0 s 1).1 37 0 s = 1
    exact sd_pi_eq
  have e38 : (sd_pi (sd_pl (sd_pl (sd_pi hm1 37 0 s 1) 38 0 s n) 39 0 s (nw.toInt64 + dl.toInt64)) 40 0 s st).2.1 38 0 s = n := by
    show (sd_pl (sd_pi hm1 37 0 s 1) 38 0 s n).2.1 38 0 s = n
    exact sd_pl_eq
  have e39 : (sd_pi (sd_pl (sd_pl (sd_pi hm1 37 0 s 1) 38 0 s n) 39 0 s (nw.toInt64 + dl.toInt64)) 40 0 s st).2.1 39 0 s = nw.toInt64 + dl.toInt64 := by
    show (sd_pl _ 39 0 s (nw.toInt64 + dl.toInt64)).2.1 39 0 s = _
    exact sd_pl_eq
  have e00 : (sd_pi (sd_pl (sd_pl (sd_pi hm1 37 0 s 1) 38 0 s n) 39 0 s (nw.toInt64 + dl.toInt64)) 40 0 s st).1 7 0 0 = nw := g0
  have z2 : ∀ k, k < 32 → (sd_pi (sd_pl (sd_pl (sd_pi hm1 37 0 s 1) 38 0 s n) 39 0 s (nw.toInt64 + dl.toInt64)) 40 0 s st).1 41 0 (32 * s + k) = 0 := z1
  generalize hh : sd_pi (sd_pl (sd_pl (sd_pi hm1 37 0 s 1) 38 0 s n) 39 0 s (nw.toInt64 + dl.toInt64)) 40 0 s st = hm2 at p2 v2 F2 e37 e38 e39 e00 z2 ⊢
  refine sm_happens (e := e) (c := 6) (s := s) v2.2.1 hb hs (by decide) ?_
  obtain ⟨p3, v3⟩ := p2.note (c := 6) (nw := nw) (n := n) v2 (by decide) e00 hs (by decide) (by omega)
  have f3 := mh2_fxn (hm := hm2) (e := e) (c := 6) (s := s) (n := n) (by decide)
  have h37 : (mh2 hm2 e 6 s n).1 37 0 s = 1 := by rw [f3.1 37 0 s (by omega), e37]
  have h38 : (mh2 hm2 e 6 s n).2.1 38 0 s = n := by rw [f3.2.1 38 0 s (by omega), e38]
  have h39 : (mh2 hm2 e 6 s n).2.1 39 0 s = nw.toInt64 + dl.toInt64 := by rw [f3.2.1 39 0 s (by omega), e39]
  have h41 : (mh2 hm2 e 6 s n).1 41 0 (32 * s + 0) = 0 := by rw [f3.1 41 0 _ (by omega), z2 0 (by omega)]
  have F3 := F2.tr ((f3.mono (P' := PLm s) (fun T k i q => by unfold PLm PPm; omega)))
  generalize mh2 hm2 e 6 s n = hm3 at p3 v3 h37 h38 h39 h41 F3 ⊢
  refine ⟨32 * s + 0, ⟨show 32 * s + 0 < 192 by omega, ix320 s, Or.inr rfl⟩, ?_⟩
  refine ⟨s, ⟨s6, rfl⟩, 32 * s + 0, ⟨show 32 * s + 0 < 192 by omega, ix320 s⟩, ?_⟩
  have p4 := p3.hold (k := 0) (t := nw.toInt64 + dl.toInt64) (by decide) h41
  rw [h38, show n + lN 0 = n from Int64.add_zero _] at p4
  show Q none (sd_pl (sd_pi hm3 41 0 (32 * s + 0) 1) 42 0 (32 * s + 0) (hm3.2.1 39 0 s))
  rw [h39]
  refine k _ p4 ?_ ((F3.pi ?_).pl ?_) h37
  · exact v3.cg rfl (fun _ => rfl) (fun _ => rfl) (fun _ => rfl) (fun _ => rfl) rfl (fun _ => rfl)
  · unfold PLm PPm; omega
  · unfold PLm PPm; omega
end LY
