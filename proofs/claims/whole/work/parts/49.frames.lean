/-! what the class's calls leave of the reference; small calls of both -/
def PCl (T _k _i : Nat) : Prop := T < 7 ∨ (7 < T ∧ T < 19)
theorem CO.of {h h' : sd_H} (x : Fx PCl h h') : CO h h' := fun T q =>
  ⟨funext fun k => funext fun i => x.1 T k i (by unfold PCl; omega), funext fun k => funext fun i => x.2.1 T k i (by unfold PCl; omega)⟩
theorem CO.tr {a b c : sd_H} (x : CO a b) (z : CO b c) : CO a c := fun T q => ⟨(z T q).1.trans (x T q).1, (z T q).2.trans (x T q).2⟩
section CF
variable {h h0 : sd_H} {sn s e sz : Nat}
theorem pk_app_cl {v : Int64} {m : Nat} (x : Fx PCl h0 h) : Fx PCl h0 (pk_app v m h sz) := pk_app_fx (by unfold PCl; omega) (fun i => by unfold PCl; omega) _ _ _ x
theorem PCp_cl {x y : sd_H} (f : Fx (PCp s) x y) : Fx PCl x y := f.mono (fun T k i q => by unfold PCp at q; unfold PCl; omega)
theorem PBc_cl {x y : sd_H} (f : Fx (PBc s) x y) : Fx PCl x y := f.mono (fun T k i q => by unfold PBc at q; unfold PCl; omega)
theorem dk_pass_cl {nw : Int32} : ∀ (n i : Nat) (h : sd_H) (e : Nat) (d : Int32), Fx PCl h0 h → Fx PCl h0 (dk_pass nw i n h e d).2.1
  | 0, _, _, _, _, x => x
  | n + 1, i, h, e, d, x => dk_pass_cl n (i + 1) _ _ _ (x.tr (PCp_cl (pl_play_fx _ _ _ _ .rf)))
theorem dk_wr_cl {nw : Int32} : ∀ (n i : Nat) (h : sd_H) (sz : Nat), Fx PCl h0 h → Fx PCl h0 (dk_wr nw i n h sz).1
  | 0, _, _, _, x => x
  | n + 1, i, h, sz, x => by
    unfold dk_wr
    split
    · exact dk_wr_cl n (i + 1) _ _ (x.tr (PBc_cl sn_b3_fx))
    · exact dk_wr_cl n (i + 1) _ _ x
theorem dk_report_cl {own : Int32} : Fx PCl h (dk_report h sn own).1 := by
  unfold dk_report
  refine dk_wr_cl _ _ _ _ ?_
  unfold dk_head
  exact pk_app_cl (pk_app_cl (pk_app_cl (pk_app_cl ((Fx.rf.pi (by unfold PCl; omega)).pi (by unfold PCl; omega)))))
theorem sn_leave_cl {nw : Int32} (x : Fx PCl h0 h) : Fx PCl h0 (sn_leave h s e nw) := by
  unfold sn_leave
  split
  · exact (x.pi (by unfold PCl; omega)).tr (PCp_cl (pl_note_fx (pl_forget_fx .rf)))
  · exact x
theorem dk_leave_cl {p : Int32} : ∀ (n k : Nat) (h : sd_H) (e : Nat), Fx PCl h0 h → Fx PCl h0 (dk_leave sn p n k h e).1
  | 0, _, _, _, x => x
  | n + 1, k, h, e, x => by
    refine dk_leave_cl n (k + 1) _ _ ?_
    unfold dk_lv
    split
    · exact x
    · exact sn_leave_cl x
theorem dk_blocks_cl {p hl : Int32} : ∀ (n k : Nat) (h : sd_H), Fx PCl h0 h → Fx PCl h0 (dk_blocks p hl n k h)
  | 0, _, _, x => x
  | n + 1, k, h, x => by
    refine dk_blocks_cl n (k + 1) _ ?_
    unfold dk_blk
    split
    · unfold dk_keep
      exact ((((((x.pi (by unfold PCl; omega)).pi (by unfold PCl; omega)).pi (by unfold PCl; omega)).pi (by unfold PCl; omega)).pi (by unfold PCl; omega)).pi (by unfold PCl; omega)).pi (by unfold PCl; omega)
    · exact x
theorem dk_clock_cl {p : Int32} (x : Fx PCl h0 h) : Fx PCl h0 (dk_clock h sn p) := by
  unfold dk_clock
  split
  · exact x
  · unfold sn_clock
    exact ((x.pi (by unfold PCl; omega)).pi (by unfold PCl; omega)).pi (by unfold PCl; omega)
theorem dk_part_cl {p : Int32} (x : Fx PCl h0 h) : Fx PCl h0 (dk_part h e sn p).1 := by
  unfold dk_part
  split
  · exact dk_leave_cl _ _ _ _ x
  · split
    · exact dk_blocks_cl _ _ _ (dk_clock_cl x)
    · split
      · exact dk_blocks_cl _ _ _ x
      · exact x
theorem dk_hear_cl : ∀ (n : Nat) (h : sd_H) (e : Nat) (p : Int32), Fx PCl h0 h → Fx PCl h0 (dk_hear sn n h e p).2.1
  | 0, _, _, _, x => x
  | n + 1, h, e, p, x => by
    unfold dk_hear
    split
    · exact x
    · exact dk_hear_cl n _ _ _ (dk_part_cl x)
theorem dk_take_cl : Fx PCl h (dk_take h s e).2 := dk_take_fx.mono (fun T k i q => by unfold PCt PCp at q; unfold PCl; omega)
theorem dk_new_co {b q : Int32} : CO h (dk_new h sn b q) := by
  intro T hT
  have n0 : T ≠ 0 := by omega
  have n3 : T ≠ 3 := by omega
  have n4 : T ≠ 4 := by omega
  have n5 : T ≠ 5 := by omega
  have n6 : T ≠ 6 := by omega
  have n9 : T ≠ 9 := by omega
  have n16 : T ≠ 16 := by omega
  have n17 : T ≠ 17 := by omega
  have n18 : T ≠ 18 := by omega
  constructor <;> simp [dk_new, sn_new, pl_new, sd_pi, sd_pr, sd_nw, sd_ri, n0, n3, n4, n5, n6, n9, n16, n17, n18]
end CF
section BO
variable {hc hm : sd_H} {sz nw sn e t : Nat} {g : Nat → Nat}
/-- a change that SENDERS and EVENTS do not see -/
theorem RR.small {P P' : Nat → Nat → Nat → Prop} {hc' hm' : sd_H} {sz' : Nat} {g' : Nat → Nat} (R : RR hc hm sz g nw sn e t) (x : Fx P hc hc') (z : Fx P' hm hm') (q : ∀ T k i, P T k i → T = 0 ∧ i ≠ 5 ∨ T = 1 ∨ T = 8 ∨ T = 11) (q' : ∀ T k i, P' T k i → (T = 7 ∧ i ≠ 35) ∨ T = 19 ∨ T = 20) (p : PK hc' hm' sz' g') (rg : RG hc' hm' nw sn) : RR hc' hm' sz' g' nw sn e (t + 1) := by
  obtain ⟨r1, r2, r3, r4, r5, r6, r7, r8⟩ := R
  have ma : ∀ s, MA hm hm' s := fun s => MA.fx z (fun T h1 h2 y => by have := q' _ _ _ y; omega) (fun T i h1 h2 h3 y => by have := q' _ _ _ y; omega) (fun i h1 h2 y => by have := q' _ _ _ y; omega)
  have ca : ∀ s, CA hc hc' s := fun s => CA.fx x (fun T i h y => by have := q _ _ _ y; omega)
  exact ⟨p, rg, r3.fx x (fun y => by have := q _ _ _ y; omega), r4.fx x, r5.cg (x.1 2 0 4 (fun y => by have := q _ _ _ y; omega)) (fun j => x.1 12 0 j (fun y => by have := q _ _ _ y; omega)) (fun j => x.1 13 0 j (fun y => by have := q _ _ _ y; omega)) (fun j => x.2.1 14 0 j (fun y => by have := q _ _ _ y; omega)) (fun j => x.1 15 0 j (fun y => by have := q _ _ _ y; omega)) (z.1 7 0 35 (fun y => by have := q' _ _ _ y; omega)) (fun j => z.2.1 44 0 j (fun y => by have := q' _ _ _ y; omega)), by omega, fun s hs => (r7 s hs).cg (ca s) (ma s) (Nat.le_refl _) (by omega), fun s h1 h2 => (r8 s h1 h2).cg (ma s)⟩
theorem RR.type {v : Int64} {m : Nat} (R : RR hc hm sz g nw sn e t) (hm8 : m ≤ 8) (hle : sz + m ≤ 300) : ∃ g', RR (pk_app v m hc sz) (mp_all (mt v) m hm sz) (sz + m) g' nw sn e (t + 1) := by
  obtain ⟨g', p⟩ := PK.app (v := v) (b := mt v) m hc hm sz g R.1 hle (fun k hk => ab_mt v k (by omega))
  exact ⟨g', R.pk (pk_app_fx (Or.inl rfl) (fun _ => Or.inr rfl) _ _ _ .rf) (mp_all_fx (Or.inl ⟨rfl, rfl⟩) (fun _ => Or.inr rfl) _ _ _ .rf) p⟩
theorem RR.clear (R : RR hc hm sz g nw sn e t) : RR (sd_pi hc 1 0 1 0) (sd_pi hm 7 0 2 0) 0 g nw sn e (t + 1) :=
  R.pk (Fx.rf.pi (Or.inl rfl)) (Fx.rf.pi (Or.inl ⟨rfl, rfl⟩)) ⟨rfl, rfl, by omega, R.1.2.2.2⟩
theorem RR.alter {j : Nat} {v : Int32} (R : RR hc hm sz g nw sn e t) (hj : j < sz) (hv : 0 ≤ v ∧ v ≤ 255) : ∃ g', RR (sd_pi hc 11 0 j (v &&& 255)) (sd_pi hm 19 0 j v) sz g' nw sn e (t + 1) := by
  obtain ⟨b, hb, rfl⟩ := nI_of2 (M := 255) (n := 255) rfl (Int32.not_lt.mpr hv.1) hv.2
  have ev : nI b &&& 255 = nI b := by
    have := pk_andN (n := b) (by omega) (m := 255) 8 (by decide)
    rw [this, Nat.mod_eq_of_lt (by omega)]
  rw [ev]
  refine ⟨fun i => if i = j then b else g i, R.pk (Fx.rf.pi (Or.inr rfl)) (Fx.rf.pi (Or.inr rfl)) ⟨R.1.1, R.1.2.1, R.1.2.2.1, fun i hi => ?_⟩⟩
  show (sd_pi hm 19 0 j (nI b)).1 19 0 i = nI (if i = j then b else g i) ∧ (sd_pi hc 11 0 j (nI b)).1 11 0 i = nI (if i = j then b else g i) ∧ (if i = j then b else g i) < 256
  by_cases q : i = j
  · rw [q, sd_pi_eq, sd_pi_eq, if_pos rfl]; exact ⟨rfl, rfl, by omega⟩
  · rw [sd_pi_ne (fun z => q z.2.2), sd_pi_ne (fun z => q z.2.2), if_neg q]; exact R.1.2.2.2 i hi
theorem RR.rate {j : Nat} {v : Int32} (R : RR hc hm sz g nw sn e t) (hv : 0 ≤ v ∧ v ≤ 200000) : RR (sd_pi hc 8 0 j v) (sd_pi hm 20 0 j v) sz g nw sn e (t + 1) := by
  have p : PK (sd_pi hc 8 0 j v) (sd_pi hm 20 0 j v) sz g := R.1
  obtain ⟨a1, a2, a3, a4, a5, a6, a7, a8, a9, a10⟩ := R.2.1
  refine R.small (P := fun T _ _ => T = 8) (P' := fun T _ _ => T = 20) (Fx.rf.pi rfl) (Fx.rf.pi rfl) (fun T k i q => by omega) (fun T k i q => by omega) p ⟨fun i hi => ?_, a2, a3, a4, a5, a6, a7, a8, a9, a10⟩
  by_cases q : i = j
  · rw [q, sd_pi_eq, sd_pi_eq]
    refine ⟨rfl, ?_, ?_⟩
    · have := hv.1; rw [Int32.le_iff_toInt_le] at this; exact this
    · have := hv.2; rw [Int32.le_iff_toInt_le] at this; exact this
  · rw [sd_pi_ne (fun z => q z.2.2), sd_pi_ne (fun z => q z.2.2)]; exact a1 i hi
theorem RR.delay {v : Int32} (R : RR hc hm sz g nw sn e t) : RR (sd_pi hc 0 0 7 v) (sd_pi hm 7 0 1 v) sz g nw sn e (t + 1) := by
  have p : PK (sd_pi hc 0 0 7 v) (sd_pi hm 7 0 1 v) sz g := R.1
  obtain ⟨a1, a2, a3, a4, a5, a6, a7, a8, a9, a10⟩ := R.2.1
  exact R.small (P := fun T _ i => T = 0 ∧ i = 7) (P' := fun T _ i => T = 7 ∧ i = 1) (Fx.rf.pi ⟨rfl, rfl⟩) (Fx.rf.pi ⟨rfl, rfl⟩) (fun T k i q => by omega) (fun T k i q => by omega) p ⟨a1, a2, rfl, a4, a5, a6, a7, a8, a9, a10⟩
end BO
