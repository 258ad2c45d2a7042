/-! StreamDesk: report and digest; Sender.writeBlock -/
theorem pk_app_fr {v : Int64} : ∀ (m : Nat) (h : sd_H) (sz : Nat), (pk_app v m h sz).2 = h.2 ∧ ∀ T, T ≠ 1 → T ≠ 11 → (pk_app v m h sz).1 T = h.1 T
  | 0, h, _ => ⟨rfl, fun _ _ _ => rfl⟩
  | m + 1, h, sz => by
    obtain ⟨a1, a2⟩ := pk_app_fr (v := v) m (sd_pi (sd_pi h 11 0 sz (ab v m)) 1 0 1 (nI (sz + 1))) (sz + 1)
    refine ⟨a1, fun T h1 h2 => (a2 T h1 h2).trans ?_⟩
    rw [sd_pi_T h1, sd_pi_T h2]
theorem pk_app_T {v : Int64} {m sz T : Nat} {h : sd_H} (h1 : T ≠ 1) (h2 : T ≠ 11) : (pk_app v m h sz).1 T = h.1 T := (pk_app_fr m h sz).2 T h1 h2
theorem pk_app_s {v : Int64} : ∀ (m : Nat) (h : sd_H) (sz : Nat), h.1 1 0 1 = nI sz → (pk_app v m h sz).1 1 0 1 = nI (sz + m)
  | 0, _, _, hz => hz
  | m + 1, h, sz, hz => by rw [show sz + (m + 1) = sz + 1 + m by omega]; exact pk_app_s m _ _ rfl
/-- the clock's two numbers in a BLOCK -/
def sn_last (h : sd_H) (s : Nat) : Int64 := if h.1 3 s 5 = 0 then 0 else (h.1 3 s 6).toInt64
def sn_since (h : sd_H) (s : Nat) (nw : Int32) : Int64 := if h.1 3 s 5 = 0 then 0 else (nw - h.1 3 s 7).toInt64 * 65536 / 1000
def sn_b1 (h : sd_H) (s sz : Nat) : sd_H := pk_app (nb_frac (h.1 4 s)).toInt64 1 (sd_ri (pk_app (h.1 3 s 0).toInt64 4 h sz) 4 s (nb_tf (h.1 4 s))) (sz + 4)
def sn_b2 (h : sd_H) (s sz : Nat) : sd_H := pk_app (h.1 4 s 1 + h.1 4 s 0).toInt64 4 (pk_app (nb_lost (h.1 4 s)).toInt64 3 (sn_b1 h s sz) (sz + 5)) (sz + 8)
def sn_b3 (h : sd_H) (s sz : Nat) (nw : Int32) : sd_H := pk_app (sn_since h s nw) 4 (pk_app (sn_last h s) 4 (pk_app (h.1 5 s 0 >>> 4).toInt64 4 (sn_b2 h s sz) (sz + 12)) (sz + 16)) (sz + 20)
theorem sn_b1_T {h : sd_H} {s sz T : Nat} (h1 : T ≠ 1) (h2 : T ≠ 11) (h3 : T ≠ 4) : (sn_b1 h s sz).1 T = h.1 T := by
  unfold sn_b1; rw [pk_app_T h1 h2, sd_ri_T h3, pk_app_T h1 h2]
theorem sn_b1_4 {h : sd_H} {s sz : Nat} : (sn_b1 h s sz).1 4 s = nb_tf (h.1 4 s) := by
  unfold sn_b1; rw [pk_app_T (by decide) (by decide)]; exact sd_ri_at
theorem sn_b2_T {h : sd_H} {s sz T : Nat} (h1 : T ≠ 1) (h2 : T ≠ 11) (h3 : T ≠ 4) : (sn_b2 h s sz).1 T = h.1 T := by
  unfold sn_b2; rw [pk_app_T h1 h2, pk_app_T h1 h2, sn_b1_T h1 h2 h3]
theorem sn_b3_T {h : sd_H} {s sz T : Nat} {nw : Int32} (h1 : T ≠ 1) (h2 : T ≠ 11) (h3 : T ≠ 4) : (sn_b3 h s sz nw).1 T = h.1 T := by
  unfold sn_b3; rw [pk_app_T h1 h2, pk_app_T h1 h2, pk_app_T h1 h2, sn_b2_T h1 h2 h3]
section WB
variable {l : Launch} {Q : Option sd_V → sd_H → Prop} {sn s : Nat} {h : sd_H}
theorem sn_b1_s {sz : Nat} (hz : h.1 1 0 1 = nI sz) : (sn_b1 h s sz).1 1 0 1 = nI (sz + 5) := by
  unfold sn_b1
  have a := pk_app_s (v := (h.1 3 s 0).toInt64) 4 h sz hz
  have b := pk_app_s (v := (nb_frac (h.1 4 s)).toInt64) 1 (sd_ri (pk_app (h.1 3 s 0).toInt64 4 h sz) 4 s (nb_tf (h.1 4 s))) (sz + 4) a
  exact b
theorem sn_b2_s {sz : Nat} (hz : h.1 1 0 1 = nI sz) : (sn_b2 h s sz).1 1 0 1 = nI (sz + 12) := by
  unfold sn_b2
  exact pk_app_s (v := (h.1 4 s 1 + h.1 4 s 0).toInt64) 4 _ (sz + 8) (pk_app_s (v := (nb_lost (h.1 4 s)).toInt64) 3 _ (sz + 5) (sn_b1_s hz))
theorem sn_b3_s {sz : Nat} {nw : Int32} (hz : h.1 1 0 1 = nI sz) : (sn_b3 h s sz nw).1 1 0 1 = nI (sz + 24) := by
  unfold sn_b3
  exact pk_app_s (v := sn_since h s nw) 4 _ (sz + 20) (pk_app_s (v := sn_last h s) 4 _ (sz + 16) (pk_app_s (v := (h.1 5 s 0 >>> 4).toInt64) 4 _ (sz + 12) (sn_b2_s hz)))
theorem sp_writeBlock {sz : Nat} {nw : Int32} (hz : h.1 1 0 1 = nI sz) (hle : sz + 24 ≤ 300) (k : Q none (sn_b3 h s sz nw)) : sd_E1 l y_X7_writeBlock [v_r 3 s, v_r 1 0, v_i nw] h Q := by
  refine sd_e1 [] 90 (cd := cd_X7_writeBlock) (by decide) rfl (Nat.le_of_ble_eq_true rfl) ?_
  refine sp_append (m := 4) hz (by omega) ?_
  refine sp_takeFraction ?_
  have e4 : (pk_app (h.1 3 s 0).toInt64 4 h sz).1 4 s = h.1 4 s := by rw [pk_app_T (by decide) (by decide)]
  show sd_E1 l y_X4_append [v_r 1 0, v_l (nb_frac ((pk_app (h.1 3 s 0).toInt64 4 h sz).1 4 s)).toInt64, v_i (nI 1)] (sd_ri (pk_app (h.1 3 s 0).toInt64 4 h sz) 4 s (nb_tf ((pk_app (h.1 3 s 0).toInt64 4 h sz).1 4 s))) _
  rw [e4]
  refine sp_append (m := 1) (sz := sz + 4) (pk_app_s (v := (h.1 3 s 0).toInt64) 4 h sz hz) (by omega) ?_
  refine sp_lost ?_
  have e5 : nb_lost ((sn_b1 h s sz).1 4 s) = nb_lost (h.1 4 s) := by rw [sn_b1_4]; rfl
  show sd_E1 l y_X4_append [v_r 1 0, v_l (nb_lost ((sn_b1 h s sz).1 4 s)).toInt64, v_i (nI 3)] (sn_b1 h s sz) _
  rw [e5]
  refine sp_append (m := 3) (sz := sz + 5) (sn_b1_s hz) (by omega) ?_
  have e6 : (pk_app (nb_lost (h.1 4 s)).toInt64 3 (sn_b1 h s sz) (sz + 5)).1 4 s = nb_tf (h.1 4 s) := by rw [pk_app_T (by decide) (by decide), sn_b1_4]
  have e6' : (pk_app (nb_lost (h.1 4 s)).toInt64 3 (sn_b1 h s sz) (sz + 5)).1 4 s 1 + (pk_app (nb_lost (h.1 4 s)).toInt64 3 (sn_b1 h s sz) (sz + 5)).1 4 s 0 = h.1 4 s 1 + h.1 4 s 0 := by rw [e6]; rfl
  show sd_E1 l y_X4_append [v_r 1 0, v_l ((pk_app (nb_lost (h.1 4 s)).toInt64 3 (sn_b1 h s sz) (sz + 5)).1 4 s 1 + (pk_app (nb_lost (h.1 4 s)).toInt64 3 (sn_b1 h s sz) (sz + 5)).1 4 s 0).toInt64, v_i (nI 4)] (pk_app (nb_lost (h.1 4 s)).toInt64 3 (sn_b1 h s sz) (sz + 5)) _
  rw [e6']
  refine sp_append (m := 4) (sz := sz + 8) (pk_app_s 3 _ (sz + 5) (sn_b1_s hz)) (by omega) ?_
  have e7 : (sn_b2 h s sz).1 5 s 0 = h.1 5 s 0 := by rw [sn_b2_T (by decide) (by decide) (by decide)]
  show sd_E1 l y_X4_append [v_r 1 0, v_l ((sn_b2 h s sz).1 5 s 0 >>> 4).toInt64, v_i (nI 4)] (sn_b2 h s sz) _
  rw [e7]
  refine sp_append (m := 4) (sz := sz + 12) (sn_b2_s hz) (by omega) ?_
  have hs3 := pk_app_s (v := (h.1 5 s 0 >>> 4).toInt64) 4 _ (sz + 12) (sn_b2_s (s := s) hz)
  have e8 : ∀ i, (pk_app (h.1 5 s 0 >>> 4).toInt64 4 (sn_b2 h s sz) (sz + 12)).1 3 s i = h.1 3 s i := fun i => by rw [pk_app_T (by decide) (by decide), sn_b2_T (by decide) (by decide) (by decide)]
  have e9 : ∀ (v : Int64) i, (pk_app v 4 (pk_app (h.1 5 s 0 >>> 4).toInt64 4 (sn_b2 h s sz) (sz + 12)) (sz + 16)).1 3 s i = h.1 3 s i := fun v i => by rw [pk_app_T (by decide) (by decide), e8]
  unfold sn_b3 sn_last sn_since at k
  refine ⟨fun c1 => ?_, fun c1 => ?_⟩
  · have c1' : h.1 3 s 5 = 0 := (e8 5).symm.trans c1
    rw [if_pos c1', if_pos c1'] at k
    refine sp_append (m := 4) (sz := sz + 16) hs3 (by omega) ?_
    refine ⟨fun _ => ?_, fun c2 => absurd ((e9 0 5).trans c1') c2⟩
    exact sp_append (m := 4) (sz := sz + 20) (pk_app_s 4 _ (sz + 16) hs3) (by omega) k
  · have c1' : ¬ h.1 3 s 5 = 0 := fun q => c1 ((e8 5).trans q)
    rw [if_neg c1', if_neg c1'] at k
    show sd_E1 l y_X4_append [v_r 1 0, v_l ((pk_app (h.1 5 s 0 >>> 4).toInt64 4 (sn_b2 h s sz) (sz + 12)).1 3 s 6).toInt64, v_i (nI 4)] (pk_app (h.1 5 s 0 >>> 4).toInt64 4 (sn_b2 h s sz) (sz + 12)) _
    rw [e8]
    refine sp_append (m := 4) (sz := sz + 16) hs3 (by omega) ?_
    refine ⟨fun c2 => absurd ((e9 _ 5).symm.trans c2) c1', fun _ => ?_⟩
    refine ⟨by decide, ?_⟩
    show sd_E1 l y_X4_append [v_r 1 0, v_l ((nw - (pk_app (h.1 3 s 6).toInt64 4 (pk_app (h.1 5 s 0 >>> 4).toInt64 4 (sn_b2 h s sz) (sz + 12)) (sz + 16)).1 3 s 7).toInt64 * 65536 / 1000), v_i (nI 4)] (pk_app (h.1 3 s 6).toInt64 4 (pk_app (h.1 5 s 0 >>> 4).toInt64 4 (sn_b2 h s sz) (sz + 12)) (sz + 16)) _
    rw [e9]
    exact sp_append (m := 4) (sz := sz + 20) (pk_app_s 4 _ (sz + 16) hs3) (by omega) k
/-- how many BLOCKS, and the BLOCKS -/
def dk_rep (h : sd_H) (s : Nat) : Bool := decide (h.1 4 s 4 = 0 ∧ h.1 3 s 4 = 0)
def dk_cnt (h : sd_H) : Nat → Nat → Nat
  | _, 0 => 0
  | i, n + 1 => (if dk_rep h i = true then 1 else 0) + dk_cnt h (i + 1) n
def dk_wr (nw : Int32) : Nat → Nat → sd_H → Nat → sd_H × Nat
  | _, 0, h, sz => (h, sz)
  | i, n + 1, h, sz => if dk_rep h i = true then dk_wr nw (i + 1) n (sn_b3 h i sz nw) (sz + 24) else dk_wr nw (i + 1) n h sz
theorem dk_cnt_le (h : sd_H) : ∀ (n i : Nat), dk_cnt h i n ≤ n
  | 0, _ => Nat.le_refl _
  | n + 1, i => by
    have := dk_cnt_le h n (i + 1)
    unfold dk_cnt
    split <;> omega
def dk_head (h : sd_H) (own : Int32) (b : Nat) : sd_H := pk_app own.toInt64 4 (pk_app (1 + nI b * 6).toInt64 2 (pk_app 201 1 (pk_app (128 + nI b).toInt64 1 (sd_pi h 1 0 1 0) 0) 1) 2) 4
theorem dk_head_T {own : Int32} {b T : Nat} (h1 : T ≠ 1) (h2 : T ≠ 11) : (dk_head h own b).1 T = h.1 T := by
  unfold dk_head
  rw [pk_app_T h1 h2, pk_app_T h1 h2, pk_app_T h1 h2, pk_app_T h1 h2, sd_pi_T h1]
theorem dk_head_s {own : Int32} {b : Nat} : (dk_head h own b).1 1 0 1 = nI 8 := by
  unfold dk_head
  exact pk_app_s 4 _ 4 (pk_app_s 2 _ 2 (pk_app_s 1 _ 1 (pk_app_s 1 _ 0 rfl)))
theorem dk_head_2 {own : Int32} {b : Nat} : (dk_head h own b).2 = h.2 := by
  unfold dk_head
  rw [(pk_app_fr _ _ _).1, (pk_app_fr _ _ _).1, (pk_app_fr _ _ _).1, (pk_app_fr _ _ _).1]; rfl
theorem sn_b3_2 {sz : Nat} {nw : Int32} : (sn_b3 h s sz nw).2 = h.2 := by
  unfold sn_b3 sn_b2 sn_b1
  rw [(pk_app_fr _ _ _).1, (pk_app_fr _ _ _).1, (pk_app_fr _ _ _).1, (pk_app_fr _ _ _).1, (pk_app_fr _ _ _).1, (pk_app_fr _ _ _).1]
  show (pk_app (h.1 3 s 0).toInt64 4 h sz).2 = h.2
  exact (pk_app_fr _ _ _).1
set_option maxRecDepth 100000 in
theorem sq_cnt {own : Int32} (hN : SN h sn) : ∀ (n : Nat) (b : Nat) , n ≤ 6 → b + n ≤ 12 → sd_Wq l none y_X8_report true Q 37 [some (v_r 0 0), some (v_i own), some (v_i (nI (b + dk_cnt h (6 - n) (sn - (6 - n))))), some (v_i (nI 6)), none] [] h 0 0 → sd_Wq l none y_X8_report true Q 9 [some (v_r 0 0), some (v_i own), some (v_i (nI b)), some (v_i (nI (6 - n))), none] [] h 0 0
  | 0, b, hn, hb, k => by
    refine sd_go [9, 37, 97] 80 (cd := cd_X8_report) (by decide) rfl ?_
    refine ⟨fun _ => ?_, fun c => absurd (show (6 : Int32) ≤ nI 6 by decide) c⟩
    have e0 : sn - (6 - 0) = 0 := by have := hN.2.1; omega
    rw [e0] at k
    exact k
  | n + 1, b, hn, hb, k => by
    refine sd_go [9, 37, 97] 80 (cd := cd_X8_report) (by decide) rfl ?_
    refine ⟨fun c => absurd c ?_, fun _ => ?_⟩
    · exact Int32.not_le.mpr (nI_lt (a := 6 - (n + 1)) (b := 6) (by omega) (by decide))
    have ei : nI (6 - (n + 1)) + 1 = nI (6 - n) := by rw [nI_1, show 6 - (n + 1) + 1 = 6 - n by omega]
    have stay : dk_cnt h (6 - (n + 1)) (sn - (6 - (n + 1))) = dk_cnt h (6 - n) (sn - (6 - n)) → sd_Wq l none y_X8_report true Q 9 [some (v_r 0 0), some (v_i own), some (v_i (nI b + 0)), some (v_i (nI (6 - (n + 1)) + 1)), none] [] h 0 0 := by
      intro ec
      rw [ei, show nI b + 0 = nI b from Int32.add_zero _]
      refine sq_cnt hN n b (by omega) (by omega) ?_
      rw [← ec]; exact k
    refine sp_reported hN (fun c => ?_) (fun s hs es c1 c2 => ?_)
    · refine ⟨fun _ => stay ?_, fun n' c => (by cases c)⟩
      rcases c with c | ⟨s, hs, es, hc⟩
      · have hge : sn ≤ 6 - (n + 1) := by
          rcases c with c | c
          · exact absurd c (nI_pos (by omega))
          · exact (nI_leI (by have := hN.2.1; omega) (by omega)).mp c
        rw [show sn - (6 - (n + 1)) = 0 by omega, show sn - (6 - n) = 0 by omega]
        rfl
      · have es' : 6 - (n + 1) = s := (nI_eq (by omega) (by have := hN.2.1; omega)).mp es
        rw [show sn - (6 - (n + 1)) = (sn - (6 - n)) + 1 by omega]
        show (if dk_rep h (6 - (n + 1)) = true then 1 else 0) + dk_cnt h (6 - (n + 1) + 1) (sn - (6 - n)) = _
        rw [es', if_neg (by unfold dk_rep; simpa using hc), Nat.zero_add, show s + 1 = 6 - n by omega]
    · refine ⟨fun c => (by cases c), fun n' _ => ?_⟩
      have es' : 6 - (n + 1) = s := (nI_eq (by omega) (by have := hN.2.1; omega)).mp es
      show sd_Wq l none y_X8_report true Q 9 [some (v_r 0 0), some (v_i own), some (v_i (nI b + 1)), some (v_i (nI (6 - (n + 1)) + 1)), none] [] h 0 0
      rw [ei, nI_1 b]
      refine sq_cnt hN n (b + 1) (by omega) (by omega) ?_
      have ec : dk_cnt h (6 - (n + 1)) (sn - (6 - (n + 1))) = 1 + dk_cnt h (6 - n) (sn - (6 - n)) := by
        rw [show sn - (6 - (n + 1)) = (sn - (6 - n)) + 1 by omega]
        show (if dk_rep h (6 - (n + 1)) = true then 1 else 0) + dk_cnt h (6 - (n + 1) + 1) (sn - (6 - n)) = _
        rw [es', if_pos (by unfold dk_rep; simp [c1, c2]), show s + 1 = 6 - n by omega]
      rw [ec] at k
      rw [show b + 1 + dk_cnt h (6 - n) (sn - (6 - n)) = b + (1 + dk_cnt h (6 - n) (sn - (6 - n))) by omega]
      exact k
set_option maxRecDepth 100000 in
theorem sq_wr {own b nw : Int32} : ∀ (n : Nat) (h : sd_H) (sz : Nat) (j4 : Option sd_V), n ≤ 6 → SN h sn → h.1 0 0 6 = nw → h.1 1 0 1 = nI sz → sz + 24 * n ≤ 300 → Q (some (v_i (nI (dk_wr nw (6 - n) (sn - (6 - n)) h sz).2))) (dk_wr nw (6 - n) (sn - (6 - n)) h sz).1 → sd_Wq l none y_X8_report true Q 97 [some (v_r 0 0), some (v_i own), some (v_i b), some (v_i (nI (6 - n))), j4] [] h 0 0
  | 0, h, sz, j4, hn, hN, hnw, hz, hle, k => by
    refine sd_go [97] 80 (cd := cd_X8_report) (by decide) rfl ?_
    refine ⟨fun _ => ?_, fun c => absurd (show (6 : Int32) ≤ nI 6 by decide) c⟩
    have e0 : sn - (6 - 0) = 0 := by have := hN.2.1; omega
    rw [e0] at k
    have k : Q (some (v_i (nI sz))) h := k
    show Q (some (v_i (h.1 1 0 1))) h
    rw [hz]; exact k
  | n + 1, h, sz, j4, hn, hN, hnw, hz, hle, k => by
    refine sd_go [97] 80 (cd := cd_X8_report) (by decide) rfl ?_
    refine ⟨fun c => absurd c ?_, fun _ => ?_⟩
    · exact Int32.not_le.mpr (nI_lt (a := 6 - (n + 1)) (b := 6) (by omega) (by decide))
    have ei : nI (6 - (n + 1)) + 1 = nI (6 - n) := by rw [nI_1, show 6 - (n + 1) + 1 = 6 - n by omega]
    have stay : dk_wr nw (6 - (n + 1)) (sn - (6 - (n + 1))) h sz = dk_wr nw (6 - n) (sn - (6 - n)) h sz → ∀ j, sd_Wq l none y_X8_report true Q 97 [some (v_r 0 0), some (v_i own), some (v_i b), some (v_i (nI (6 - (n + 1)) + 1)), j] [] h 0 0 := by
      intro ec j
      rw [ei]
      refine sq_wr n h sz j (by omega) hN hnw hz (by omega) ?_
      rw [← ec]; exact k
    refine sp_reported hN (fun c => ?_) (fun s hs es c1 c2 => ?_)
    · refine ⟨fun _ => stay ?_ _, fun n' c => (by cases c)⟩
      rcases c with c | ⟨s, hs, es, hc⟩
      · have hge : sn ≤ 6 - (n + 1) := by
          rcases c with c | c
          · exact absurd c (nI_pos (by omega))
          · exact (nI_leI (by have := hN.2.1; omega) (by omega)).mp c
        rw [show sn - (6 - (n + 1)) = 0 by omega, show sn - (6 - n) = 0 by omega]
        rfl
      · have es' : 6 - (n + 1) = s := (nI_eq (by omega) (by have := hN.2.1; omega)).mp es
        rw [show sn - (6 - (n + 1)) = (sn - (6 - n)) + 1 by omega]
        show (if dk_rep h (6 - (n + 1)) = true then dk_wr nw (6 - (n + 1) + 1) (sn - (6 - n)) (sn_b3 h (6 - (n + 1)) sz nw) (sz + 24) else dk_wr nw (6 - (n + 1) + 1) (sn - (6 - n)) h sz) = _
        rw [es', if_neg (by unfold dk_rep; simpa using hc), show s + 1 = 6 - n by omega]
    · refine ⟨fun c => (by cases c), fun n' _ => ?_⟩
      have es' : 6 - (n + 1) = s := (nI_eq (by omega) (by have := hN.2.1; omega)).mp es
      show sd_E1 l y_X7_writeBlock [v_r 3 s, v_r 1 0, v_i (h.1 0 0 6)] h _
      rw [hnw]
      refine sp_writeBlock hz (by omega) ?_
      show sd_Wq l none y_X8_report true Q 97 [some (v_r 0 0), some (v_i own), some (v_i b), some (v_i (nI (6 - (n + 1)) + 1)), _] [] (sn_b3 h s sz nw) 0 0
      rw [ei]
      have f0 : (sn_b3 h s sz nw).1 0 = h.1 0 := sn_b3_T (by decide) (by decide) (by decide)
      refine sq_wr (nw := nw) n _ (sz + 24) _ (by omega) (sd_SN_of hN (by rw [f0]) (by rw [sn_b3_2])) (by rw [f0]; exact hnw) (sn_b3_s hz) (by omega) ?_
      have ec : dk_wr nw (6 - (n + 1)) (sn - (6 - (n + 1))) h sz = dk_wr nw (6 - n) (sn - (6 - n)) (sn_b3 h s sz nw) (sz + 24) := by
        rw [show sn - (6 - (n + 1)) = (sn - (6 - n)) + 1 by omega]
        show (if dk_rep h (6 - (n + 1)) = true then dk_wr nw (6 - (n + 1) + 1) (sn - (6 - n)) (sn_b3 h (6 - (n + 1)) sz nw) (sz + 24) else dk_wr nw (6 - (n + 1) + 1) (sn - (6 - n)) h sz) = _
        rw [es', if_pos (by unfold dk_rep; simp [c1, c2]), show s + 1 = 6 - n by omega]
      rw [← ec]; exact k
def dk_report (h : sd_H) (sn : Nat) (own : Int32) : sd_H × Nat := dk_wr (h.1 0 0 6) 0 sn (dk_head (sd_pi h 0 0 12 own) own (dk_cnt h 0 sn)) 8
theorem sp_report {own : Int32} (hN : SN h sn) (k : Q (some (v_i (nI (dk_report h sn own).2))) (dk_report h sn own).1) : sd_E1 l y_X8_report [v_r 0 0, v_i own] h Q := by
  refine sd_e1 [9] 80 (cd := cd_X8_report) (by decide) rfl (Nat.le_of_ble_eq_true rfl) ?_
  have hN' : SN (sd_pi h 0 0 12 own) sn := sd_SN_of hN rfl rfl
  refine sq_cnt hN' 6 0 (Nat.le_refl _) (by omega) ?_
  have e0 : 0 + dk_cnt (sd_pi h 0 0 12 own) (6 - 6) (sn - (6 - 6)) = dk_cnt h 0 sn := by
    have : ∀ (n i : Nat), dk_cnt (sd_pi h 0 0 12 own) i n = dk_cnt h i n := by
      intro n
      induction n with
      | zero => intro i; rfl
      | succ n ih => intro i; show (if dk_rep (sd_pi h 0 0 12 own) i = true then 1 else 0) + dk_cnt (sd_pi h 0 0 12 own) (i + 1) n = _; rw [ih]; rfl
    rw [Nat.zero_add, this]; rfl
  rw [e0]
  have hcl := dk_cnt_le h sn 0
  generalize hcc : dk_cnt h 0 sn = b at hcl
  have hb6 : b ≤ 6 := by have := hN.2.1; omega
  refine sd_go [97] 80 (cd := cd_X8_report) (by decide) rfl ?_
  refine sp_append (m := 1) (sz := 0) rfl (by omega) ?_
  refine sp_append (m := 1) (sz := 1) (pk_app_s 1 _ 0 rfl) (by omega) ?_
  refine sp_append (m := 2) (sz := 2) (pk_app_s 1 _ 1 (pk_app_s 1 _ 0 rfl)) (by omega) ?_
  refine sp_append (m := 4) (sz := 4) (pk_app_s 2 _ 2 (pk_app_s 1 _ 1 (pk_app_s 1 _ 0 rfl))) (by omega) ?_
  have f0 : (dk_head (sd_pi h 0 0 12 own) own b).1 0 = (sd_pi h 0 0 12 own).1 0 := dk_head_T (by decide) (by decide)
  show sd_Wq l none y_X8_report true Q 97 [some (v_r 0 0), some (v_i own), some (v_i (nI b)), some (v_i 0), none] [] (dk_head (sd_pi h 0 0 12 own) own b) 0 0
  refine sq_wr (nw := h.1 0 0 6) 6 _ 8 _ (Nat.le_refl _) (sd_SN_of hN' (by rw [f0]) (by rw [dk_head_2])) (by rw [f0]; rfl) dk_head_s (by omega) ?_
  unfold dk_report at k
  rw [hcc] at k
  exact k
end WB
