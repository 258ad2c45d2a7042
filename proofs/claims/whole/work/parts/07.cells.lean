/-! fields, rows and makings over sd_Wq -/
section SC
variable {l : Launch} {sc : Option (Nat × (Nat → Int32))} {y : Nat} {rm : Bool} {Q : Option sd_V → sd_H → Prop} {pc : Nat} {ls : List (Option sd_V)} {st r : List sd_V} {h : sd_H} {cs ss : Nat}
theorem sd_okR {h : sd_H} {T k : Nat} (a : sd_ok h (.inr (.inr (T, some k)))) (hT : T < sd_nT) : k < h.2.2.2 T := by
  rcases a T k rfl with q | q
  · exact q.2
  · omega
/-- the value in a place of a cell, as the machine has it and as we have it -/
def sd_rd (h : sd_H) (T k i : Nat) : sd_V := match sd_fc T i with
  | 0 => .inl (h.1 T k i)
  | 1 => .inr (.inl (h.2.1 T k i))
  | 2 => .inl (h.1 T k i)
  | t + 3 => .inr (.inr (t, h.2.2.1 T k i))
theorem sd_rd_v {ad : sd_A} {h : sd_H} {T k i : Nat} : sd_fv ad h T k i = sd_rv ad (sd_rd h T k i) := by
  unfold sd_fv sd_rd
  generalize sd_fc T i = c
  match c with
  | 0 => rfl
  | 1 => rfl
  | 2 => rfl
  | _ + 3 => rfl
theorem sd_rd_ok {D : va_G} {base : Nat} {ad : sd_A} {h : sd_H} {U : State} {H : Heap} {T k i : Nat} (hS : sd_S D base ad h U H) (hT : T < sd_nT) (hk : k < h.2.2.2 T) : sd_ok h (sd_rd h T k i) := by
  intro t o e
  unfold sd_rd at e
  split at e
  · cases e
  · cases e
  · cases e
  · next t' hc =>
    have e1 : t' = t ∧ h.2.2.1 T k i = some o := by
      have := Sum.inr.inj (Sum.inr.inj e)
      exact ⟨congrArg Prod.fst this, congrArg Prod.snd this⟩
    obtain ⟨rfl, e2⟩ := e1
    exact Or.inl (hS.2.2.2.2 T k i t' hT hk hc o e2)
theorem sd_gf {p : Program} {e : Env} {R : Room} {s : State} {m : MethodId} {args : Array Value} {below : List Frame} {meth : Method} {c : Code} {H : Heap} {locs : List Loc} {cells slots : Nat} {Z : State → Prop} {D : va_G} {base : Nat} {ad : sd_A} {T k i ix : Nat} {lsA : Array Slot} {rest : List Value}
    (C : sd_C p s m args meth c R y) (hS : sd_S D base ad h s H) (hT : T < 8) (hk : k < h.2.2.2 T) (hi : i < sd_tn T) (hw : Cond.fieldLink (sd_nm y).cls ix (sd_cn T) ((sd_ft T) i).2.1 ((sd_ft T) i).2.2.1 ∈ lw_tbl) (hd : decode (sd_by y) pc = .ok (.getfield ix, 3))
    (kk : W p l e R s m args below meth c H locs cells slots Z (F0 m (pc + 3) lsA (sd_fv ad h T k i :: rest))) : W p l e R s m args below meth c H locs cells slots Z (F0 m pc lsA (.ref (ad T k) :: rest)) := by
  obtain ⟨hx, hb, -, hown, hts, -⟩ := C
  have hob := hS.ob hT hk
  have hP : va_P D sd_cl [(ad T k, .inr (T, (List.range (sd_tn T)).map (sd_fv ad h T k)))] H := by
    intro j q hj
    have hz : j < 1 := (List.getElem?_eq_some_iff.mp hj).1
    rw [show j = 0 by omega] at hj
    cases hj
    refine ⟨_, sd_cl8 T hT, hob.to fun j hj => ?_⟩
    simp [vp_V, hj]
  refine va_get (D := D) (cl := sd_cl) (ci := T) (C := sd_cn T) (T := sd_ft T) (N := sd_tn T) (ref := sd_cn T) hx hb hts (sd_uw T hT) hown hS.1 hP 0 rfl (sd_cl8 T hT) i hi (hts _ hw) (fun x hx => by rw [sd_dcA T hT i hi] at hx; exact hx) (v := sd_fv ad h T k i) ?_ hd kk
  simp [hi]
theorem sw_getf {T k i ix : Nat} (hd : decode (sd_by y) pc = .ok (.getfield ix, 3)) (hT : T < 8) (hi : i < sd_tn T) (hw : Cond.fieldLink (sd_nm y).cls ix (sd_cn T) ((sd_ft T) i).2.1 ((sd_ft T) i).2.2.1 ∈ lw_tbl)
    (kk : sd_Wq l sc y rm Q (pc + 3) ls (sd_rd h T k i :: r) h cs ss) : sd_Wq l sc y rm Q pc ls (.inr (.inr (T, some k)) :: r) h cs ss := by
  intro p e s m args below meth c R D base ad H locs lsA Z C hb hS hV hl hst hls hok hsc hrt hcs
  have hk := sd_okR (sd_o0 hst) (show T < 46 by omega)
  refine sd_gf C hS hT hk hi hw hd ?_
  rw [sd_rd_v]
  exact kk p e s m args below meth c R D base ad H locs lsA Z C hb hS hV hl (sd_oc (sd_rd_ok hS (show T < 46 by omega) hk) (sd_o1 hst)) hls hok hsc hrt hcs
/-- putfield, for any value -/
theorem sd_pf {p : Program} {e : Env} {R : Room} {s : State} {m : MethodId} {args : Array Value} {below : List Frame} {meth : Method} {c : Code} {H : Heap} {locs : List Loc} {cells slots : Nat} {Z : State → Prop} {D : va_G} {base : Nat} {ad : sd_A} {T k i ix : Nat} {lsA : Array Slot} {rest : List Value} {v : Value}
    (C : sd_C p s m args meth c R y) (hS : sd_S D base ad h s H) (hT : T < 8) (hk : k < h.2.2.2 T) (hi : i < sd_tn T) (hw : Cond.fieldLink (sd_nm y).cls ix (sd_cn T) ((sd_ft T) i).2.1 ((sd_ft T) i).2.2.1 ∈ lw_tbl) (hd : decode (sd_by y) pc = .ok (.putfield ix, 3))
    (hfin : ((sd_ft T) i).2.2.2 = false ∨ (((sd_ft T) i).2.2.2 = true ∧ (sd_nm y).name = "<init>" ∧ ((sd_ft T) i).1 = (sd_nm y).cls)) (hv : sd_vc (sd_fc T i) v)
    (kk : ∀ H' : Heap, t_OB (ad T k) (D.1 T) (sd_tn T) (D.2 T) H' (updV (sd_fv ad h T k) i v) → H'.size = H.size → (∀ q : Nat, q ≠ ad T k → H'[q]? = H[q]?) → W p l e R s m args below meth c H' (locs ++ [⟨ad T k, D.2 T i⟩]) cells slots Z (F0 m (pc + 3) lsA rest)) :
    W p l e R s m args below meth c H locs cells slots Z (F0 m pc lsA (v :: .ref (ad T k) :: rest)) := by
  obtain ⟨hx, hb, -, hown, hts, -, -, hnm, -⟩ := C
  have hin := sd_uw T hT
  have hK := hS.1
  have hc := sd_cl8 T hT
  have hap := va_apart (own := (sd_nm y).cls) hts hin (sd_fy T) (sd_tyA T hT) (sd_nmA T hT) hK hc
  obtain ⟨cell, q1, q2, q3, q4⟩ := hS.ob hT hk
  obtain ⟨hSl, hfc, kC, hkC, hkind⟩ := hK.1 T _ hc
  obtain ⟨cf, kf, fi, f, hif, hsl⟩ := hSl i hi
  have hsame : s.fieldFound? (sd_cn T) ((sd_ft T) i).2.1 ((sd_ft T) i).2.2.1 = some (cf, kf, fi, f) := by
    rw [← sd_dcA T hT i hi]; exact hif
  have hst := (u_facts hfc hkC (u_lays hts hin hi) hif).1
  obtain ⟨hn, hf⟩ := sd_fits (sd_fkA T hT i hi) hv
  have hlay := hts _ (hin _ (u_in_lay hi))
  rcases hfin with hfin | ⟨hfin, hini, hdecl⟩
  · unfold u_lay at hlay
    rw [if_neg (by rw [hfin]; decide)] at hlay
    have h6 := u_store hfc hkC hkind hlay hif (sd_tyA T hT i hi) hn hf
    refine W.putK hx hb (f := f) ⟨hown, hts _ hw, ⟨_, _, _, hsame⟩, hst⟩ (by rw [q2]; exact h6) q1 q3 (by rw [hsl]; exact k2_hasslot (q4 i hi)) rfl rfl hd fun H' e1 e2 e3 => ?_
    rw [hsl] at e1 ⊢
    exact kk H' ⟨_, e1, q2, q3, t_set q4 hap hi v⟩ e2 e3
  · unfold u_lay at hlay
    rw [if_pos hfin] at hlay
    have hcf : m.cls = cf := by
      obtain ⟨_, _, c', _, _, _, -, -, hf', -, -, -, hown2, -⟩ := Cond.laysFinal_spec hlay
      have e1 : c' = cf := by have := hif.symm.trans hf'; simp at this; exact this.1.symm
      rw [hdecl] at hown2
      rw [← e1]; exact Option.some.inj (hown.symm.trans hown2)
    have h6 := u_fits hfc hkC hkind (Or.inr hlay) hif (sd_tyA T hT i hi) hn hf
    refine W.putFinK hx hb hown (hts _ hw) hsame hst hcf (hnm.trans hini) (by rw [q2]; exact h6) q1 q3 (by rw [hsl]; exact k2_hasslot (q4 i hi)) rfl rfl hd fun H' e1 e2 e3 => ?_
    rw [hsl] at e1 ⊢
    exact kk H' ⟨_, e1, q2, q3, t_set q4 hap hi v⟩ e2 e3
theorem sd_rv_null (ad : sd_A) (q : Nat × Option Nat) : sd_rv ad (.inr (.inr q)) = .null ∨ ∃ a, sd_rv ad (.inr (.inr q)) = .ref a := by
  obtain ⟨t, _ | k⟩ := q
  · exact Or.inl rfl
  · exact Or.inr ⟨_, rfl⟩
abbrev sd_fin (y T i : Nat) : Prop := ((sd_ft T) i).2.2.2 = false ∨ (((sd_ft T) i).2.2.2 = true ∧ (sd_nm y).name = "<init>" ∧ ((sd_ft T) i).1 = (sd_nm y).cls)
theorem sw_putI {T k i ix : Nat} {x : Int32} (hd : decode (sd_by y) pc = .ok (.putfield ix, 3)) (hT : T < 8) (hi : i < sd_tn T) (hw : Cond.fieldLink (sd_nm y).cls ix (sd_cn T) ((sd_ft T) i).2.1 ((sd_ft T) i).2.2.1 ∈ lw_tbl) (hfin : sd_fin y T i) (hc : sd_fc T i = 0 ∨ (sd_fc T i = 2 ∧ (x = 0 ∨ x = 1)))
    (kk : sd_Wq l sc y rm Q (pc + 3) ls r (sd_pi h T k i x) cs ss) : sd_Wq l sc y rm Q pc ls (.inl x :: .inr (.inr (T, some k)) :: r) h cs ss := by
  intro p e s m args below meth c R D base ad H locs lsA Z C hb hS hV hl hst hls hok hsc hrt hcs
  have hT46 : T < sd_nT := show T < 46 by omega
  have hk := sd_okR (sd_o0 (sd_o1 hst)) hT46
  have hc' : sd_fc T i = 0 ∨ sd_fc T i = 2 := hc.imp id fun q => q.1
  refine sd_pf C hS hT hk hi hw hd hfin (v := .int x) ?_ fun H' e1 e2 e3 => ?_
  · rcases hc with q | ⟨q, rfl | rfl⟩ <;> rw [q]
    · exact ⟨x, rfl⟩
    · exact Or.inl rfl
    · exact Or.inr rfl
  · rw [sd_up_i hc'] at e1
    exact kk p e s m args below meth c R D base ad H' _ lsA Z C hb (sd_S_pi hS hT46 hk e2 e3 (sd_ob_at hT e1)) (hV.put e2 e3 (hS.2.2.1 T k hT46 hk).2.1) hl (sd_o2 hst) hls hok hsc hrt hcs
theorem sw_putL {T k i ix : Nat} {x : Int64} (hd : decode (sd_by y) pc = .ok (.putfield ix, 3)) (hT : T < 8) (hi : i < sd_tn T) (hw : Cond.fieldLink (sd_nm y).cls ix (sd_cn T) ((sd_ft T) i).2.1 ((sd_ft T) i).2.2.1 ∈ lw_tbl) (hfin : sd_fin y T i) (hc : sd_fc T i = 1)
    (kk : sd_Wq l sc y rm Q (pc + 3) ls r (sd_pl h T k i x) cs ss) : sd_Wq l sc y rm Q pc ls (.inr (.inl x) :: .inr (.inr (T, some k)) :: r) h cs ss := by
  intro p e s m args below meth c R D base ad H locs lsA Z C hb hS hV hl hst hls hok hsc hrt hcs
  have hT46 : T < sd_nT := show T < 46 by omega
  have hk := sd_okR (sd_o0 (sd_o1 hst)) hT46
  refine sd_pf C hS hT hk hi hw hd hfin (v := .long x) (by rw [hc]; exact ⟨x, rfl⟩) fun H' e1 e2 e3 => ?_
  rw [sd_up_l hc] at e1
  exact kk p e s m args below meth c R D base ad H' _ lsA Z C hb (sd_S_pl hS hT46 hk e2 e3 (sd_ob_at hT e1)) (hV.put e2 e3 (hS.2.2.1 T k hT46 hk).2.1) hl (sd_o2 hst) hls hok hsc hrt hcs
theorem sw_putR {T k i ix t : Nat} {q : Nat × Option Nat} (hd : decode (sd_by y) pc = .ok (.putfield ix, 3)) (hT : T < 8) (hi : i < sd_tn T) (hw : Cond.fieldLink (sd_nm y).cls ix (sd_cn T) ((sd_ft T) i).2.1 ((sd_ft T) i).2.2.1 ∈ lw_tbl) (hfin : sd_fin y T i) (hc : sd_fc T i = t + 3) (hq : q.1 = t) (ht : t < sd_nT) (hrm : rm = false)
    (kk : sd_Wq l sc y rm Q (pc + 3) ls r (sd_pr h T k i q.2) cs ss) : sd_Wq l sc y rm Q pc ls (.inr (.inr q) :: .inr (.inr (T, some k)) :: r) h cs ss := by
  intro p e s m args below meth c R D base ad H locs lsA Z C hb hS hV hl hst hls hok hsc hrt hcs
  have hT46 : T < sd_nT := show T < 46 by omega
  have hk := sd_okR (sd_o0 (sd_o1 hst)) hT46
  have hqv : ∀ o, q.2 = some o → t < sd_nT ∧ o < h.2.2.2 t := by
    intro o ho
    obtain ⟨q1, q2⟩ := q
    subst hq
    cases ho
    exact ⟨ht, sd_okR (sd_o0 hst) ht⟩
  refine sd_pf C hS hT hk hi hw hd hfin (v := sd_rv ad (.inr (.inr q))) (by rw [hc]; exact sd_rv_null ad q) fun H' e1 e2 e3 => ?_
  have e1 : t_OB (ad T k) (D.1 T) (sd_tn T) (D.2 T) H' (updV (sd_fv ad h T k) i (va_rf (q.2.map (ad t)))) := by rw [← hq]; exact e1
  rw [sd_up_r hc] at e1
  exact kk p e s m args below meth c R D base ad H' _ lsA Z C hb (sd_S_pr hS hT46 hk hc hqv e2 e3 (sd_ob_at hT e1)) (hV.put e2 e3 (hS.2.2.1 T k hT46 hk).2.1) hl (sd_o2 hst) hls (fun q => by rw [hrm] at q; cases q) hsc hrt hcs
/-! rows -/
theorem sd_aix {n N : Nat} (hn : n < N) (hN : N < 2 ^ 31) {j : Int32} (hj : j = nI n) : ¬ (j < 0 ∨ N ≤ j.toNatClampNeg) ∧ j.toNatClampNeg = n := by
  subst hj
  have hc := nI_clamp (n := n) (by omega)
  refine ⟨nI_in hn hN, hc⟩
theorem sd_tnA : ∀ T, T < sd_nT → sd_tn T < 1000 := by decide
theorem sd_fcA : ∀ T, T < sd_nT → 8 ≤ T → ∀ i, sd_fc T i = sd_fc T 0 := by
  intro T hT h8 i
  have hb := sd_ob0 h8 hT
  unfold sd_ob at hb
  unfold sd_fc
  cases hx : sd_nth sd_tg T with
  | none => rfl
  | some q =>
    rw [hx] at hb
    obtain ⟨b, n, l⟩ := q
    dsimp only at hb
    subst hb
    cases l <;> rfl
theorem sw_ald {T k n : Nat} {j : Int32} {ins : Instr} (hi : (ins = .iaload ∧ sd_fc T 0 = 0) ∨ (ins = .laload ∧ sd_fc T 0 = 1) ∨ (ins = .baload ∧ sd_fc T 0 = 2) ∨ (ins = .aaload ∧ 3 ≤ sd_fc T 0)) (hd : decode (sd_by y) pc = .ok (ins, 1)) (h8 : 8 ≤ T) (hT : T < sd_nT) (hn : n < sd_tn T) (hj : j = nI n)
    (kk : sd_Wq l sc y rm Q (pc + 1) ls (sd_rd h T k n :: r) h cs ss) : sd_Wq l sc y rm Q pc ls (.inl j :: .inr (.inr (T, some k)) :: r) h cs ss := by
  intro p e s m args below meth c R D base ad H locs lsA Z C hb hS hV hl hst hls hok hsc hrt hcs
  have hk := sd_okR (sd_o0 (sd_o1 hst)) hT
  obtain ⟨cA, a1, a2, a3⟩ := hS.ar h8 hT hk
  obtain ⟨hin, hcl⟩ := sd_aix hn (Nat.lt_trans (sd_tnA T hT) (by decide)) hj
  have hin : ¬ (j < 0 ∨ (arrV cA (sd_tn T) (sd_fv ad h T k)).slots.size ≤ j.toNatClampNeg) := by rw [arrV_size]; exact hin
  have hv : (arrV cA (sd_tn T) (sd_fv ad h T k)).slots[j.toNatClampNeg]? = some (sd_fv ad h T k n) := by rw [hcl]; exact arrV_read cA _ hn
  have w := kk p e s m args below meth c R D base ad H locs lsA Z C hb hS hV hl (sd_oc (sd_rd_ok hS hT hk) (sd_o2 hst)) hls hok hsc hrt hcs
  have w : W p l e R s m args below meth c H locs cs ss Z (F0 m (pc + 1) lsA (sd_fv ad h T k n :: r.map (sd_rv ad))) := by rw [sd_rd_v]; exact w
  have ha := a2 (sd_tn T) (sd_fv ad h T k)
  rcases hi with ⟨rfl, hf⟩ | ⟨rfl, hf⟩ | ⟨rfl, hf⟩ | ⟨rfl, hf⟩
  · rw [hf] at ha
    exact W.iald C.1 C.2.1 a1 ha (fun q => by cases q) hin hv rfl rfl hd w
  · rw [hf] at ha
    exact W.lald C.1 C.2.1 a1 ha (fun q => by cases q) hin hv rfl rfl hd w
  · rw [hf] at ha
    exact W.zald C.1 C.2.1 a1 ha (fun q => by cases q) hin hv rfl rfl hd w
  · obtain ⟨t, ht⟩ : ∃ t, sd_fc T 0 = t + 3 := ⟨sd_fc T 0 - 3, by omega⟩
    rw [ht] at ha
    exact W.aald C.1 C.2.1 a1 ha rfl (fun q => by cases q) hin hv rfl rfl hd w
theorem sw_astI {T k n : Nat} {j x : Int32} {ins : Instr} (hi : (ins = .iastore ∧ sd_fc T 0 = 0) ∨ (ins = .bastore ∧ sd_fc T 0 = 2 ∧ (x = 0 ∨ x = 1))) (hd : decode (sd_by y) pc = .ok (ins, 1)) (h8 : 8 ≤ T) (hT : T < sd_nT) (hn : n < sd_tn T) (hj : j = nI n)
    (kk : sd_Wq l sc y rm Q (pc + 1) ls r (sd_pi h T k n x) cs ss) : sd_Wq l sc y rm Q pc ls (.inl x :: .inl j :: .inr (.inr (T, some k)) :: r) h cs ss := by
  intro p e s m args below meth c R D base ad H locs lsA Z C hb hS hV hl hst hls hok hsc hrt hcs
  have hk := sd_okR (sd_o0 (sd_o2 hst)) hT
  obtain ⟨cA, a1, a2, a3⟩ := hS.ar h8 hT hk
  obtain ⟨hin, hcl⟩ := sd_aix hn (Nat.lt_trans (sd_tnA T hT) (by decide)) hj
  have hin : ¬ (j < 0 ∨ (arrV cA (sd_tn T) (sd_fv ad h T k)).slots.size ≤ j.toNatClampNeg) := by rw [arrV_size]; exact hin
  have ha := a2 (sd_tn T) (sd_fv ad h T k)
  have hfn : sd_fc T n = 0 ∨ sd_fc T n = 2 := by rw [sd_fcA T hT h8 n]; exact hi.imp (fun q => q.2) fun q => q.2.1
  have fin : ∀ H' : Heap, H'[ad T k]? = some ((arrV cA (sd_tn T) (sd_fv ad h T k)).setSlot j.toNatClampNeg (.int x)) → H'.size = H.size → (∀ q, q ≠ ad T k → H'[q]? = H[q]?) → W p l e R s m args below meth c H' (locs ++ [⟨ad T k, j.toNatClampNeg⟩]) cs ss Z (F0 m (pc + 1) lsA (r.map (sd_rv ad))) := by
    intro H' e1 e2 e3
    rw [hcl, arrV_store, sd_up_i hfn] at e1
    exact kk p e s m args below meth c R D base ad H' _ lsA Z C hb (sd_S_pi hS hT hk e2 e3 (sd_ar_at h8 hT e1 ⟨a2, a3⟩)) (hV.put e2 e3 (hS.2.2.1 T k hT hk).2.1) hl (sd_o3 hst) hls hok hsc hrt hcs
  rcases hi with ⟨rfl, hf⟩ | ⟨rfl, hf, hx⟩
  · rw [hf] at ha
    exact W.iast C.1 C.2.1 a1 ha (fun q => by cases q) hin rfl rfl hd fin
  · rw [hf] at ha
    refine W.zast C.1 C.2.1 a1 ha (fun q => by cases q) hin rfl rfl hd fun H' e1 => fin H' ?_
    have : narrow .boolean (.int x) = .int x := by rcases hx with rfl | rfl <;> decide
    rw [this] at e1
    exact e1
theorem sw_astL {T k n : Nat} {j : Int32} {x : Int64} (hf : sd_fc T 0 = 1) (hd : decode (sd_by y) pc = .ok (.lastore, 1)) (h8 : 8 ≤ T) (hT : T < sd_nT) (hn : n < sd_tn T) (hj : j = nI n)
    (kk : sd_Wq l sc y rm Q (pc + 1) ls r (sd_pl h T k n x) cs ss) : sd_Wq l sc y rm Q pc ls (.inr (.inl x) :: .inl j :: .inr (.inr (T, some k)) :: r) h cs ss := by
  intro p e s m args below meth c R D base ad H locs lsA Z C hb hS hV hl hst hls hok hsc hrt hcs
  have hk := sd_okR (sd_o0 (sd_o2 hst)) hT
  obtain ⟨cA, a1, a2, a3⟩ := hS.ar h8 hT hk
  obtain ⟨hin, hcl⟩ := sd_aix hn (Nat.lt_trans (sd_tnA T hT) (by decide)) hj
  have hin : ¬ (j < 0 ∨ (arrV cA (sd_tn T) (sd_fv ad h T k)).slots.size ≤ j.toNatClampNeg) := by rw [arrV_size]; exact hin
  have ha := a2 (sd_tn T) (sd_fv ad h T k)
  have hfn : sd_fc T n = 1 := by rw [sd_fcA T hT h8 n]; exact hf
  rw [hf] at ha
  refine W.last C.1 C.2.1 a1 ha (fun q => by cases q) hin rfl rfl hd fun H' e1 e2 e3 => ?_
  rw [hcl, arrV_store, sd_up_l hfn] at e1
  exact kk p e s m args below meth c R D base ad H' _ lsA Z C hb (sd_S_pl hS hT hk e2 e3 (sd_ar_at h8 hT e1 ⟨a2, a3⟩)) (hV.put e2 e3 (hS.2.2.1 T k hT hk).2.1) hl (sd_o3 hst) hls hok hsc hrt hcs
/-- a row of objects takes an object -/
theorem sw_astR {T k n t o : Nat} {j : Int32} (hf : sd_fc T 0 = t + 3) (ht : t < 8) (hd : decode (sd_by y) pc = .ok (.aastore, 1)) (h8 : 8 ≤ T) (hT : T < sd_nT) (hn : n < sd_tn T) (hj : j = nI n)
    (kk : sd_Wq l sc y rm Q (pc + 1) ls r (sd_pr h T k n (some o)) cs ss) : sd_Wq l sc y rm Q pc ls (.inr (.inr (t, some o)) :: .inl j :: .inr (.inr (T, some k)) :: r) h cs ss := by
  intro p e s m args below meth c R D base ad H locs lsA Z C hb hS hV hl hst hls hok hsc hrt hcs
  have hk := sd_okR (sd_o0 (sd_o2 hst)) hT
  have ht46 : t < sd_nT := show t < 46 by omega
  have hko := sd_okR (sd_o0 hst) ht46
  obtain ⟨cA, a1, a2, a3⟩ := hS.ar h8 hT hk
  obtain ⟨hin, hcl⟩ := sd_aix hn (Nat.lt_trans (sd_tnA T hT) (by decide)) hj
  have hfn : sd_fc T n = t + 3 := by rw [sd_fcA T hT h8 n]; exact hf
  have hin2 : ¬ j < 0 ∧ j.toNatClampNeg < (arrV cA (sd_tn T) (sd_fv ad h T k)).slots.size := by
    rw [arrV_size]; exact ⟨fun q => hin (Or.inl q), Nat.not_le.mp fun q => hin (Or.inr q)⟩
  rw [hf] at a3
  obtain ⟨kA, comp, k1, k2, k3, -⟩ := a3
  obtain ⟨cellV, g1, g2, g3, -⟩ := hS.ob ht hko
  have hcls := (hS.1.1 t _ (sd_cl8 t ht)).2
  have hcomp : comp = D.1 t := Option.some.inj (k3.symm.trans hcls.1)
  subst hcomp
  obtain ⟨kC, hkC, -⟩ := hcls.2
  refine W.aast C.1 C.2.1 a1 (fun q h => by cases h) (fun h => by cases h) k1 k2 rfl hkC hin2 g1 (fun q h => by rw [g3] at h; cases h) (by rw [g2]; exact hkC) (by rw [g2]; exact va_assign hcls) rfl rfl hd fun H' e1 e2 e3 => ?_
  have e1 : H'[ad T k]? = some ((arrV cA (sd_tn T) (sd_fv ad h T k)).setSlot j.toNatClampNeg (va_rf ((some o).map (ad t)))) := e1
  rw [hcl, arrV_store, sd_up_r hfn] at e1
  obtain ⟨cB, b1, b2⟩ := hS.ar h8 hT hk
  have hcc : cB = cA := by
    have := a1.symm.trans b1
    exact (congrArg Cell.cls (Option.some.inj this)).symm
  subst hcc
  exact kk p e s m args below meth c R D base ad H' _ lsA Z C hb (sd_S_pr hS hT hk hfn (fun o' ho => by cases ho; exact ⟨ht46, hko⟩) e2 e3 (sd_ar_at h8 hT e1 b2)) (hV.put e2 e3 (hS.2.2.1 T k hT hk).2.1) hl (sd_o3 hst) hls (fun q T' k' i' h1 h2 => by
    have hh := hok q T' k' i' h1 h2
    have hne : ¬ (T' = T ∧ k' = k ∧ i' = n) := fun z => by omega
    rw [sd_pr_ne hne]
    exact hh) hsc hrt hcs
/-! the script -/
theorem sw_slen {L : Nat} {xs : Nat → Int32} (hsc0 : sc = some (L, xs)) (hd : decode (sd_by y) pc = .ok (.arraylength, 1)) (kk : sd_Wq l sc y rm Q (pc + 1) ls (.inl (nI L) :: r) h cs ss) : sd_Wq l sc y rm Q pc ls (.inr (.inr (sd_nT, some 0)) :: r) h cs ss := by
  intro p e s m args below meth c R D base ad H locs lsA Z C hb hS hV hl hst hls hok hsc hrt hcs
  obtain ⟨hX, hlt⟩ := hsc L xs hsc0
  exact va_slen (A := fun q => base ≤ q) C.1 C.2.1 hX (Nat.lt_of_lt_of_le hlt hb) (Nat.not_le.mpr hlt) hV hd (kk p e s m args below meth c R D base ad H locs lsA Z C hb hS hV hl (sd_oc (sd_oi _ _) (sd_o1 hst)) hls hok hsc hrt hcs)
theorem sw_sld {L n : Nat} {xs : Nat → Int32} {j : Int32} (hsc0 : sc = some (L, xs)) (hn : n < L) (hL : L < 2 ^ 31) (hj : j = nI n) (hd : decode (sd_by y) pc = .ok (.iaload, 1)) (kk : sd_Wq l sc y rm Q (pc + 1) ls (.inl (xs n) :: r) h cs ss) : sd_Wq l sc y rm Q pc ls (.inl j :: .inr (.inr (sd_nT, some 0)) :: r) h cs ss := by
  intro p e s m args below meth c R D base ad H locs lsA Z C hb hS hV hl hst hls hok hsc hrt hcs
  obtain ⟨hX, hlt⟩ := hsc L xs hsc0
  obtain ⟨hin, hcl⟩ := sd_aix hn hL hj
  refine va_sld (A := fun q => base ≤ q) C.1 C.2.1 hX (Nat.lt_of_lt_of_le hlt hb) (Nat.not_le.mpr hlt) hV hin hd ?_
  rw [hcl]
  exact kk p e s m args below meth c R D base ad H locs lsA Z C hb hS hV hl (sd_oc (sd_oi _ _) (sd_o2 hst)) hls hok hsc hrt hcs
end SC
