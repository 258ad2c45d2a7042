/-! values, the typed heap, what the machine's heap has to do with it, and the two judgements: sd_Wq (from a place in a method) and sd_E (a method's contract) -/
abbrev sd_V : Type := Int32 ⊕ Int64 ⊕ (Nat × Option Nat)
/-- ints, longs, references by tag, number and place; how many there are of a tag -/
abbrev sd_H : Type := (Nat → Nat → Nat → Int32) × (Nat → Nat → Nat → Int64) × (Nat → Nat → Nat → Option Nat) × (Nat → Nat)
abbrev sd_A : Type := Nat → Nat → Nat
def sd_rv (ad : sd_A) : sd_V → Value
  | .inl x => .int x
  | .inr (.inl x) => .long x
  | .inr (.inr q) => va_rf (q.2.map (ad q.1))
def sd_ob (T : Nat) : Bool := match sd_nth sd_tg T with
  | some q => q.1
  | none => false
def sd_tn (T : Nat) : Nat := match sd_nth sd_tg T with
  | some q => q.2.1
  | none => 0
def sd_fc (T i : Nat) : Nat := match sd_nth sd_tg T with
  | some (true, _, l) => (sd_nth l i).getD 0
  | some (false, _, c :: _) => c
  | _ => 0
def sd_wn (T i : Nat) : Nat := match sd_nth sd_ow T with
  | some l => (sd_nth l i).getD 0
  | none => 0
def sd_cn (T : Nat) : String := match sd_nth sd_cl T with
  | some q => q.1
  | none => ""
def sd_ft (T : Nat) : u_T := match sd_nth sd_cl T with
  | some q => q.2.1
  | none => fun _ => ("", "", "", false)
def sd_aty (c : Nat) : FieldType := match c with
  | 0 => .int
  | 1 => .long
  | 2 => .boolean
  | t + 3 => .object (sd_cn t)
def sd_fv (ad : sd_A) (h : sd_H) (T k i : Nat) : Value := match sd_fc T i with
  | 0 => .int (h.1 T k i)
  | 1 => .long (h.2.1 T k i)
  | 2 => .int (h.1 T k i)
  | t + 3 => va_rf ((h.2.2.1 T k i).map (ad t))
def sd_pi (h : sd_H) (T k i : Nat) (v : Int32) : sd_H := (fun T' => if T' = T then (fun k' => if k' = k then (fun i' => if i' = i then v else h.1 T k i') else h.1 T k') else h.1 T', h.2)
def sd_pl (h : sd_H) (T k i : Nat) (v : Int64) : sd_H := (h.1, fun T' => if T' = T then (fun k' => if k' = k then (fun i' => if i' = i then v else h.2.1 T k i') else h.2.1 T k') else h.2.1 T', h.2.2)
def sd_pr (h : sd_H) (T k i : Nat) (v : Option Nat) : sd_H := (h.1, h.2.1, fun T' => if T' = T then (fun k' => if k' = k then (fun i' => if i' = i then v else h.2.2.1 T k i') else h.2.2.1 T k') else h.2.2.1 T', h.2.2.2)
def sd_nw (h : sd_H) (T : Nat) : sd_H := (fun T' => if T' = T then (fun k' => if k' = h.2.2.2 T then (fun _ => 0) else h.1 T k') else h.1 T', fun T' => if T' = T then (fun k' => if k' = h.2.2.2 T then (fun _ => 0) else h.2.1 T k') else h.2.1 T', fun T' => if T' = T then (fun k' => if k' = h.2.2.2 T then (fun _ => none) else h.2.2.1 T k') else h.2.2.1 T', fun T' => if T' = T then h.2.2.2 T + 1 else h.2.2.2 T')
def sd_at (D : va_G) (U : State) (ad : sd_A) (h : sd_H) (H : Heap) (T k : Nat) : Prop := match sd_ob T with
  | true => t_OB (ad T k) (D.1 T) (sd_tn T) (D.2 T) H (sd_fv ad h T k)
  | false => ∃ cA : ClassId, H[ad T k]? = some (arrV cA (sd_tn T) (sd_fv ad h T k)) ∧ ArrOfT U cA (sd_aty (sd_fc T 0)) ∧ va_RA U cA (sd_aty (sd_fc T 0))
def sd_S (D : va_G) (base : Nat) (ad : sd_A) (h : sd_H) (U : State) (H : Heap) : Prop :=
  va_K D sd_cl [] U ∧ base ≤ H.size ∧
  (∀ T k : Nat, T < sd_nT → k < h.2.2.2 T → sd_at D U ad h H T k ∧ base ≤ ad T k ∧ ad T k < H.size) ∧
  (∀ T k T' k' : Nat, T < sd_nT → k < h.2.2.2 T → T' < sd_nT → k' < h.2.2.2 T' → ad T k = ad T' k' → T = T' ∧ k = k') ∧
  (∀ T k i t : Nat, T < sd_nT → k < h.2.2.2 T → sd_fc T i = t + 3 → ∀ o : Nat, h.2.2.1 T k i = some o → t < sd_nT ∧ o < h.2.2.2 t)
/-- a value that the heap knows; the script has the tag sd_nT -/
def sd_ok (h : sd_H) (v : sd_V) : Prop := ∀ (t k : Nat), v = .inr (.inr (t, some k)) → (t < sd_nT ∧ k < h.2.2.2 t) ∨ (t = sd_nT ∧ k = 0)
def sd_ext (h : sd_H) (ad : sd_A) (h' : sd_H) (ad' : sd_A) : Prop := (∀ T k : Nat, ((T < sd_nT ∧ k < h.2.2.2 T) ∨ (T = sd_nT ∧ k = 0)) → ad' T k = ad T k) ∧ ∀ T : Nat, h.2.2.2 T ≤ h'.2.2.2 T
/-- the references that constructors set once for all -/
def sd_OK (h : sd_H) : Prop := ∀ T k i : Nat, T < 8 → k < h.2.2.2 T → (sd_wn T i = 1 → h.2.2.1 T k i = some k) ∧ (sd_wn T i = 2 → h.2.2.1 T k i = some 0)
-- methods
def sd_mr (y : Nat) : sd_MR := (sd_nth sd_ms y).getD mr_L_law
def sd_nm (y : Nat) : MethodName := (sd_mr y).1
def sd_by (y : Nat) : ByteArray := (sd_mr y).2.1
def sd_ml (y : Nat) : Nat := (sd_mr y).2.2.1
def sd_rt (y : Nat) : Option FieldType := (sd_mr y).2.2.2.1
def sd_cd (y : Nat) : List (List sd_I) := (sd_mr y).2.2.2.2
def sd_mx (y : Nat) : Nat × Nat × Nat × Nat × Bool × Nat × Nat × Nat × Nat := (sd_nth sd_mn y).getD (0, 0, 0, 0, false, 0, 0, 0, 0)
def sd_dp (y : Nat) : Nat := (sd_mx y).1
def sd_mc (y : Nat) : Nat := (sd_mx y).2.1
def sd_mz (y : Nat) : Nat := (sd_mx y).2.2.1
def sd_ws (y : Nat) : List Cond := Cond.code (sd_nm y) (sd_by y) (sd_ml y) (sd_rt y) :: lw_tbl
def sd_rm (y : Nat) : Room := { frames := sd_dp y, cells := sd_mc y, slots := sd_mz y, locals := 39 * sd_dp y }
def sd_C (p : Program) (s : State) (m : MethodId) (args : Array Value) (meth : Method) (c : Code) (R : Room) (y : Nat) : Prop :=
  p.tables.exec = Jvm.exec ∧ c.code = sd_by y ∧ c.maxLocals = sd_ml y ∧ s.vm.findClass (sd_nm y).cls = some m.cls ∧ (∀ w ∈ lw_tbl, w.before args s = true) ∧ meth.locks = false ∧ meth.sig.returnType = sd_rt y ∧ meth.name = (sd_nm y).name ∧
  sd_dp y ≤ R.frames ∧ 39 * sd_dp y ≤ R.locals ∧ sd_mc y ≤ R.cells ∧ sd_mz y ≤ R.slots
def sd_al (ad : sd_A) : Nat → List (Option sd_V) → List (Nat × Value)
  | _, [] => []
  | i, none :: t => sd_al ad (i + 1) t
  | i, some v :: t => (i, sd_rv ad v) :: sd_al ad (i + 1) t
def sd_rk (y pc : Nat) (r : Option sd_V) : Prop := match r with
  | none => decode (sd_by y) pc = .ok (.return_, 1) ∧ sd_rt y = none
  | some (.inl x) => decode (sd_by y) pc = .ok (.ireturn, 1) ∧ (sd_rt y = some .int ∨ (sd_rt y = some .boolean ∧ (x = 0 ∨ x = 1)))
  | some (.inr (.inl _)) => decode (sd_by y) pc = .ok (.lreturn, 1) ∧ sd_rt y = some .long
  | some (.inr (.inr _)) => decode (sd_by y) pc = .ok (.areturn, 1) ∧ ∃ n, sd_rt y = some (.object n)
def sd_rs (ad : sd_A) (r : Option sd_V) : List Value := match r with
  | none => []
  | some v => [sd_rv ad v]
def sd_RT (l : Launch) (y : Nat) (rm : Bool) (Q : Option sd_V → sd_H → Prop) (p : Program) (e : Env) (R : Room) (s : State) (m : MethodId) (args : Array Value) (below : List Frame) (meth : Method) (c : Code) (D : va_G) (base : Nat) (Z : State → Prop) (h : sd_H) (ad : sd_A) : Prop :=
  ∀ (r : Option sd_V) (h' : sd_H) (ad' : sd_A) (H' : Heap) (locs' : List Loc) (cs' ss' pc' : Nat) (lsA' : Array Slot), Q r h' → (rm = true → sd_OK h') → sd_ext h ad h' ad' → sd_S D base ad' h' s H' → va_S (fun q => base ≤ q) s.heap H' locs' →
    cs' ≤ sd_mc y → ss' ≤ sd_mz y → (∀ v, r = some v → sd_ok h' v) → sd_rk y pc' r → W p l e R s m args below meth c H' locs' cs' ss' Z (F0 m pc' lsA' (sd_rs ad' r))
def sd_Wq (l : Launch) (sc : Option (Nat × (Nat → Int32))) (y : Nat) (rm : Bool) (Q : Option sd_V → sd_H → Prop) (pc : Nat) (ls : List (Option sd_V)) (st : List sd_V) (h : sd_H) (cs ss : Nat) : Prop :=
  ∀ (p : Program) (e : Env) (s : State) (m : MethodId) (args : Array Value) (below : List Frame) (meth : Method) (c : Code) (R : Room) (D : va_G) (base : Nat) (ad : sd_A) (H : Heap) (locs : List Loc) (lsA : Array Slot) (Z : State → Prop),
    sd_C p s m args meth c R y → base ≤ s.heap.size → sd_S D base ad h s H → va_S (fun q => base ≤ q) s.heap H locs → lv_has lsA (sd_ml y) (sd_al ad 0 ls) → (∀ v ∈ st, sd_ok h v) → (∀ v, some v ∈ ls → sd_ok h v) → (rm = true → sd_OK h) →
    (∀ (L : Nat) (xs : Nat → Int32), sc = some (L, xs) → va_X (ad sd_nT 0) L xs s s.heap ∧ ad sd_nT 0 < base) → sd_RT l y rm Q p e R s m args below meth c D base Z h ad → cs ≤ sd_mc y ∧ ss ≤ sd_mz y →
    W p l e R s m args below meth c H locs cs ss Z (F0 m pc lsA (st.map (sd_rv ad)))
def sd_Pc (D : va_G) (base : Nat) (ad : sd_A) (h : sd_H) (as : List sd_V) : Array Value → State → Prop := fun a U => a = (as.map (sd_rv ad)).toArray ∧ base ≤ U.heap.size ∧ sd_S D base ad h U U.heap
def sd_Qc (D : va_G) (base : Nat) (ad : sd_A) (h : sd_H) (Q : Option sd_V → sd_H → Prop) : Array Value → State → Outcome → State → Prop := fun _ st o t =>
  ∃ (r : Option sd_V) (h' : sd_H) (ad' : sd_A), o = .returned (r.map (sd_rv ad')) ∧ Q r h' ∧ sd_ext h ad h' ad' ∧ sd_S D base ad' h' t t.heap ∧ (∀ v, r = some v → sd_ok h' v) ∧ va_F (fun q => base ≤ q) st t
def sd_E (l : Launch) (y : Nat) (as : List sd_V) (h : sd_H) (Q : Option sd_V → sd_H → Prop) : Prop :=
  (∀ v ∈ as, sd_ok h v) → ∀ (D : va_G) (base : Nat) (ad : sd_A), Met l (sd_nm y) (sd_ws y) (sd_rm y) (sd_Pc D base ad h as) (sd_Qc D base ad h Q) (sd_mc y) (sd_mz y) (fun q => base ≤ q)
def sd_E1 (l : Launch) (y : Nat) (as : List sd_V) (h : sd_H) (Q : Option sd_V → sd_H → Prop) : Prop := sd_OK h → sd_E l y as h (fun r h' => sd_OK h' ∧ Q r h')
-- an instruction of a method, and its check against the class file and the tables' words
def sd_fd : List sd_I → Nat → Option sd_I
  | [], _ => none
  | e :: t, pc => cond (Nat.beq e.1 pc) (some e) (sd_fd t pc)
def sd_fe (cd : List (List sd_I)) (pc : Nat) : Option sd_I := match sd_nth cd (pc / 16) with
  | some l => sd_fd l pc
  | none => none
def sd_wd (w : Nat) : Option Cond := lw_tbl[w]?
def sd_fld (own : String) (ix a1 a2 a3 w : Nat) : Bool :=
  decide (a1 < 8) && decide (a2 < sd_tn a1) && decide (sd_fc a1 a2 = a3) && decide (sd_wd w = some (.fieldLink own ix (sd_cn a1) ((sd_ft a1) a2).2.1 ((sd_ft a1) a2).2.2.1))
def sd_ck (own nm : String) (bytes : ByteArray) (ml dp : Nat) (q : sd_I) : Bool := match q with
  | (pc, i, nx, a1, a2, a3, a4, w, c, d, ts) => match i with
    | .iconst k => decide (decode bytes pc = .ok (.iconst k, 1)) && decide (nx = pc + 1) && decide (Int32.ofInt k = c)
    | .bipush k => decide (decode bytes pc = .ok (.bipush k, 2)) && decide (nx = pc + 2) && decide ((Int8.ofInt k).toInt32 = c)
    | .sipush k => decide (decode bytes pc = .ok (.sipush k, 3)) && decide (nx = pc + 3) && decide ((Int16.ofInt k).toInt32 = c)
    | .lconst k => decide (decode bytes pc = .ok (.lconst k, 1)) && decide (nx = pc + 1) && decide (Int64.ofNat (k : Nat) = d)
    | .ldc k => decide (decode bytes pc = .ok (.ldc k, 2)) && decide (nx = pc + 2) && decide (sd_wd w = some (.constant own k c))
    | .ldc_w k => decide (decode bytes pc = .ok (.ldc_w k, 3)) && decide (nx = pc + 3) && decide (sd_wd w = some (.constant own k c))
    | .ldc2_w k => decide (decode bytes pc = .ok (.ldc2_w k, 3)) && decide (nx = pc + 3) && decide (sd_wd w = some (.constantLong own k d))
    | .iload_n k => decide (decode bytes pc = .ok (.iload_n k, 1)) && decide (nx = pc + 1) && decide ((k : Nat) = a1)
    | .lload_n k => decide (decode bytes pc = .ok (.lload_n k, 1)) && decide (nx = pc + 1) && decide ((k : Nat) = a1)
    | .aload_n k => decide (decode bytes pc = .ok (.aload_n k, 1)) && decide (nx = pc + 1) && decide ((k : Nat) = a1)
    | .iload k => decide (decode bytes pc = .ok (.iload k, 2)) && decide (nx = pc + 2) && decide (k = a1)
    | .lload k => decide (decode bytes pc = .ok (.lload k, 2)) && decide (nx = pc + 2) && decide (k = a1)
    | .aload k => decide (decode bytes pc = .ok (.aload k, 2)) && decide (nx = pc + 2) && decide (k = a1)
    | .istore_n k => decide (decode bytes pc = .ok (.istore_n k, 1)) && decide (nx = pc + 1) && decide ((k : Nat) = a1 ∧ a1 < ml)
    | .lstore_n k => decide (decode bytes pc = .ok (.lstore_n k, 1)) && decide (nx = pc + 1) && decide ((k : Nat) = a1 ∧ a1 + 1 < ml)
    | .astore_n k => decide (decode bytes pc = .ok (.astore_n k, 1)) && decide (nx = pc + 1) && decide ((k : Nat) = a1 ∧ a1 < ml)
    | .istore k => decide (decode bytes pc = .ok (.istore k, 2)) && decide (nx = pc + 2) && decide (k = a1 ∧ a1 < ml)
    | .lstore k => decide (decode bytes pc = .ok (.lstore k, 2)) && decide (nx = pc + 2) && decide (k = a1 ∧ a1 + 1 < ml)
    | .astore k => decide (decode bytes pc = .ok (.astore k, 2)) && decide (nx = pc + 2) && decide (k = a1 ∧ a1 < ml)
    | .iinc k n => decide (decode bytes pc = .ok (.iinc k n, 3)) && decide (nx = pc + 3) && decide (k = a1 ∧ a1 < ml ∧ Int32.ofInt n = c)
    | .goto o => decide (decode bytes pc = .ok (.goto o, 3)) && decide (nx = pc + 3) && decide ((pc : Int) + o = (a1 : Int))
    | .ifnull o => decide (decode bytes pc = .ok (.ifnull o, 3)) && decide (nx = pc + 3) && decide ((pc : Int) + o = (a1 : Int))
    | .ifnonnull o => decide (decode bytes pc = .ok (.ifnonnull o, 3)) && decide (nx = pc + 3) && decide ((pc : Int) + o = (a1 : Int))
    | .ifCond k o => decide (decode bytes pc = .ok (.ifCond k o, 3)) && decide (nx = pc + 3) && decide ((pc : Int) + o = (a1 : Int))
    | .if_icmp k o => decide (decode bytes pc = .ok (.if_icmp k o, 3)) && decide (nx = pc + 3) && decide ((pc : Int) + o = (a1 : Int))
    | .tableswitch df lo hi of => decide (decode bytes pc = .ok (.tableswitch df lo hi of, nx - pc)) && decide ((pc : Int) + df = (a1 : Int) ∧ lo = c.toInt ∧ hi = lo + (ts.length : Int) - 1 ∧ 0 ≤ lo ∧ hi < 1000 ∧ of.toList.map (fun o => (pc : Int) + o) = ts.map (fun t : Nat => (t : Int)))
    | .getfield k => decide (decode bytes pc = .ok (.getfield k, 3)) && decide (nx = pc + 3) && sd_fld own k a1 a2 a3 w && decide (a4 = sd_wn a1 a2)
    | .putfield k => decide (decode bytes pc = .ok (.putfield k, 3)) && decide (nx = pc + 3) && sd_fld own k a1 a2 a3 w && decide ((a4 = 0 ∧ ((sd_ft a1) a2).2.2.2 = false) ∨ (a4 = 1 ∧ ((sd_ft a1) a2).2.2.2 = true ∧ nm = "<init>" ∧ ((sd_ft a1) a2).1 = own))
    | .new k => decide (decode bytes pc = .ok (.new k, 3)) && decide (nx = pc + 3) && decide (a1 < 8 ∧ a2 = sd_tn a1) && decide (sd_wd w = some (.classLink own k (sd_cn a1)) ∧ sd_wd a3 = some (.instantiable (sd_cn a1) a2) ∧ sd_wd a4 = some (.initialized (sd_cn a1)))
    | .newarray k => decide (decode bytes pc = .ok (.newarray k, 2)) && decide (nx = pc + 2) && decide (8 ≤ a1 ∧ a1 < sd_nT ∧ a2 = sd_tn a1 ∧ a2 < 1000 ∧ sd_fc a1 0 < 3) && decide (sd_aty (sd_fc a1 0) = newarray.typeOf k ∧ sd_wd w = some (.arrayClass (newarray.typeOf k)))
    | .anewarray k => decide (decode bytes pc = .ok (.anewarray k, 3)) && decide (nx = pc + 3) && decide (8 ≤ a1 ∧ a1 < sd_nT ∧ a2 = sd_tn a1 ∧ a2 < 1000 ∧ 3 ≤ sd_fc a1 0) && decide (sd_wd w = some (.classLink own k (sd_cn (sd_fc a1 0 - 3))) ∧ sd_wd a3 = some (.arrayOver (.object (sd_cn (sd_fc a1 0 - 3)))))
    | .invokevirtual k => decide (decode bytes pc = .ok (.invokevirtual k, 3)) && decide (nx = pc + 3) && decide (a4 = 0 ∧ a1 < 145 ∧ sd_wd w = some (.methodLink own k (sd_nm a1))) && decide (sd_dp a1 + 1 ≤ dp ∧ ts = [sd_mc a1, sd_mz a1] ∧ a2 = (sd_mx a1).2.2.2.1 ∧ (sd_mx a1).2.2.2.2.1 = false ∧ (sd_nm a1).name ≠ "<init>")
    | .invokestatic k => decide (decode bytes pc = .ok (.invokestatic k, 3)) && decide (nx = pc + 3) && decide (a4 = 1 ∧ a1 < 145 ∧ sd_wd w = some (.methodLink own k (sd_nm a1))) && decide (sd_dp a1 + 1 ≤ dp ∧ ts = [sd_mc a1, sd_mz a1] ∧ a2 = (sd_mx a1).2.2.2.1 ∧ (sd_mx a1).2.2.2.2.1 = true)
    | .invokespecial k => decide (decode bytes pc = .ok (.invokespecial k, 3)) && decide (nx = pc + 3) && decide ((a4 = 3 ∧ sd_wd w = some (.methodLink own k Lib.objectInit) ∧ 1 ≤ dp) ∨
        ((a4 = 2 ∧ sd_wd w = some (.methodLink own k (sd_nm a1)) ∨ a4 = 4 ∧ sd_wd w = some (.methodLinkNest own k (sd_nm a1) "StreamDesk")) ∧ a1 < 145 ∧ sd_dp a1 + 1 ≤ dp ∧ ts = [sd_mc a1, sd_mz a1] ∧ a2 = (sd_mx a1).2.2.2.1 ∧ (sd_mx a1).2.2.2.2.1 = false ∧ (sd_nm a1).name = "<init>" ∧ sd_rt a1 = none))
    | i => decide (decode bytes pc = .ok (i, 1)) && decide (nx = pc + 1)
/-- all instructions of a method are as the class file has them -/
def sd_cb (m : sd_MR) (dp : Nat) : Bool := match m with
  | (nm, bytes, ml, _, cd) => cd.all fun l => l.all fun q => sd_ck nm.cls nm.name bytes ml dp q
def sd_ca (y : Nat) : Bool := sd_cb (sd_mr y) (sd_dp y)
/-- a method's own words -/
def sd_cq (m : sd_MR) (x : Nat × Nat × Nat × Nat × Bool × Nat × Nat × Nat × Nat) : Bool := match m, x with
  | (nm, bytes, ml, rt, _), (_, _, _, np, stt, ic, im, is, ii) => decide (sd_wd ic = some (.code nm bytes ml rt)) && decide (sd_wd im = some (if stt = true then .static nm else .instanceMethod nm)) && (stt || decide (nm.name = "<init>") || decide (sd_wd is = some (.selects nm.cls nm nm))) && decide (sd_wd ii = some (.initialized nm.cls)) &&
    decide (nm.cls ≠ "java/lang/invoke/MethodHandle" ∧ nm.cls ≠ "java/lang/invoke/VarHandle") && decide ((parseMethodDescriptor nm.desc).map (fun d => d.parameters.length) = some (np - if stt = true then 0 else 1)) && decide (ml ≤ 20) && plainFor nm && (stt || decide (1 ≤ np))
def sd_cm (y : Nat) : Bool := sd_cq (sd_mr y) (sd_mx y)
