-- THE ABSTRACT MACHINE: values, a memory that is a function, one step of an instruction as a condition, contracts over it; all sound over the kit's W
abbrev AV : Type := Int ⊕ (Int64 ⊕ (Nat × Int))
abbrev vi (x : Int) : AV := Sum.inl x
abbrev vl (x : Int64) : AV := Sum.inr (Sum.inl x)
abbrev vr (k : Nat) (p : Int) : AV := Sum.inr (Sum.inr (k, p))
abbrev MI : Type := Nat → Int → Int → Int
abbrev ML : Type := Nat → Int → Int64
abbrev PO : Type := Option AV → MI → ML → Prop
abbrev LV : Type := List (Option AV)
/-- launch, tables' places, addresses, array kinds, the script (its numbers at row 0, its length at row 1) -/
abbrev GG : Type := Launch × va_G × (Nat → Int → Nat) × (Nat → ClassId) × (Int → Int → Int)
abbrev gA (Γ : GG) : Nat → Int → Nat := Γ.2.2.1
abbrev gC (Γ : GG) : Nat → ClassId := Γ.2.2.2.1
abbrev gS (Γ : GG) : Int → Int → Int := Γ.2.2.2.2
def up (m : MI) (k : Nat) (p i v : Int) : MI := fun k' p' i' => if k' = k ∧ p' = p ∧ i' = i then v else m k' p' i'
def ul (n : ML) (k : Nat) (i : Int) (v : Int64) : ML := fun k' i' => if k' = k ∧ i' = i then v else n k' i'
def cpy (m : MI) (ks : Nat) (ps sp : Int) (kd : Nat) (pd dp len : Int) : MI := fun k p i => if k = kd ∧ p = pd ∧ dp ≤ i ∧ i < dp + len then m ks ps (sp + (i - dp)) else m k p i
/-- kinds of cells: 0 the script; 1 the class, 2 its row of papers, 3 papers, 4-9 their rows, 10 editions, 11-18 their rows, 19 the text, 20 its row, 21 the maker, 22 the sheet, 23 its row, 24 the order; no others -/
def akind : Nat → Nat
  | 0 => 6 | 1 => 7 | 2 => 5 | 3 => 7 | 4 => 1 | 5 => 1 | 6 => 1 | 7 => 1 | 8 => 2 | 9 => 2 | 10 => 7 | 11 => 1 | 12 => 2 | 13 => 1 | 14 => 1 | 15 => 1 | 16 => 1 | 17 => 1 | 18 => 1
  | 19 => 7 | 20 => 1 | 21 => 7 | 22 => 7 | 23 => 4 | 24 => 1 | _ => 0
def alen : Nat → Int
  | 2 => 6 | 4 => 12 | 5 => 12 | 6 => 12 | 7 => 96 | 8 => 12 | 9 => 12 | 11 => 12 | 12 => 12 | 13 => 36 | 14 => 36 | 15 => 36 | 16 => 36 | 17 => 36 | 18 => 36
  | 20 => 120 | 23 => 20 | 24 => 12 | _ => 0
def aln (m : MI) : Nat → Int
  | 0 => m 0 1 0 | k => alen k
def nK : Nat → Nat
  | 0 => 0 | 1 => 1 | 2 => 1 | 3 => 8 | 4 => 8 | 5 => 8 | 6 => 8 | 7 => 8 | 8 => 8 | 9 => 8 | 10 => 9 | 11 => 9 | 12 => 9 | 13 => 9 | 14 => 9 | 15 => 9 | 16 => 9 | 17 => 9 | 18 => 9 | _ => 1
def cIx : Nat → Nat
  | 1 => 5 | 3 => 2 | 10 => 0 | 19 => 4 | 21 => 1 | 22 => 3 | _ => 99
def vd (k : Nat) (p : Int) : Prop := k < 25 ∧ 0 ≤ p ∧ p < (nK k : Int)
def wl : List (Nat × Int) := (List.range 25).flatMap (fun k => (List.range (nK k)).map (fun (p : Nat) => (k, (p : Int))))
def flds (k : Nat) (p : Int) (m : MI) (n : ML) : List AV := match k with
  | 1 => [vr 3 0, vr 3 1, vr 2 0, vi (m 1 p 3), vr 19 0, vr 21 0, vr 10 8]
  | 3 => [vi (m 3 p 0), vi (m 3 p 1), vi (m 3 p 2), vi (m 3 p 3), vr 4 p, vr 5 p, vr 6 p, vr 7 p, vr 8 p, vr 9 p, vr 10 p]
  | 10 => [vi (m 10 p 0), vi (m 10 p 1), vi (m 10 p 2), vi (m 10 p 3), vr 11 p, vr 12 p, vr 13 p, vr 14 p, vr 15 p, vr 16 p, vr 17 p, vr 18 p]
  | 19 => [vi (m 19 p 0), vr 20 p, vi (m 19 p 2), vi (m 19 p 3)]
  | 21 => [vr 22 p, vr 24 p]
  | 22 => [vi (m 22 p 0), vi (m 22 p 1), vl (n 22 2), vr 23 p]
  | _ => []
/-- fields of numbers -/
def fint : Nat → Nat → Bool
  | 1, 3 => true | 3, 0 => true | 3, 1 => true | 3, 2 => true | 3, 3 => true | 10, 0 => true | 10, 1 => true | 10, 2 => true | 10, 3 => true
  | 19, 0 => true | 19, 2 => true | 19, 3 => true | 22, 0 => true | 22, 1 => true | _, _ => false
def cv (Γ : GG) : AV → Value
  | .inl x => .int (Int32.ofInt x)
  | .inr (.inl x) => .long x
  | .inr (.inr (k, p)) => .ref (gA Γ k p)
def cnt (Γ : GG) (m : MI) (n : ML) (k : Nat) (p : Int) : va_E :=
  if akind k = 7 then .inr (cIx k, (flds k p m n).map (cv Γ))
  else if akind k = 4 then .inl (gC Γ 4, (alen k).toNat, .inr (.inl (fun j => n k (j : Int))))
  else if akind k = 5 then .inl (gC Γ 5, (alen k).toNat, .inr (.inr (.inr (.inr (fun j => some (gA Γ 3 (m k p (j : Int))))))))
  else .inl (gC Γ (akind k), (alen k).toNat, .inl (fun j => Int32.ofInt (m k p (j : Int))))
def wls (Γ : GG) (m : MI) (n : ML) : va_W := wl.map (fun q => (gA Γ q.1 q.2, cnt Γ m n q.1 q.2))
def tysW (Γ : GG) : List (ClassId × FieldType) := [(gC Γ 1, .int), (gC Γ 2, .boolean), (gC Γ 1, .int), (gC Γ 4, .long), (gC Γ 5, .object RX2)]
def Bits (m : MI) : Prop := ∀ k p i, akind k = 2 → m k p i = 0 ∨ m k p i = 1
def Svd (m : MI) : Prop := ∀ p i, 0 ≤ m 2 p i ∧ m 2 p i < 8
def Wd (Γ : GG) (m : MI) (n : ML) (s : State) (H : Heap) : Prop := va_P Γ.2.1 vwCl (wls Γ m n) H ∧ va_K Γ.2.1 vwCl (tysW Γ) s ∧ m 0 = gS Γ ∧ Bits m ∧ Svd m
def GOK (Γ : GG) : Prop := ∀ k p k' p', vd k p → vd k' p' → gA Γ k p = gA Γ k' p' → k = k' ∧ p = p'
def nw0 : Cond := .methodLinkNest "NewspaperMakeup$Sheet" 52 ⟨"NewspaperMakeup", "isWithin", "(III)Z"⟩ "NewspaperMakeup"
def nw1 : Cond := .methodLinkNest "NewspaperMakeup$Sheet" 52 ⟨"NewspaperMakeup", "isWithin", "(III)Z"⟩ "NewspaperMakeup"
def Nws (s : State) : Prop := va_Nw nw0 s ∧ va_Nw nw1 s
def rmd (d : Nat) : Room := { frames := d, cells := 0, slots := 0, locals := 40 * d }
def wsM (k : Nat) : List Cond := Cond.code (yN k) (cN k) (mL k) (rT k) :: WS
def fr (Γ : GG) : Addr → Prop := fun q => ∃ kk pp, vd kk pp ∧ q = gA Γ kk pp
/-- the methods that hold the script: the law, its cell -/
def isS (k : Nat) : Bool := Nat.beq k 0 || Nat.beq k 78
def kcl : Nat := 78
def okr (k : Nat) (v : AV) : Prop := match v with
  | .inr (.inr (kd, pp)) => vd kd pp ∨ (isS k = true ∧ kd = 0 ∧ pp = 0)
  | _ => True
def okv (v : AV) : Prop := match v with
  | .inr (.inr (kd, pp)) => vd kd pp
  | _ => True
def Qm (Γ : GG) (post : PO) : Array Value → State → Outcome → State → Prop := fun _ st oc t =>
  (∃ (r : Option AV) (m' : MI) (n' : ML), oc = .returned (r.map (cv Γ)) ∧ post r m' n' ∧ Wd Γ m' n' t t.heap ∧ ∀ v, r = some v → okv v) ∧ va_F (fr Γ) st t
/-- THE CONTRACT of method k on abstract arguments, with d calls below it -/
def CM (Γ : GG) (d k : Nat) (as : List AV) (m : MI) (n : ML) (post : PO) : Prop :=
  GOK Γ → (∀ v ∈ as, okv v) → Met Γ.1 (yN k) (wsM k) (rmd d) (va_Pc (as.map (cv Γ)) (fun U => Wd Γ m n U U.heap ∧ Nws U)) (Qm Γ post) 0 0 (fr Γ)
def asc (Γ : GG) : Nat → LV → List (Nat × Value)
  | _, [] => []
  | i, none :: t => asc Γ (i + 1) t
  | i, some v :: t => (i, cv Γ v) :: asc Γ (i + 1) t
def RetAt (k pc : Nat) (r : Option AV) : Prop := match r with
  | none => decode (cN k) pc = .ok (.return_, 1) ∧ rT k = none
  | some (.inl x) => decode (cN k) pc = .ok (.ireturn, 1) ∧ (rT k = some .int ∨ (rT k = some .boolean ∧ (x = 0 ∨ x = 1)))
  | some (.inr (.inl _)) => decode (cN k) pc = .ok (.lreturn, 1) ∧ rT k = some .long
  | _ => False
def Fx (Γ : GG) (d k : Nat) (p : Program) (R : Room) (s : State) (mm : MethodId) (args : Array Value) (c : Code) (A : Nat → Prop) (cells slots : Nat) : Prop :=
  p.tables.exec = Jvm.exec ∧ c.code = cN k ∧ c.maxLocals = mL k ∧ s.vm.findClass (oN (oI k)) = some mm.cls ∧ (∀ w ∈ WS, w.before args s = true) ∧ Nws s ∧ d ≤ R.frames ∧ 40 * d ≤ R.locals ∧ cells ≤ R.cells ∧ slots ≤ R.slots ∧
  (∀ kk pp, vd kk pp → A (gA Γ kk pp)) ∧ GOK Γ ∧ (isS k = true → va_X (gA Γ 0 0) (gS Γ 1 0).toNat (fun j => Int32.ofInt (gS Γ 0 (j : Int))) s s.heap ∧ gA Γ 0 0 < s.heap.size ∧ ¬ A (gA Γ 0 0) ∧ 0 ≤ gS Γ 1 0 ∧ gS Γ 1 0 ≤ 2048)
def Ctx (Γ : GG) (d k : Nat) (post : PO) (p : Program) (e : Env) (R : Room) (s : State) (mm : MethodId) (args : Array Value) (below : List Frame) (meth : Method) (c : Code) (A : Nat → Prop) (cells slots : Nat) (Q : State → Prop) : Prop :=
  Fx Γ d k p R s mm args c A cells slots ∧ ∀ (r : Option AV) (m' : MI) (n' : ML) (H' : Heap) (locs' : List Loc) (ls' : Array Slot) (pc' : Nat), post r m' n' → Wd Γ m' n' s H' → va_S A s.heap H' locs' → RetAt k pc' r → W p Γ.1 e R s mm args below meth c H' locs' cells slots Q (F0 mm pc' ls' (r.toList.map (cv Γ)))
def LOK (Γ : GG) (k : Nat) (lc : Array Slot) (ls : LV) : Prop := lv_has lc (mL k) (asc Γ 0 ls) ∧ ls.length = mL k ∧ ∀ v, some v ∈ ls → okr k v
/-- THE JUDGEMENT: from this place of method k the machine comes to its end, and the answer and the memory there have post -/
def AM (Γ : GG) (d k pc : Nat) (ls : LV) (st : List AV) (m : MI) (n : ML) (post : PO) : Prop :=
  ∀ (p : Program) (e : Env) (R : Room) (s : State) (mm : MethodId) (args : Array Value) (below : List Frame) (meth : Method) (c : Code) (A : Nat → Prop) (cells slots : Nat) (Q : State → Prop),
    Ctx Γ d k post p e R s mm args below meth c A cells slots Q → ∀ (H : Heap) (locs : List Loc) (lc : Array Slot), Wd Γ m n s H → va_S A s.heap H locs → LOK Γ k lc ls → (∀ v ∈ st, okr k v) →
      W p Γ.1 e R s mm args below meth c H locs cells slots Q (F0 mm pc lc (st.map (cv Γ)))
-- ===== one step =====
abbrev II : Type := Instr × Nat × Nat × Nat × List Nat
def InR (x : Int) : Prop := -2147483648 ≤ x ∧ x ≤ 2147483647
def isL (o : Option AV) : Bool := match o with
  | some (.inr (.inl _)) => true
  | _ => false
def prevL (ls : LV) (x : Nat) : Bool := match x with
  | 0 => false
  | y + 1 => isL (ls.getD y none)
def sto (ls : LV) (x : Nat) (v : AV) (K : LV → Prop) : Prop := match Nat.blt x ls.length && !(prevL ls x) with
  | true => K (ls.set x (some v))
  | false => False
def sto2 (ls : LV) (x : Nat) (v : Int64) (K : LV → Prop) : Prop := match Nat.blt (x + 1) ls.length && !(prevL ls x) with
  | true => K ((ls.set x (some (vl v))).set (x + 1) none)
  | false => False
def ldI (ls : LV) (x : Nat) (K : Int → Prop) : Prop := match ls.getD x none with
  | some (.inl v) => K v
  | _ => False
def ldL (ls : LV) (x : Nat) (K : Int64 → Prop) : Prop := match ls.getD x none with
  | some (.inr (.inl v)) => K v
  | _ => False
def ldR (ls : LV) (x : Nat) (K : Nat → Int → Prop) : Prop := match ls.getD x none with
  | some (.inr (.inr (kd, pp))) => K kd pp
  | _ => False
def t1I (st : List AV) (K : Int → List AV → Prop) : Prop := match st with
  | .inl x :: r => K x r
  | _ => False
def t1L (st : List AV) (K : Int64 → List AV → Prop) : Prop := match st with
  | .inr (.inl x) :: r => K x r
  | _ => False
def t1R (st : List AV) (K : Nat → Int → List AV → Prop) : Prop := match st with
  | .inr (.inr (kd, pp)) :: r => K kd pp r
  | _ => False
def bo (b : Bool) (P : Prop) : Prop := match b with
  | true => P
  | false => False
def cmpP (c : ClassFile.Cond) (x y : Int) : Prop := match c with
  | .eq => x = y
  | .ne => ¬ x = y
  | .lt => x < y
  | .ge => ¬ x < y
  | .gt => y < x
  | .le => ¬ y < x
def sw (x lo : Int) (T : Nat → Prop) : List Nat → Prop
  | [] => True
  | t :: r => (x = lo → T t) ∧ sw x (lo + 1) T r
def lsw (x : Int) (T : Nat → Prop) (df : Nat) : List (Int × Int) → List Nat → Prop
  | (a, _) :: r, t :: ts => (x = a → T t) ∧ (¬ x = a → lsw x T df r ts)
  | [], [] => T df
  | _, _ => False
def popN : Nat → List AV → List AV → Option (List AV × List AV)
  | 0, acc, r => some (acc, r)
  | n + 1, acc, v :: r => popN n (v :: acc) r
  | _ + 1, _, [] => none
def acat : AV → Nat
  | .inr (.inl _) => 2
  | _ => 1
def catS : List AV → Nat
  | [] => 0
  | v :: r => acat v + catS r
def noS (v : AV) : Bool := match v with
  | .inr (.inr (0, _)) => false
  | _ => true
def recv (cx : Nat) (as : List AV) : Bool := match as with
  | .inr (.inr (kd, _)) :: _ => Nat.beq (cIx kd) cx && Nat.beq (akind kd) 7
  | _ => false
def iop (f : Int32 → Int32 → Int32) (x y : Int) : Int := (f (Int32.ofInt x) (Int32.ofInt y)).toInt
def lshlA (x : Int64) (y : Int) : Int64 := x <<< ((Int32.ofInt y).toInt64 &&& 63)
def lushrA (x : Int64) (y : Int) : Int64 := (x.toUInt64 >>> ((Int32.ofInt y).toInt64.toUInt64 &&& Int64.toUInt64 63)).toInt64
/-- what the law's cell answers -/
def cellV (m : MI) (j : Int) : Int := if j < m 0 1 0 then m 0 0 j else 7919 * (j + 3) * (j + 11)
def callA (Γ : GG) (d k' na : Nat) (chk : List AV → Bool) (ls : LV) (st : List AV) (m : MI) (n : ML) (K : LV → List AV → MI → ML → Prop) : Prop := match d with
  | 0 => False
  | d' + 1 => match popN na [] st with
    | none => False
    | some (as, rest) => bo (chk as && as.all noS && Nat.ble (catS rest) 8) (CM Γ d' k' as m n (fun r m' n' => K ls (r.toList ++ rest) m' n'))
def st1 (Γ : GG) (d k : Nat) (post : PO) (i : II) (pc : Nat) (ls : LV) (st : List AV) (m : MI) (n : ML) (K : LV → List AV → MI → ML → Prop) : Prop :=
  match i.1 with
  | .iconst v => K ls (vi v :: st) m n
  | .bipush v => K ls (vi v :: st) m n
  | .sipush v => K ls (vi v :: st) m n
  | .lconst v => K ls (vl (Int64.ofNat (v : Nat)) :: st) m n
  | .ldc2_w _ => (match LCL[i.2.2.1]? with
    | some q => K ls (vl q.2.2 :: st) m n
    | none => False)
  | .ldc_w _ => (match LCI[i.2.2.1]? with
    | some q => K ls (vi q.2.2 :: st) m n
    | none => False)
  | .ldc _ => (match LCI[i.2.2.1]? with
    | some q => K ls (vi q.2.2 :: st) m n
    | none => False)
  | .iload x => ldI ls x (fun v => K ls (vi v :: st) m n)
  | .iload_n x => ldI ls (x : Nat) (fun v => K ls (vi v :: st) m n)
  | .lload x => ldL ls x (fun v => K ls (vl v :: st) m n)
  | .lload_n x => ldL ls (x : Nat) (fun v => K ls (vl v :: st) m n)
  | .aload x => ldR ls x (fun a b => K ls (vr a b :: st) m n)
  | .aload_n x => ldR ls (x : Nat) (fun a b => K ls (vr a b :: st) m n)
  | .istore x => t1I st (fun v r => sto ls x (vi v) (fun ls' => K ls' r m n))
  | .istore_n x => t1I st (fun v r => sto ls (x : Nat) (vi v) (fun ls' => K ls' r m n))
  | .lstore_n x => t1L st (fun v r => sto2 ls (x : Nat) v (fun ls' => K ls' r m n))
  | .lstore x => t1L st (fun v r => sto2 ls x v (fun ls' => K ls' r m n))
  | .astore x => t1R st (fun a b r => sto ls x (vr a b) (fun ls' => K ls' r m n))
  | .astore_n x => t1R st (fun a b r => sto ls (x : Nat) (vr a b) (fun ls' => K ls' r m n))
  | .iinc x c => ldI ls x (fun v => sto ls x (vi (v + c)) (fun ls' => K ls' st m n))
  | .dup => (match st with
    | .inl v :: r => K ls (vi v :: vi v :: r) m n
    | .inr (.inr (a, b)) :: r => K ls (vr a b :: vr a b :: r) m n
    | _ => False)
  | .dup2 => t1I st (fun v r => t1R r (fun a b r => K ls (vi v :: vr a b :: vi v :: vr a b :: r) m n))
  | .iadd => t1I st (fun y r => t1I r (fun x r => K ls (vi (x + y) :: r) m n))
  | .isub => t1I st (fun y r => t1I r (fun x r => K ls (vi (x - y) :: r) m n))
  | .imul => t1I st (fun y r => t1I r (fun x r => K ls (vi (x * y) :: r) m n))
  | .idiv => t1I st (fun y r => t1I r (fun x r => (0 ≤ x ∧ x ≤ 2147483647 ∧ 0 < y ∧ y ≤ 2147483647) ∧ K ls (vi (x / y) :: r) m n))
  | .irem => t1I st (fun y r => t1I r (fun x r => (0 ≤ x ∧ x ≤ 2147483647 ∧ 0 < y ∧ y ≤ 2147483647) ∧ K ls (vi (x % y) :: r) m n))
  | .iand => t1I st (fun y r => t1I r (fun x r => K ls (vi (iop (· &&& ·) x y) :: r) m n))
  | .ixor => t1I st (fun y r => t1I r (fun x r => K ls (vi (iop (· ^^^ ·) x y) :: r) m n))
  | .iushr => t1I st (fun y r => t1I r (fun x r => K ls (vi (iop (fun a b => (a.toUInt32 >>> (b.toUInt32 &&& Int32.toUInt32 31)).toInt32) x y) :: r) m n))
  | .ishr => t1I st (fun y r => t1I r (fun x r => K ls (vi (iop (fun a b => a >>> (b &&& 31)) x y) :: r) m n))
  | .i2l => t1I st (fun x r => K ls (vl (Int32.ofInt x).toInt64 :: r) m n)
  | .ladd => t1L st (fun y r => t1L r (fun x r => K ls (vl (x + y) :: r) m n))
  | .lmul => t1L st (fun y r => t1L r (fun x r => K ls (vl (x * y) :: r) m n))
  | .i2b => t1I st (fun x r => K ls (vi (Int32.ofInt x).toInt8.toInt :: r) m n)
  | .l2i => t1L st (fun x r => K ls (vi x.toInt32.toInt :: r) m n)
  | .lsub => t1L st (fun y r => t1L r (fun x r => K ls (vl (x - y) :: r) m n))
  | .land => t1L st (fun y r => t1L r (fun x r => K ls (vl (x &&& y) :: r) m n))
  | .lor => t1L st (fun y r => t1L r (fun x r => K ls (vl (x ||| y) :: r) m n))
  | .lxor => t1L st (fun y r => t1L r (fun x r => K ls (vl (x ^^^ y) :: r) m n))
  | .lshl => t1I st (fun y r => t1L r (fun x r => K ls (vl (lshlA x y) :: r) m n))
  | .lushr => t1I st (fun y r => t1L r (fun x r => K ls (vl (lushrA x y) :: r) m n))
  | .lcmp => t1L st (fun y r => t1L r (fun x r => K ls (vi (lg_cmp x y).toInt :: r) m n))
  | .getfield _ => t1R st (fun kd pp r => bo (Nat.beq (cIx kd) i.2.2.1 && Nat.beq (akind kd) 7) (match (flds kd pp m n)[i.2.2.2.1]? with
    | some v => K ls (v :: r) m n
    | none => False))
  | .putfield _ => (match st with
    | .inl v :: r => t1R r (fun kd pp r => bo (Nat.beq (cIx kd) i.2.2.1 && fint kd i.2.2.2.1) (K ls r (up m kd pp (i.2.2.2.1 : Int) v) n))
    | .inr (.inl v) :: r => t1R r (fun kd pp r => bo (Nat.beq kd 22 && Nat.beq i.2.2.1 3 && Nat.beq i.2.2.2.1 2) (pp = 0 ∧ K ls r m (ul n 22 2 v)))
    | _ => False)
  | .iaload => t1I st (fun j r => t1R r (fun kd pp r => bo (Nat.beq (akind kd) 1 || Nat.beq kd 0) ((0 ≤ j ∧ j < aln m kd) ∧ K ls (vi (m kd pp j) :: r) m n)))
  | .baload => t1I st (fun j r => t1R r (fun kd pp r => bo (Nat.beq (akind kd) 2 || Nat.beq (akind kd) 3) ((0 ≤ j ∧ j < alen kd) ∧ K ls (vi (m kd pp j) :: r) m n)))
  | .laload => t1I st (fun j r => t1R r (fun kd _ r => bo (Nat.beq (akind kd) 4) ((0 ≤ j ∧ j < alen kd) ∧ K ls (vl (n kd j) :: r) m n)))
  | .aaload => t1I st (fun j r => t1R r (fun kd pp r => bo (Nat.beq kd 2) ((0 ≤ j ∧ j < 6) ∧ K ls (vr 3 (m 2 pp j) :: r) m n)))
  | .iastore => t1I st (fun v r => t1I r (fun j r => t1R r (fun kd pp r => bo (Nat.beq (akind kd) 1) ((0 ≤ j ∧ j < alen kd) ∧ K ls r (up m kd pp j v) n))))
  | .bastore => t1I st (fun v r => t1I r (fun j r => t1R r (fun kd pp r => bo (Nat.beq (akind kd) 2 || Nat.beq (akind kd) 3) ((0 ≤ j ∧ j < alen kd) ∧ (match akind kd with
    | 2 => v = 0 ∨ v = 1
    | _ => -128 ≤ v ∧ v < 128) ∧ K ls r (up m kd pp j v) n))))
  | .lastore => t1L st (fun v r => t1I r (fun j r => t1R r (fun kd _ r => bo (Nat.beq (akind kd) 4) ((0 ≤ j ∧ j < alen kd) ∧ K ls r m (ul n kd j v)))))
  | .aastore => t1R st (fun kq q r => t1I r (fun j r => t1R r (fun kd pp r => bo (Nat.beq kd 2 && Nat.beq kq 3) ((0 ≤ j ∧ j < 6) ∧ K ls r (up m 2 pp j q) n))))
  | .arraylength => t1R st (fun kd _ r => bo (!(Nat.beq (akind kd) 7) && !(Nat.beq (akind kd) 0)) (K ls (vi (aln m kd) :: r) m n))
  | .goto _ => AM Γ d k i.2.2.1 ls st m n post
  | .ifCond c _ => t1I st (fun x r => InR x ∧ (cmpP c x 0 → AM Γ d k i.2.2.1 ls r m n post) ∧ (¬ cmpP c x 0 → K ls r m n))
  | .if_icmp c _ => t1I st (fun y r => t1I r (fun x r => (InR x ∧ InR y) ∧ (cmpP c x y → AM Γ d k i.2.2.1 ls r m n post) ∧ (¬ cmpP c x y → K ls r m n)))
  | .tableswitch _ lo hi _ => t1I st (fun x r => InR x ∧ (x < lo ∨ hi < x → AM Γ d k i.2.2.1 ls r m n post) ∧ sw x lo (fun t => AM Γ d k t ls r m n post) i.2.2.2.2)
  | .lookupswitch _ ps => t1I st (fun x r => InR x ∧ lsw x (fun t => AM Γ d k t ls r m n post) i.2.2.1 ps.toList i.2.2.2.2)
  | .ireturn => (match st with
    | [.inl x] => (match i.2.2.1 with
      | 0 => True
      | _ => x = 0 ∨ x = 1) ∧ post (some (vi x)) m n
    | _ => False)
  | .lreturn => (match st with
    | [.inr (.inl x)] => post (some (vl x)) m n
    | _ => False)
  | .return_ => (match st with
    | [] => post none m n
    | _ => False)
  | .invokevirtual _ => callA Γ d i.2.2.1 i.2.2.2.1 (recv (i.2.2.2.2.getD 0 99)) ls st m n K
  | .invokestatic _ => (match i.2.2.2.2 with
    | [2] => t1I st (fun len r => t1I r (fun dp r => t1R r (fun kd pd r => t1I r (fun sp r => t1R r (fun ks ps r => bo ((Nat.beq (akind kd) 1 || Nat.beq (akind kd) 2) && Nat.beq (akind ks) (akind kd) && Nat.ble (catS r) 8)
        ((0 ≤ sp ∧ 0 ≤ dp ∧ 0 ≤ len ∧ sp + len ≤ alen ks ∧ dp + len ≤ alen kd) ∧ match d with
          | 0 => False
          | _ + 1 => K ls r (cpy m ks ps sp kd pd dp len) n))))))
    | [3] => t1I st (fun y r => t1I r (fun x r => bo (Nat.ble (catS r) 8) ((InR x ∧ InR y) ∧ match d with
      | 0 => False
      | _ + 1 => K ls (vi (if x < y then y else x) :: r) m n)))
    | [4] => t1I st (fun j r => t1R r (fun kd _ r => bo (Nat.beq kd 0 && Nat.ble (catS r) 8) ((0 ≤ j ∧ j ≤ 1000) ∧ match d with
      | 0 => False
      | _ + 1 => K ls (vi (cellV m j) :: r) m n)))
    | _ => callA Γ d i.2.2.1 i.2.2.2.1 (fun _ => true) ls st m n K)
  | _ => False
/-- the weakest condition of a stretch: jumps leave it, calls go on in it -/
def wp (Γ : GG) (d k : Nat) (post : PO) : Nat → List II → LV → List AV → MI → ML → Prop
  | pc, [], ls, st, m, n => AM Γ d k pc ls st m n post
  | pc, i :: is, ls, st, m, n => st1 Γ d k post i pc ls st m n (fun ls' st' m' n' => wp Γ d k post (pc + i.2.1) is ls' st' m' n')
-- ===== what a program checks of a stretch =====
def xl : Instr → Nat
  | .iconst _ => 1 | .bipush _ => 2 | .sipush _ => 3 | .lconst _ => 1 | .ldc2_w _ => 3 | .ldc_w _ => 3 | .ldc _ => 2 | .iload _ => 2 | .iload_n _ => 1 | .lload _ => 2 | .lload_n _ => 1 | .aload _ => 2 | .aload_n _ => 1
  | .istore _ => 2 | .istore_n _ => 1 | .lstore _ => 2 | .astore _ => 2 | .astore_n _ => 1 | .iinc _ _ => 3 | .getfield _ => 3 | .putfield _ => 3 | .goto _ => 3 | .ifCond _ _ => 3 | .if_icmp _ _ => 3
  | .invokevirtual _ => 3 | .invokestatic _ => 3 | _ => 1
def tgs (pc : Nat) : List Int → List Nat → Bool
  | [], [] => true
  | o :: os, t :: ts => decide ((pc : Int) + o = (t : Int)) && tgs pc os ts
  | _, _ => false
def nmx : Nat := 72
def nwk : Nat := 69
def chk (k pc : Nat) (i : II) : Bool := decide (decode (cN k) pc = .ok (i.1, i.2.1)) && (match i.1 with
  | .tableswitch df lo hi os => decide ((pc : Int) + df = (i.2.2.1 : Int)) && tgs pc os.toList i.2.2.2.2 && decide (hi = lo + os.toList.length - 1)
  | .lookupswitch df ps => decide ((pc : Int) + df = (i.2.2.1 : Int)) && tgs pc (ps.toList.map (fun q => q.2)) i.2.2.2.2 && (ps.toList.zip (ps.toList.drop 1)).all (fun (a, next) => a.1 < next.1)
  | ins => Nat.beq i.2.1 (xl ins) && (match ins with
    | .bipush v => decide (-128 ≤ v) && decide (v < 128)
    | .sipush v => decide (-32768 ≤ v) && decide (v < 32768)
    | .goto o => decide ((pc : Int) + o = (i.2.2.1 : Int))
    | .ifCond _ o => decide ((pc : Int) + o = (i.2.2.1 : Int))
    | .if_icmp _ o => decide ((pc : Int) + o = (i.2.2.1 : Int))
    | .getfield x => LF.contains (oI k, x, i.2.2.1, i.2.2.2.1)
    | .putfield x => LF.contains (oI k, x, i.2.2.1, i.2.2.2.1)
    | .ldc2_w x => (match LCL[i.2.2.1]? with
      | some q => Nat.beq q.1 (oI k) && Nat.beq q.2.1 x
      | none => false)
    | .ldc_w x => (match LCI[i.2.2.1]? with
      | some q => Nat.beq q.1 (oI k) && Nat.beq q.2.1 x
      | none => false)
    | .ldc x => (match LCI[i.2.2.1]? with
      | some q => Nat.beq q.1 (oI k) && Nat.beq q.2.1 x
      | none => false)
    | .ireturn => (match i.2.2.1 with
      | 0 => decide (rT k = some .int)
      | _ => decide (rT k = some .boolean))
    | .lreturn => decide (rT k = some .long)
    | .return_ => decide (rT k = none)
    | .invokevirtual x => LM.contains (oI k, x, i.2.2.1) && LI.contains i.2.2.1 && decide (i.2.2.2.2 = [oI i.2.2.1]) && decide ((parseMethodDescriptor (yN i.2.2.1).desc).map (fun d => d.parameters.length + 1) = some i.2.2.2.1) && Nat.ble (mL i.2.2.1) 20
    | .invokestatic x => (match i.2.2.2.2 with
      | [2] => LA.contains (oI k, x)
      | [3] => LM.contains (oI k, x, nmx)
      | [4] => LM.contains (oI k, x, kcl)
      | [1] => decide (i.2.2.1 = nwk) && (decide (oI k = 3) && decide (x = 52) || decide (oI k = 3) && decide (x = 52)) && LT.contains i.2.2.1 && decide ((parseMethodDescriptor (yN i.2.2.1).desc).map (fun d => d.parameters.length) = some i.2.2.2.1) && Nat.ble (mL i.2.2.1) 20
      | _ => LM.contains (oI k, x, i.2.2.1) && LT.contains i.2.2.1 && decide ((parseMethodDescriptor (yN i.2.2.1).desc).map (fun d => d.parameters.length) = some i.2.2.2.1) && Nat.ble (mL i.2.2.1) 20)
    | _ => true))
def hasB (k : Nat) : Nat → List II → Bool
  | _, [] => true
  | pc, i :: is => chk k pc i && hasB k (pc + i.2.1) is
