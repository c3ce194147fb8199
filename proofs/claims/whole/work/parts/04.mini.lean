/-! THE SMALL MACHINE: values with logical addresses (0: null), a memory of ints, longs, references; 'wp' says what must hold so that the code comes to its end -/
abbrev Mm : Type := (Nat → Nat → Int32) × (Nat → Nat → Int64) × (Nat → Nat → Nat)
abbrev Op : Type := Nat × Instr × List Nat
abbrev I (k : Int) : Int32 := Int32.ofInt k
/-- which class lies at an address: 1 + its place in 'classes'; 100 int[], 101 long[], 102 byte[], 103 boolean[], 104 Word[], 105 State[], 106 Image[], 107 int[][] -/
def layN : Nat := 4351411569794259188571324361283572338231175497469368825399576094327917042519628684423179583048229327354124563243789744370054177617824605522707015870102371747853249292693755184139794776003783305443194193982722986190735056005000718187310036953296695773793193760374023469502943404372755421621599406563092975941219494284210200721481150020404199320459865046992166813108548249500859973238890523003335584338441458252449746766605874935426009257613350355620370374211293396698757511601095276684132069362614186107917719785981360953776482816071654193068870561433469911710555424075766611148009802925902826423115456915831863051984520936892634798658291553883995006321154918738939407391359444694878251573928706558176310288984626553452707497067807287186069182459051140421861402203955222676337333938709014878800359042075676803121394757789658486210753957814166921910371649712202336950547788698827232770796223852615345923706883852292978204136266919334034485453209807608703844895935567769116465031954478406835546911736242320385508336448872189338090723869819565538917297286144397283786114204000722259900076831021488608406221389938438801150250259327161214852585344259388183377382904023806490492102219811231159327622851646797120319295062010508239488855773893200367067804700047269303770868852877354111577723245106631756275815642134816157021259313428719173408561658329801912963965608320391184626418519084796468146222358401336258170761868953594862373966805900091887188297202636671301530117785220976424502139268911354244706757320284154231940858795197083825640541237286285336581925710280616122482562841321794608564400103208734584755844906325100635859721073474132983086826660053194486368649424823052502126781808461255948495713086236005834964361557724066359657665183962572128264686988971173208537302279137062890705227601437889390801486371595579567297042043544043430653212617989464011779578908838151613880795489421247824178304318158428506174792620676152870162198676500665139669330984932711689220388302174631562420441231732011679372558631640196214931988840355930956727832928939806558727572224
def alenN : Nat := 180566682105222609815111812071033180788930370703419786710934812138615437501854415094116268074047466152006692050134236714782757772507732579573747928851262155821351144695766529641945080827567948074604016586480856411605822750218730916744851514640571615193887338271925234892467786893224478577052447531382409287902521023509693978674906074854539108928743005447918144748889803026206472457744291001579488983923860520872023489559258249471745578869405084058015788185580134159455988212047031535567209018269625549656891575537452109805403162651198436203639275680214895492990342475732016833936627231398512876939763994054964511455734728019170184440286755406214350770824544337277951265158571277679418380237577210634132898637344754214885604478389821442311641323531781827957527817133903794391489791032475315124761379177309729182846974818563510694299961984116958762486534055030870410780548167397776567562139500131485978996603385903860054963996460026986899559491922702760932286273228156830702680958146672804388491431604732011176986121516997132627202974457041604455458165704348438071707893509718794958304206882659036105115999758202257175882175157384369876810317510931356837062812439671034615406222243052387444324853664854849221789864855312551872438957393979576637722109159315674802926544973917967705520813647005231540604196405385330720103121551979751525754379193475979290339162554098247730679268199831737715705733948813303848490366928398931484063715771829359652450572018490000654685560491609088651190224296132699014388212269178554515804022258216014821586888825719422894891999268848009977219065657860706196012010710296815856666893376253304069978965075401254617857292169698397381800391725807570578894422605324646632426155297084272374986845896265237141931957113373690097758459611445359560511777247852551972560108338806032958870259172668444809990273946002796101183100429448081625407284228400333281582715885130248815870025537684671370118991223468036151026464650154169688506916340155425240644398515576071712961134206621642678685136803484215561019396860005969768747309487342140714931333752875095580647355370133154799106061374410282201674512818822795327456468920975153694948881773721360398124921149333367228928836330427474528448799769178791007791410846487552352141920485031304745864452749441755783281046859890914407830764114421212800933940283249980152242184753850759366083696489285021237383200891605007114487775715254512523065872594616587808547067181319134359982794197472584539507707603261699030864233296357364448648125679806976004512127852155227776474550933828560247976398725330774994914810590973958357283555380758609929513717092352978723205737092901540548447644340350797345350761636049835964244862055379724556019269434039635965720126519194544637685644368644085983560503153637919711694504789229368845830138289326868573982718554655276984259970742786438483288138797238710019566039453632179466402450659157776840486782520813547769890233167332334389200802030293605675288176136364105973795675509206144831721718713954082171480281273412159784103268618322513694226518413761123140511038381552714925682062172161298664697888768
def lay (a : Nat) : Nat := Nat.land (Nat.shiftRight layN (Nat.mul 8 a)) 255
def alen (a : Nat) : Nat := Nat.land (Nat.shiftRight alenN (Nat.mul 12 a)) 4095
def upf {α : Type} (f : Nat → α) (k : Nat) (v : α) : Nat → α := fun j => if j = k then v else f j
def up2 {α : Type} (f : Nat → Nat → α) (a k : Nat) (v : α) : Nat → Nat → α := fun b => if b = a then upf (f a) k v else f b
def upr {α : Type} (f : Nat → Nat → α) (a : Nat) (g : Nat → α) : Nat → Nat → α := fun b => if b = a then g else f b
def cpf {α : Type} (f g : Nat → α) (sp dp n : Nat) : Nat → α := fun k => if dp ≤ k ∧ k < dp + n then f (sp + (k - dp)) else g k
def sI (M : Mm) (a k : Nat) (v : Int32) : Mm := (up2 M.1 a k v, M.2)
def sL (M : Mm) (a k : Nat) (v : Int64) : Mm := (M.1, up2 M.2.1 a k v, M.2.2)
def sR (M : Mm) (a k : Nat) (v : Nat) : Mm := (M.1, M.2.1, up2 M.2.2 a k v)
/-- an index of an array of n -/
def inR (i : Int32) (n : Nat) : Prop := ¬ (i < 0 ∨ n ≤ i.toNatClampNeg)
def stv (L : List Value) (k : Nat) (v : Value) : List Value := match k with
  | 0 => L.set 0 v
  | j + 1 => match L.getD j (.retAddr 0) with
    | .long _ => (L.set j (.retAddr 0)).set (j + 1) v
    | .double _ => (L.set j (.retAddr 0)).set (j + 1) v
    | _ => L.set (j + 1) v
def stw (L : List Value) (k : Nat) (v : Value) : List Value := (stv L k v).set (k + 1) (.retAddr 0)
def jm (C : List Op) (t : Nat) : List Op := match C with
  | [] => []
  | o :: r => cond (Nat.beq o.1 t) (o :: r) (jm r t)
def cmpI (c : Jvm.ClassFile.Cond) (a b : Int32) : Prop := match c with
  | .eq => a = b
  | .ne => ¬ a = b
  | .lt => a < b
  | .ge => b ≤ a
  | .gt => b < a
  | .le => a ≤ b
def swT (k : Nat → Prop) (x : Int32) (lo : Int) (dflt : Nat) (P : Prop) : List Nat → Prop
  | [] => P → k dflt
  | t :: r => (x = I lo → k t) ∧ swT k x (lo + 1) dflt (¬ x = I lo ∧ P) r

/-- what the enum's switch table holds, by ordinal -/
def swTab (k : Nat) : Int := match k with
  | 0 => 1 | 1 => 2 | 2 => 11 | 3 => 3 | 4 => 4 | 5 => 5 | 6 => 6 | 7 => 7 | 8 => 8 | 16 => 9 | 17 => 10 | 18 => 12 | 19 => 13 | 20 => 14 | 21 => 15 | 22 => 16 | _ => 0
def pkTab (k : Nat) : Int64 := match k with
  | 0 => 453774 | 1 => 4562600 | 2 => 6123643853 | 3 => 2481044 | 4 => 1952795 | 5 => 3755273 | 6 => 232546955 | 7 => 375088 | 8 => 355568 | 9 => 326396 | 10 => 350183 | 11 => 583 | 12 => 168984 | 13 => 423 | 14 => 1111 | 15 => 10631 | 16 => 2504979733 | 17 => 11486992 | 18 => 374873 | 19 => 31519426 | 20 => 12532058 | 21 => 3436200 | 22 => 212302449 | _ => 0
abbrev EE : Type := Nat → List Value → Mm → Option Value → Mm → Prop
abbrev JJ : Type := Nat → List Value → List Value → Mm → Prop
/-- null, or a constant of the enum -/
def rE (a : Nat) : Prop := a = 0 ∨ (600 ≤ a ∧ a < 623)
def cmpA (c : Jvm.ClassFile.ACond) (a b : Nat) : Prop := match c with
  | .eq => a = b
  | .ne => ¬ a = b
def ldI (L : List Value) (k : Nat) (K : Value → Prop) : Prop := match L.getD k (.retAddr 0) with
  | .int x => K (.int x)
  | _ => False
def ldL (L : List Value) (k : Nat) (K : Value → Prop) : Prop := match L.getD k (.retAddr 0) with
  | .long x => K (.long x)
  | _ => False
def ldA (L : List Value) (k : Nat) (K : Value → Prop) : Prop := match L.getD k (.retAddr 0) with
  | .ref x => K (.ref x)
  | _ => False
def popI (S : List Value) (K : Int32 → List Value → Prop) : Prop := match S with
  | .int x :: r => K x r
  | _ => False
def popL (S : List Value) (K : Int64 → List Value → Prop) : Prop := match S with
  | .long x :: r => K x r
  | _ => False
def popA (S : List Value) (K : Nat → List Value → Prop) : Prop := match S with
  | .ref x :: r => K x r
  | _ => False
/-- one slot, of the first category -/
def pop1 (S : List Value) (K : Value → List Value → Prop) : Prop := match S with
  | .ref x :: r => K (.ref x) r
  | .int x :: r => K (.int x) r
  | _ => False
/-- nothing -/
def popN (S : List Value) (K : Prop) : Prop := match S with
  | [] => K
  | _ => False
def wpGet (a ci k : Nat) (M : Mm) (K : Value → Prop) : List Nat → Prop
  | 0 :: _ => lay a = ci + 1 ∧ K (.int (M.1 a k))
  | 5 :: _ => lay a = ci + 1 ∧ K (.int (M.1 a k))
  | 1 :: _ => lay a = ci + 1 ∧ K (.long (M.2.1 a k))
  | 2 :: _ => lay a = ci + 1 ∧ K (.ref (M.2.2 a k))
  | 3 :: off :: _ => lay a = ci + 1 ∧ K (.ref (a + off))
  | 4 :: b :: _ => lay a = ci + 1 ∧ K (.ref b)
  | 6 :: _ => (600 ≤ a ∧ a < 623) ∧ K (.long (pkTab (a - 600)))
  | _ => False
def wpPut (S : List Value) (ci k : Nat) (M : Mm) (K : List Value → Mm → Prop) : List Nat → Prop
  | 0 :: _ => popI S fun v r => popA r fun a r => lay a = ci + 1 ∧ K r (sI M a k v)
  | 5 :: _ => popI S fun v r => popA r fun a r => lay a = ci + 1 ∧ (v = I 0 ∨ v = I 1) ∧ K r (sI M a k v)
  | 1 :: _ => popL S fun v r => popA r fun a r => lay a = ci + 1 ∧ K r (sL M a k v)
  | 2 :: _ => popA S fun v r => popA r fun a r => lay a = ci + 1 ∧ K r (sR M a k v)
  | _ => False
def wpInv (E : EE) (y : Nat) (as : List Value) (r : List Value) (M : Mm) (K : List Value → Mm → Prop) : Nat → Prop
  | 0 => ∃ M', E y as M none M' ∧ K r M'
  | 1 => ∃ (v : Int32) (M' : Mm), E y as M (some (.int v)) M' ∧ K (.int v :: r) M'
  | 2 => ∃ (v : Int64) (M' : Mm), E y as M (some (.long v)) M' ∧ K (.long v :: r) M'
  | 3 => ∃ (v : Nat) (M' : Mm), E y as M (some (.ref v)) M' ∧ K (.ref v :: r) M'
  | _ => False
/-- a static call's arguments and the rest; an instance call's receiver behind them -/
def wpCall (E : EE) (S : List Value) (M : Mm) (K : List Value → Mm → Prop) : List Nat → Prop
  | 0 :: y :: n :: rk :: _ => cond (Nat.ble n S.length && Nat.ble (S.drop n).length 4) (wpInv E y (S.take n).reverse (S.drop n) M K rk) False
  | 1 :: y :: n :: rk :: c :: _ => cond (Nat.ble (S.drop n).length 4) (popA (S.drop n) fun a r => lay a = c ∧ wpInv E y (.ref a :: (S.take n).reverse) r M K rk) False
  | 7 :: _ => popI S fun y r => popI r fun x r => cond (Nat.ble r.length 4) (K (.int (if x < y then y else x) :: r) M) False
  | 6 :: _ => popI S fun y r => popI r fun x r => cond (Nat.ble r.length 4) (K (.int (if y < x then y else x) :: r) M) False
  | 11 :: y :: n :: rk :: _ => cond (Nat.ble n S.length && Nat.ble (S.drop n).length 4) (wpInv E y (S.take n).reverse (S.drop n) M K rk) False
  | 8 :: _ => popI S fun n r => popI r fun dp r => popA r fun b r => popI r fun sp r => popA r fun a r => cond (Nat.ble r.length 4) True False ∧ lay a = 100 ∧ lay b = 100 ∧ ¬ sp < 0 ∧ ¬ dp < 0 ∧ ¬ n < 0 ∧ sp.toNatClampNeg + n.toNatClampNeg ≤ alen a ∧ dp.toNatClampNeg + n.toNatClampNeg ≤ alen b ∧ K r (upr M.1 b (cpf (M.1 a) (M.1 b) sp.toNatClampNeg dp.toNatClampNeg n.toNatClampNeg), M.2)
  | 9 :: _ => popI S fun n r => popI r fun dp r => popA r fun b r => popI r fun sp r => popA r fun a r => cond (Nat.ble r.length 4) True False ∧ lay a = 101 ∧ lay b = 101 ∧ ¬ sp < 0 ∧ ¬ dp < 0 ∧ ¬ n < 0 ∧ sp.toNatClampNeg + n.toNatClampNeg ≤ alen a ∧ dp.toNatClampNeg + n.toNatClampNeg ≤ alen b ∧ K r (M.1, upr M.2.1 b (cpf (M.2.1 a) (M.2.1 b) sp.toNatClampNeg dp.toNatClampNeg n.toNatClampNeg), M.2.2)
  | 10 :: _ => popA S fun a r => cond (Nat.ble r.length 4) True False ∧ (600 ≤ a ∧ a < 623) ∧ K (.int (I ((a - 600 : Nat) : Int)) :: r) M
  | _ => False
/-- 'X': the script's length and its ints -/
def wpAld (X : Nat × (Nat → Int32)) (S : List Value) (M : Mm) (K : List Value → Prop) : List Nat → Prop
  | [] => popI S fun i r => popA r fun a r => lay a = 100 ∧ inR i (alen a) ∧ K (.int (M.1 a i.toNatClampNeg) :: r)
  | 1 :: _ => popI S fun i r => popA r fun a r => a = 650 ∧ inR i 23 ∧ K (.int (I (swTab i.toNatClampNeg)) :: r)
  | 2 :: _ => popI S fun i r => popA r fun a r => a = 501 ∧ inR i X.1 ∧ K (.int (X.2 i.toNatClampNeg) :: r)
  | _ => False
def wpAald (S : List Value) (M : Mm) (K : List Value → Prop) : List Nat → Prop
  | [] => popI S fun i r => popA r fun a r => lay a = 104 ∧ inR i (alen a) ∧ K (.ref (M.2.2 a i.toNatClampNeg) :: r)
  | 1 :: b :: base :: stride :: _ => popI S fun i r => popA r fun a r => a = b ∧ inR i (alen b) ∧ K (.ref (base + stride * i.toNatClampNeg) :: r)
  | 2 :: _ => popI S fun i r => popA r fun a r => a = 651 ∧ inR i 23 ∧ K (.ref (600 + i.toNatClampNeg) :: r)
  | _ => False
def wpAlen (X : Nat × (Nat → Int32)) (a : Nat) (K : Int32 → Prop) : List Nat → Prop
  | [] => (100 ≤ lay a ∧ lay a < 108) ∧ K (I (alen a))
  | 2 :: _ => a = 501 ∧ K (I X.1)
  | 3 :: _ => a = 651 ∧ K (I 23)
  | _ => False
def wpRet (Rt : Option Value → Mm → Prop) (M : Mm) (x : Int32) : List Nat → Prop
  | [] => Rt (some (.int x)) M
  | _ => (x = I 0 ∨ x = I 1) ∧ Rt (some (.int x)) M
/-- the locals that are still wanted -/
def msk (inf : List Nat) (i : Nat) (L : List Value) : List Value := match L with
  | [] => []
  | v :: r => cond (inf.any (Nat.beq i)) v (.retAddr 0) :: msk inf (i + 1) r
section WP
variable (E : EE) (J : JJ) (Rt : Option Value → Mm → Prop) (X : Nat × (Nat → Int32)) (C : List Op)
def wp : Nat → List Op → List Value → List Value → Mm → Prop
  | 0, _, _, _, _ => False
  | _ + 1, [], _, _, _ => False
  | n + 1, (pc, i, inf) :: is, L, S, M => match i with
    | .nop => J pc (msk inf 0 L) S M
    | .iconst k => wp n is L (.int (I k) :: S) M
    | .bipush k => wp n is L (.int (I k) :: S) M
    | .sipush k => wp n is L (.int (I k) :: S) M
    | .ldc _ => wp n is L (.int (I (inf.getD 0 0)) :: S) M
    | .ldc_w _ => wp n is L (.int (I (inf.getD 0 0)) :: S) M
    | .ldc2_w _ => wp n is L (.long (Int64.ofNat (inf.getD 0 0)) :: S) M
    | .lconst k => wp n is L (.long (Int64.ofNat k.val) :: S) M
    | .aconst_null => wp n is L (.ref 0 :: S) M
    | .iload_n k => ldI L k.val fun v => wp n is L (v :: S) M
    | .iload k => ldI L k fun v => wp n is L (v :: S) M
    | .aload_n k => ldA L k.val fun v => wp n is L (v :: S) M
    | .aload k => ldA L k fun v => wp n is L (v :: S) M
    | .lload_n k => ldL L k.val fun v => wp n is L (v :: S) M
    | .lload k => ldL L k fun v => wp n is L (v :: S) M
    | .istore_n k => popI S fun v r => wp n is (stv L k.val (.int v)) r M
    | .istore k => popI S fun v r => wp n is (stv L k (.int v)) r M
    | .astore_n k => popA S fun v r => wp n is (stv L k.val (.ref v)) r M
    | .astore k => popA S fun v r => wp n is (stv L k (.ref v)) r M
    | .lstore_n k => popL S fun v r => wp n is (stw L k.val (.long v)) r M
    | .lstore k => popL S fun v r => wp n is (stw L k (.long v)) r M
    | .iinc k c => ldI L k fun v => popI [v] fun x _ => wp n is (stv L k (.int (x + I c))) S M
    | .iadd => popI S fun y r => popI r fun x r => wp n is L (.int (x + y) :: r) M
    | .isub => popI S fun y r => popI r fun x r => wp n is L (.int (x - y) :: r) M
    | .imul => popI S fun y r => popI r fun x r => wp n is L (.int (x * y) :: r) M
    | .idiv => popI S fun y r => popI r fun x r => ¬ y = 0 ∧ wp n is L (.int (x / y) :: r) M
    | .irem => popI S fun y r => popI r fun x r => ¬ y = 0 ∧ wp n is L (.int (x - x / y * y) :: r) M
    | .iand => popI S fun y r => popI r fun x r => wp n is L (.int (x &&& y) :: r) M
    | .ior => popI S fun y r => popI r fun x r => wp n is L (.int (x ||| y) :: r) M
    | .ixor => popI S fun y r => popI r fun x r => wp n is L (.int (x ^^^ y) :: r) M
    | .ishl => popI S fun y r => popI r fun x r => wp n is L (.int (x <<< (y &&& 31)) :: r) M
    | .ishr => popI S fun y r => popI r fun x r => wp n is L (.int (x >>> (y &&& 31)) :: r) M
    | .iushr => popI S fun y r => popI r fun x r => wp n is L (.int (x.toUInt32 >>> (y.toUInt32 &&& Int32.toUInt32 31)).toInt32 :: r) M
    | .i2l => popI S fun x r => wp n is L (.long x.toInt64 :: r) M
    | .i2b => popI S fun x r => wp n is L (.int x.toInt8.toInt32 :: r) M
    | .ladd => popL S fun y r => popL r fun x r => wp n is L (.long (x + y) :: r) M
    | .lmul => popL S fun y r => popL r fun x r => wp n is L (.long (x * y) :: r) M
    | .lor => popL S fun y r => popL r fun x r => wp n is L (.long (x ||| y) :: r) M
    | .lshl => popI S fun y r => popL r fun x r => wp n is L (.long (x <<< (y.toInt64 &&& 63)) :: r) M
    | .lcmp => popL S fun y r => popL r fun x r => wp n is L (.int (lg_cmp x y) :: r) M
    | .dup => pop1 S fun v r => wp n is L (v :: v :: r) M
    | .dup2 => pop1 S fun v r => pop1 r fun w r => wp n is L (v :: w :: v :: w :: r) M
    | .pop => pop1 S fun _ r => wp n is L r M
    | .goto _ => wp n (jm C (inf.getD 0 0)) L S M
    | .if_icmp c _ => popI S fun y r => popI r fun x r => (cmpI c x y → wp n (jm C (inf.getD 0 0)) L r M) ∧ (¬ cmpI c x y → wp n is L r M)
    | .ifCond c _ => popI S fun x r => (cmpI c x 0 → wp n (jm C (inf.getD 0 0)) L r M) ∧ (¬ cmpI c x 0 → wp n is L r M)
    | .if_acmp c _ => popA S fun y r => popA r fun x r => rE x ∧ rE y ∧ (cmpA c x y → wp n (jm C (inf.getD 0 0)) L r M) ∧ (¬ cmpA c x y → wp n is L r M)
    | .ifnull _ => popA S fun x r => (x = 0 → wp n (jm C (inf.getD 0 0)) L r M) ∧ (¬ x = 0 → wp n is L r M)
    | .ifnonnull _ => popA S fun x r => (¬ x = 0 → wp n (jm C (inf.getD 0 0)) L r M) ∧ (x = 0 → wp n is L r M)
    | .tableswitch _ lo _ _ => popI S fun x r => swT (fun t => wp n (jm C t) L r M) x lo (inf.getD 0 0) True inf.tail
    | .lookupswitch _ _ => popI S fun x r => swT (fun t => wp n (jm C t) L r M) x 0 (inf.getD 0 0) True inf.tail
    | .getfield _ => popA S fun a r => match inf with
      | ci :: k :: t => wpGet a ci k M (fun v => wp n is L (v :: r) M) t
      | _ => False
    | .putfield _ => match inf with
      | ci :: k :: t => wpPut S ci k M (fun r M' => wp n is L r M') t
      | _ => False
    | .getstatic _ => wp n is L (.ref (inf.getD 0 0) :: S) M
    | .invokestatic _ => wpCall E S M (fun r M' => wp n is L r M') inf
    | .invokevirtual _ => wpCall E S M (fun r M' => wp n is L r M') inf
    | .iaload => wpAld X S M (fun r => wp n is L r M) inf
    | .laload => popI S fun i r => popA r fun a r => lay a = 101 ∧ inR i (alen a) ∧ wp n is L (.long (M.2.1 a i.toNatClampNeg) :: r) M
    | .baload => popI S fun i r => popA r fun a r => (lay a = 102 ∨ lay a = 103) ∧ inR i (alen a) ∧ wp n is L (.int (M.1 a i.toNatClampNeg) :: r) M
    | .aaload => wpAald S M (fun r => wp n is L r M) inf
    | .iastore => popI S fun v r => popI r fun i r => popA r fun a r => lay a = 100 ∧ inR i (alen a) ∧ wp n is L r (sI M a i.toNatClampNeg v)
    | .lastore => popL S fun v r => popI r fun i r => popA r fun a r => lay a = 101 ∧ inR i (alen a) ∧ wp n is L r (sL M a i.toNatClampNeg v)
    | .bastore => popI S fun v r => popI r fun i r => popA r fun a r => ((lay a = 102 ∧ v.toInt8.toInt32 = v) ∨ (lay a = 103 ∧ (v = I 0 ∨ v = I 1))) ∧ inR i (alen a) ∧ wp n is L r (sI M a i.toNatClampNeg v)
    | .aastore => popA S fun v r => popI r fun i r => popA r fun a r => lay a = 104 ∧ inR i (alen a) ∧ (600 ≤ v ∧ v < 623) ∧ wp n is L r (sR M a i.toNatClampNeg v)
    | .arraylength => popA S fun a r => wpAlen X a (fun v => wp n is L (.int v :: r) M) inf
    | .ireturn => popI S fun x r => popN r (wpRet Rt M x inf)
    | .lreturn => popL S fun x r => popN r (Rt (some (.long x)) M)
    | .areturn => popA S fun x r => popN r (Rt (some (.ref x)) M)
    | .return_ => popN S (Rt none M)
    | _ => False
end WP
