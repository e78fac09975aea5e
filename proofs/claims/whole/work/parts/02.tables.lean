/-! the classes: names, fields, types (by program) -/
def R_Model : String := "EpochServerModel"
def T_Model : u_T := fun k => match k with
  | 0 => ("EpochServerModel", "is", "[Z", true)
  | 1 => ("EpochServerModel", "in", "[I", true)
  | 2 => ("EpochServerModel", "mode", "[I", true)
  | 3 => ("EpochServerModel", "version", "[I", true)
  | 4 => ("EpochServerModel", "mtime", "[I", true)
  | 5 => ("EpochServerModel", "size", "[I", true)
  | 6 => ("EpochServerModel", "nameSize", "[I", true)
  | 7 => ("EpochServerModel", "name", "[I", true)
  | 8 => ("EpochServerModel", "data", "[I", true)
  | 9 => ("EpochServerModel", "paths", "I", false)
  | 10 => ("EpochServerModel", "time", "I", false)
  | 11 => ("EpochServerModel", "snapshots", "I", false)
  | 12 => ("EpochServerModel", "looseFirst", "I", false)
  | 13 => ("EpochServerModel", "loose", "I", false)
  | 14 => ("EpochServerModel", "tape", "[I", true)
  | 15 => ("EpochServerModel", "answer", "[I", true)
  | 16 => ("EpochServerModel", "tapeSize", "I", false)
  | 17 => ("EpochServerModel", "answerSize", "I", false)
  | 18 => ("EpochServerModel", "ill", "I", false)
  | 19 => ("EpochServerModel", "errors", "I", false)
  | 20 => ("EpochServerModel", "msize", "I", false)
  | 21 => ("EpochServerModel", "fNumber", "[I", true)
  | 22 => ("EpochServerModel", "fTree", "[I", true)
  | 23 => ("EpochServerModel", "fPath", "[I", true)
  | 24 => ("EpochServerModel", "fMode", "[I", true)
  | 25 => ("EpochServerModel", "fTold", "[I", true)
  | 26 => ("EpochServerModel", "fLast", "[I", true)
  | 27 => ("EpochServerModel", "fids", "I", false)
  | 28 => ("EpochServerModel", "at", "I", false)
  | 29 => ("EpochServerModel", "end", "I", false)
  | 30 => ("EpochServerModel", "good", "Z", false)
  | 31 => ("EpochServerModel", "textAt", "I", false)
  | 32 => ("EpochServerModel", "textSize", "I", false)
  | 33 => ("EpochServerModel", "mFid", "I", false)
  | 34 => ("EpochServerModel", "mOther", "I", false)
  | 35 => ("EpochServerModel", "mMode", "I", false)
  | 36 => ("EpochServerModel", "mPerm", "I", false)
  | 37 => ("EpochServerModel", "mMany", "I", false)
  | 38 => ("EpochServerModel", "mText", "I", false)
  | 39 => ("EpochServerModel", "mTextSize", "I", false)
  | 40 => ("EpochServerModel", "mSecond", "I", false)
  | 41 => ("EpochServerModel", "mSecondSize", "I", false)
  | 42 => ("EpochServerModel", "mData", "I", false)
  | 43 => ("EpochServerModel", "mOffset", "J", false)
  | 44 => ("EpochServerModel", "mCount", "J", false)
  | 45 => ("EpochServerModel", "wAt", "[I", true)
  | 46 => ("EpochServerModel", "wSize", "[I", true)
  | 47 => ("EpochServerModel", "sOnes", "[Z", true)
  | 48 => ("EpochServerModel", "sMode", "I", false)
  | 49 => ("EpochServerModel", "sTime", "I", false)
  | 50 => ("EpochServerModel", "sLength", "J", false)
  | 51 => ("EpochServerModel", "sRest", "Z", false)
  | 52 => ("EpochServerModel", "sync", "Z", false)
  | 53 => ("EpochServerModel", "error", "I", false)
  | 54 => ("EpochServerModel", "score", "[I", true)
  | 55 => ("EpochServerModel", "block", "[I", true)
  | 56 => ("EpochServerModel", "chunk", "[I", true)
  | 57 => ("EpochServerModel", "hash", "[I", true)
  | 58 => ("EpochServerModel", "last", "[I", true)
  | 59 => ("EpochServerModel", "blocks", "I", false)
  | 60 => ("EpochServerModel", "blockBytes", "I", false)
  | 61 => ("EpochServerModel", "blockSize", "I", false)
  | 62 => ("EpochServerModel", "came", "I", false)
  | 63 => ("EpochServerModel", "isFull", "Z", false)
  | 64 => ("EpochServerModel", "isKept", "Z", false)
  | _ => ("EpochServerModel", "parts", "[I", true)
def t_Model : Nat → FieldType := fun k => match k with
  | 0 => .array .boolean
  | 1 => .array .int
  | 2 => .array .int
  | 3 => .array .int
  | 4 => .array .int
  | 5 => .array .int
  | 6 => .array .int
  | 7 => .array .int
  | 8 => .array .int
  | 9 => .int
  | 10 => .int
  | 11 => .int
  | 12 => .int
  | 13 => .int
  | 14 => .array .int
  | 15 => .array .int
  | 16 => .int
  | 17 => .int
  | 18 => .int
  | 19 => .int
  | 20 => .int
  | 21 => .array .int
  | 22 => .array .int
  | 23 => .array .int
  | 24 => .array .int
  | 25 => .array .int
  | 26 => .array .int
  | 27 => .int
  | 28 => .int
  | 29 => .int
  | 30 => .boolean
  | 31 => .int
  | 32 => .int
  | 33 => .int
  | 34 => .int
  | 35 => .int
  | 36 => .int
  | 37 => .int
  | 38 => .int
  | 39 => .int
  | 40 => .int
  | 41 => .int
  | 42 => .int
  | 43 => .long
  | 44 => .long
  | 45 => .array .int
  | 46 => .array .int
  | 47 => .array .boolean
  | 48 => .int
  | 49 => .int
  | 50 => .long
  | 51 => .boolean
  | 52 => .boolean
  | 53 => .int
  | 54 => .array .int
  | 55 => .array .int
  | 56 => .array .int
  | 57 => .array .int
  | 58 => .array .int
  | 59 => .int
  | 60 => .int
  | 61 => .int
  | 62 => .int
  | 63 => .boolean
  | 64 => .boolean
  | _ => .array .int
theorem nm_Model : ∀ a, a < 66 → ∀ b, b < 66 → a ≠ b → (T_Model a).2.1 ≠ (T_Model b).2.1 := by decide +kernel
theorem ty_Model : ∀ k, k < 66 → parseFieldDescriptor (T_Model k).2.2.1 = some (t_Model k) := by decide +kernel
def R_Server : String := "EpochServer"
def T_Server : u_T := fun k => match k with
  | 0 => ("EpochServer", "tape", "LEpochServer$Bytes;", true)
  | 1 => ("EpochServer", "reply", "LEpochServer$Bytes;", true)
  | 2 => ("EpochServer", "request", "LEpochServer$Request;", true)
  | 3 => ("EpochServer", "fids", "LEpochServer$FidTable;", true)
  | 4 => ("EpochServer", "live", "LEpochServer$Tree;", true)
  | 5 => ("EpochServer", "loose", "LEpochServer$Journal;", true)
  | 6 => ("EpochServer", "snapshots", "LEpochServer$Snapshots;", true)
  | 7 => ("EpochServer", "archiver", "LEpochServer$Archiver;", true)
  | 8 => ("EpochServer", "given", "I", false)
  | 9 => ("EpochServer", "time", "I", false)
  | 10 => ("EpochServer", "msize", "I", false)
  | 11 => ("EpochServer", "ill", "I", false)
  | _ => ("EpochServer", "errors", "I", false)
def t_Server : Nat → FieldType := fun k => match k with
  | 0 => .object "EpochServer$Bytes"
  | 1 => .object "EpochServer$Bytes"
  | 2 => .object "EpochServer$Request"
  | 3 => .object "EpochServer$FidTable"
  | 4 => .object "EpochServer$Tree"
  | 5 => .object "EpochServer$Journal"
  | 6 => .object "EpochServer$Snapshots"
  | 7 => .object "EpochServer$Archiver"
  | 8 => .int
  | 9 => .int
  | 10 => .int
  | 11 => .int
  | _ => .int
theorem nm_Server : ∀ a, a < 13 → ∀ b, b < 13 → a ≠ b → (T_Server a).2.1 ≠ (T_Server b).2.1 := by decide +kernel
theorem ty_Server : ∀ k, k < 13 → parseFieldDescriptor (T_Server k).2.2.1 = some (t_Server k) := by decide +kernel
def R_Archiver : String := "EpochServer$Archiver"
def T_Archiver : u_T := fun k => match k with
  | 0 => ("EpochServer$Archiver", "store", "LEpochServer$Store;", true)
  | 1 => ("EpochServer$Archiver", "sha", "LEpochServer$Sha;", true)
  | 2 => ("EpochServer$Archiver", "block", "LEpochServer$Bytes;", true)
  | 3 => ("EpochServer$Archiver", "lastScores", "[I", true)
  | 4 => ("EpochServer$Archiver", "order", "[I", true)
  | 5 => ("EpochServer$Archiver", "keeps", "Z", false)
  | _ => ("EpochServer$Archiver", "full", "Z", false)
def t_Archiver : Nat → FieldType := fun k => match k with
  | 0 => .object "EpochServer$Store"
  | 1 => .object "EpochServer$Sha"
  | 2 => .object "EpochServer$Bytes"
  | 3 => .array .int
  | 4 => .array .int
  | 5 => .boolean
  | _ => .boolean
theorem nm_Archiver : ∀ a, a < 7 → ∀ b, b < 7 → a ≠ b → (T_Archiver a).2.1 ≠ (T_Archiver b).2.1 := by decide +kernel
theorem ty_Archiver : ∀ k, k < 7 → parseFieldDescriptor (T_Archiver k).2.2.1 = some (t_Archiver k) := by decide +kernel
def R_Bytes : String := "EpochServer$Bytes"
def T_Bytes : u_T := fun k => match k with
  | 0 => ("EpochServer$Bytes", "cells", "[B", true)
  | _ => ("EpochServer$Bytes", "length", "I", false)
def t_Bytes : Nat → FieldType := fun k => match k with
  | 0 => .array .byte
  | _ => .int
theorem nm_Bytes : ∀ a, a < 2 → ∀ b, b < 2 → a ≠ b → (T_Bytes a).2.1 ≠ (T_Bytes b).2.1 := by decide +kernel
theorem ty_Bytes : ∀ k, k < 2 → parseFieldDescriptor (T_Bytes k).2.2.1 = some (t_Bytes k) := by decide +kernel
def R_Fid : String := "EpochServer$Fid"
def T_Fid : u_T := fun k => match k with
  | 0 => ("EpochServer$Fid", "used", "Z", false)
  | 1 => ("EpochServer$Fid", "number", "I", false)
  | 2 => ("EpochServer$Fid", "tree", "I", false)
  | 3 => ("EpochServer$Fid", "path", "I", false)
  | 4 => ("EpochServer$Fid", "open", "Z", false)
  | 5 => ("EpochServer$Fid", "mode", "I", false)
  | 6 => ("EpochServer$Fid", "told", "I", false)
  | _ => ("EpochServer$Fid", "last", "I", false)
def t_Fid : Nat → FieldType := fun k => match k with
  | 0 => .boolean
  | 1 => .int
  | 2 => .int
  | 3 => .int
  | 4 => .boolean
  | 5 => .int
  | 6 => .int
  | _ => .int
theorem nm_Fid : ∀ a, a < 8 → ∀ b, b < 8 → a ≠ b → (T_Fid a).2.1 ≠ (T_Fid b).2.1 := by decide +kernel
theorem ty_Fid : ∀ k, k < 8 → parseFieldDescriptor (T_Fid k).2.2.1 = some (t_Fid k) := by decide +kernel
def R_FidTable : String := "EpochServer$FidTable"
def T_FidTable : u_T := fun k => match k with
  | _ => ("EpochServer$FidTable", "rows", "[LEpochServer$Fid;", true)
def t_FidTable : Nat → FieldType := fun k => match k with
  | _ => .array (.object "EpochServer$Fid")
theorem nm_FidTable : ∀ a, a < 1 → ∀ b, b < 1 → a ≠ b → (T_FidTable a).2.1 ≠ (T_FidTable b).2.1 := by decide +kernel
theorem ty_FidTable : ∀ k, k < 1 → parseFieldDescriptor (T_FidTable k).2.2.1 = some (t_FidTable k) := by decide +kernel
def R_Journal : String := "EpochServer$Journal"
def T_Journal : u_T := fun k => match k with
  | 0 => ("EpochServer$Journal", "rows", "[LEpochServer$Tree;", true)
  | 1 => ("EpochServer$Journal", "next", "I", false)
  | _ => ("EpochServer$Journal", "many", "I", false)
def t_Journal : Nat → FieldType := fun k => match k with
  | 0 => .array (.object "EpochServer$Tree")
  | 1 => .int
  | _ => .int
theorem nm_Journal : ∀ a, a < 3 → ∀ b, b < 3 → a ≠ b → (T_Journal a).2.1 ≠ (T_Journal b).2.1 := by decide +kernel
theorem ty_Journal : ∀ k, k < 3 → parseFieldDescriptor (T_Journal k).2.2.1 = some (t_Journal k) := by decide +kernel
def R_Node : String := "EpochServer$Node"
def T_Node : u_T := fun k => match k with
  | 0 => ("EpochServer$Node", "path", "I", true)
  | 1 => ("EpochServer$Node", "parent", "I", true)
  | 2 => ("EpochServer$Node", "name", "[B", true)
  | 3 => ("EpochServer$Node", "mode", "I", true)
  | 4 => ("EpochServer$Node", "version", "I", true)
  | 5 => ("EpochServer$Node", "mtime", "I", true)
  | _ => ("EpochServer$Node", "data", "[B", true)
def t_Node : Nat → FieldType := fun k => match k with
  | 0 => .int
  | 1 => .int
  | 2 => .array .byte
  | 3 => .int
  | 4 => .int
  | 5 => .int
  | _ => .array .byte
theorem nm_Node : ∀ a, a < 7 → ∀ b, b < 7 → a ≠ b → (T_Node a).2.1 ≠ (T_Node b).2.1 := by decide +kernel
theorem ty_Node : ∀ k, k < 7 → parseFieldDescriptor (T_Node k).2.2.1 = some (t_Node k) := by decide +kernel
def R_Request : String := "EpochServer$Request"
def T_Request : u_T := fun k => match k with
  | 0 => ("EpochServer$Request", "tape", "LEpochServer$Bytes;", true)
  | 1 => ("EpochServer$Request", "size", "I", false)
  | 2 => ("EpochServer$Request", "at", "I", false)
  | 3 => ("EpochServer$Request", "whole", "Z", false)
  | 4 => ("EpochServer$Request", "namesAt", "I", false)
  | 5 => ("EpochServer$Request", "type", "I", false)
  | 6 => ("EpochServer$Request", "tag", "I", false)
  | 7 => ("EpochServer$Request", "fid", "I", false)
  | 8 => ("EpochServer$Request", "other", "I", false)
  | 9 => ("EpochServer$Request", "many", "I", false)
  | 10 => ("EpochServer$Request", "mode", "I", false)
  | 11 => ("EpochServer$Request", "perm", "I", false)
  | 12 => ("EpochServer$Request", "mtime", "I", false)
  | 13 => ("EpochServer$Request", "offset", "J", false)
  | 14 => ("EpochServer$Request", "textAt", "I", false)
  | 15 => ("EpochServer$Request", "textLength", "I", false)
  | _ => ("EpochServer$Request", "restIsOnes", "Z", false)
def t_Request : Nat → FieldType := fun k => match k with
  | 0 => .object "EpochServer$Bytes"
  | 1 => .int
  | 2 => .int
  | 3 => .boolean
  | 4 => .int
  | 5 => .int
  | 6 => .int
  | 7 => .int
  | 8 => .int
  | 9 => .int
  | 10 => .int
  | 11 => .int
  | 12 => .int
  | 13 => .long
  | 14 => .int
  | 15 => .int
  | _ => .boolean
theorem nm_Request : ∀ a, a < 17 → ∀ b, b < 17 → a ≠ b → (T_Request a).2.1 ≠ (T_Request b).2.1 := by decide +kernel
theorem ty_Request : ∀ k, k < 17 → parseFieldDescriptor (T_Request k).2.2.1 = some (t_Request k) := by decide +kernel
def R_Sha : String := "EpochServer$Sha"
def T_Sha : u_T := fun k => match k with
  | 0 => ("EpochServer$Sha", "words", "[I", true)
  | _ => ("EpochServer$Sha", "schedule", "[I", true)
def t_Sha : Nat → FieldType := fun k => match k with
  | 0 => .array .int
  | _ => .array .int
theorem nm_Sha : ∀ a, a < 2 → ∀ b, b < 2 → a ≠ b → (T_Sha a).2.1 ≠ (T_Sha b).2.1 := by decide +kernel
theorem ty_Sha : ∀ k, k < 2 → parseFieldDescriptor (T_Sha k).2.2.1 = some (t_Sha k) := by decide +kernel
def R_Snapshots : String := "EpochServer$Snapshots"
def T_Snapshots : u_T := fun k => match k with
  | 0 => ("EpochServer$Snapshots", "scores", "[I", true)
  | 1 => ("EpochServer$Snapshots", "trees", "[LEpochServer$Tree;", true)
  | 2 => ("EpochServer$Snapshots", "scored", "[Z", true)
  | _ => ("EpochServer$Snapshots", "many", "I", false)
def t_Snapshots : Nat → FieldType := fun k => match k with
  | 0 => .array .int
  | 1 => .array (.object "EpochServer$Tree")
  | 2 => .array .boolean
  | _ => .int
theorem nm_Snapshots : ∀ a, a < 4 → ∀ b, b < 4 → a ≠ b → (T_Snapshots a).2.1 ≠ (T_Snapshots b).2.1 := by decide +kernel
theorem ty_Snapshots : ∀ k, k < 4 → parseFieldDescriptor (T_Snapshots k).2.2.1 = some (t_Snapshots k) := by decide +kernel
def R_Store : String := "EpochServer$Store"
def T_Store : u_T := fun k => match k with
  | 0 => ("EpochServer$Store", "size", "I", false)
  | 1 => ("EpochServer$Store", "bytes", "I", false)
  | _ => ("EpochServer$Store", "scores", "[I", true)
def t_Store : Nat → FieldType := fun k => match k with
  | 0 => .int
  | 1 => .int
  | _ => .array .int
theorem nm_Store : ∀ a, a < 3 → ∀ b, b < 3 → a ≠ b → (T_Store a).2.1 ≠ (T_Store b).2.1 := by decide +kernel
theorem ty_Store : ∀ k, k < 3 → parseFieldDescriptor (T_Store k).2.2.1 = some (t_Store k) := by decide +kernel
def R_Tree : String := "EpochServer$Tree"
def T_Tree : u_T := fun k => match k with
  | _ => ("EpochServer$Tree", "nodes", "[LEpochServer$Node;", true)
def t_Tree : Nat → FieldType := fun k => match k with
  | _ => .array (.object "EpochServer$Node")
theorem nm_Tree : ∀ a, a < 1 → ∀ b, b < 1 → a ≠ b → (T_Tree a).2.1 ≠ (T_Tree b).2.1 := by decide +kernel
theorem ty_Tree : ∀ k, k < 1 → parseFieldDescriptor (T_Tree k).2.2.1 = some (t_Tree k) := by decide +kernel
def tb : List (String × u_T × Nat × (Nat → FieldType)) := [(R_Model, T_Model, 66, t_Model), (R_Server, T_Server, 13, t_Server), (R_Archiver, T_Archiver, 7, t_Archiver), (R_Bytes, T_Bytes, 2, t_Bytes), (R_Fid, T_Fid, 8, t_Fid), (R_FidTable, T_FidTable, 1, t_FidTable), (R_Journal, T_Journal, 3, t_Journal), (R_Node, T_Node, 7, t_Node), (R_Request, T_Request, 17, t_Request), (R_Sha, T_Sha, 2, t_Sha), (R_Snapshots, T_Snapshots, 4, t_Snapshots), (R_Store, T_Store, 3, t_Store), (R_Tree, T_Tree, 1, t_Tree)]
def cls : List vw_C := tb.map (fun r => (r.1, r.2.1, r.2.2.1))
def aty : List FieldType := [.int, .byte, .boolean, .object "EpochServer$Fid", .object "EpochServer$Node", .object "EpochServer$Tree"]
def aob : List String := ["EpochServer$Fid", "EpochServer$Node", "EpochServer$Tree"]
/-- the words of nest mates -/
def nsl : List Cond := [(Jvm.Cond.fieldLinkNest "EpochServer$Archiver" (94 : Nat) "EpochServer$Bytes" "cells" "[B" "EpochServer"), (Jvm.Cond.methodLinkNest "EpochServer$FidTable" (17 : Nat) ({ cls := "EpochServer$Fid", name := "<init>", desc := "()V" } : Jvm.MethodName) "EpochServer"), (Jvm.Cond.methodLinkNest "EpochServer" (39 : Nat) ({ cls := "EpochServer$Tree", name := "<init>", desc := "()V" } : Jvm.MethodName) "EpochServer"), (Jvm.Cond.methodLinkNest "EpochServer$Journal" (24 : Nat) ({ cls := "EpochServer$Tree", name := "<init>", desc := "()V" } : Jvm.MethodName) "EpochServer"), (Jvm.Cond.methodLinkNest "EpochServer" (53 : Nat) ({ cls := "EpochServer$Snapshots", name := "<init>", desc := "()V" } : Jvm.MethodName) "EpochServer"), (Jvm.Cond.methodLinkNest "EpochServer" (60 : Nat) ({ cls := "EpochServer$Archiver", name := "<init>", desc := "()V" } : Jvm.MethodName) "EpochServer"), (Jvm.Cond.methodLinkNest "EpochServer$Archiver" (11 : Nat) ({ cls := "EpochServer$Store", name := "<init>", desc := "()V" } : Jvm.MethodName) "EpochServer"), (Jvm.Cond.methodLinkNest "EpochServer$Archiver" (20 : Nat) ({ cls := "EpochServer$Sha", name := "<init>", desc := "()V" } : Jvm.MethodName) "EpochServer"), (Jvm.Cond.methodLinkNest "EpochServer$Snapshots" (29 : Nat) ({ cls := "EpochServer$Tree", name := "<init>", desc := "()V" } : Jvm.MethodName) "EpochServer")]
/-- the constant byte arrays -/
def stl : List (String × String × String) := [("EpochServer", "ROOT_NAME", "[B"), ("EpochServer", "NO_BYTES", "[B"), ("EpochServer", "KNOWN_VERSION", "[B"), ("EpochServer", "UNKNOWN_VERSION", "[B")]
/-- the constant texts -/
def sgl : List (String × Nat × String) := [("EpochServerModel", 301, "9P2000"), ("EpochServerModel", 313, "unknown")]
abbrev kd_Model : Nat := 1
abbrev kd_Server : Nat := 2
abbrev kd_Archiver : Nat := 3
abbrev kd_Bytes : Nat := 4
abbrev kd_Fid : Nat := 5
abbrev kd_FidTable : Nat := 6
abbrev kd_Journal : Nat := 7
abbrev kd_Node : Nat := 8
abbrev kd_Request : Nat := 9
abbrev kd_Sha : Nat := 10
abbrev kd_Snapshots : Nat := 11
abbrev kd_Store : Nat := 12
abbrev kd_Tree : Nat := 13
abbrev ka_I : Nat := 100
abbrev ka_B : Nat := 101
abbrev ka_Z : Nat := 102
abbrev ka_Fid : Nat := 103
abbrev ka_Node : Nat := 104
abbrev ka_Tree : Nat := 105
/-! words of the tables by their places -/
theorem tw_1 {w : Cond} (h : w ∈ tables_1_1) : w ∈ lw_tbl := List.mem_append_right _ (List.mem_append_left _ (h))
theorem tw_2 {w : Cond} (h : w ∈ tables_1_2) : w ∈ lw_tbl := List.mem_append_right _ (List.mem_append_right _ (List.mem_append_left _ (h)))
theorem tw_3 {w : Cond} (h : w ∈ tables_1_3) : w ∈ lw_tbl := List.mem_append_right _ (List.mem_append_right _ (List.mem_append_right _ (List.mem_append_left _ (h))))
theorem tw_4 {w : Cond} (h : w ∈ tables_1_4) : w ∈ lw_tbl := List.mem_append_right _ (List.mem_append_right _ (List.mem_append_right _ (List.mem_append_right _ (List.mem_append_left _ (h)))))
theorem tw_5 {w : Cond} (h : w ∈ tables_1_5) : w ∈ lw_tbl := List.mem_append_right _ (List.mem_append_right _ (List.mem_append_right _ (List.mem_append_right _ (List.mem_append_right _ (List.mem_append_left _ (h))))))
theorem tw_6 {w : Cond} (h : w ∈ tables_1_6) : w ∈ lw_tbl := List.mem_append_right _ (List.mem_append_right _ (List.mem_append_right _ (List.mem_append_right _ (List.mem_append_right _ (List.mem_append_right _ (h))))))
theorem in_Model : ∀ k, k < 66 → u_lay R_Model T_Model k ∈ lw_tbl := fun k => match k with
  | 0 => fun _ => tw_5 (List.mem_of_getElem? (i := 19) rfl)
  | 1 => fun _ => tw_5 (List.mem_of_getElem? (i := 21) rfl)
  | 2 => fun _ => tw_5 (List.mem_of_getElem? (i := 23) rfl)
  | 3 => fun _ => tw_5 (List.mem_of_getElem? (i := 25) rfl)
  | 4 => fun _ => tw_5 (List.mem_of_getElem? (i := 27) rfl)
  | 5 => fun _ => tw_5 (List.mem_of_getElem? (i := 29) rfl)
  | 6 => fun _ => tw_5 (List.mem_of_getElem? (i := 31) rfl)
  | 7 => fun _ => tw_5 (List.mem_of_getElem? (i := 33) rfl)
  | 8 => fun _ => tw_5 (List.mem_of_getElem? (i := 35) rfl)
  | 9 => fun _ => tw_5 (List.mem_of_getElem? (i := 37) rfl)
  | 10 => fun _ => tw_5 (List.mem_of_getElem? (i := 39) rfl)
  | 11 => fun _ => tw_5 (List.mem_of_getElem? (i := 41) rfl)
  | 12 => fun _ => tw_5 (List.mem_of_getElem? (i := 43) rfl)
  | 13 => fun _ => tw_5 (List.mem_of_getElem? (i := 45) rfl)
  | 14 => fun _ => tw_5 (List.mem_of_getElem? (i := 47) rfl)
  | 15 => fun _ => tw_5 (List.mem_of_getElem? (i := 49) rfl)
  | 16 => fun _ => tw_5 (List.mem_of_getElem? (i := 51) rfl)
  | 17 => fun _ => tw_5 (List.mem_of_getElem? (i := 53) rfl)
  | 18 => fun _ => tw_5 (List.mem_of_getElem? (i := 55) rfl)
  | 19 => fun _ => tw_5 (List.mem_of_getElem? (i := 57) rfl)
  | 20 => fun _ => tw_5 (List.mem_of_getElem? (i := 59) rfl)
  | 21 => fun _ => tw_5 (List.mem_of_getElem? (i := 61) rfl)
  | 22 => fun _ => tw_5 (List.mem_of_getElem? (i := 63) rfl)
  | 23 => fun _ => tw_5 (List.mem_of_getElem? (i := 65) rfl)
  | 24 => fun _ => tw_5 (List.mem_of_getElem? (i := 67) rfl)
  | 25 => fun _ => tw_5 (List.mem_of_getElem? (i := 69) rfl)
  | 26 => fun _ => tw_5 (List.mem_of_getElem? (i := 71) rfl)
  | 27 => fun _ => tw_5 (List.mem_of_getElem? (i := 73) rfl)
  | 28 => fun _ => tw_5 (List.mem_of_getElem? (i := 75) rfl)
  | 29 => fun _ => tw_5 (List.mem_of_getElem? (i := 77) rfl)
  | 30 => fun _ => tw_5 (List.mem_of_getElem? (i := 79) rfl)
  | 31 => fun _ => tw_5 (List.mem_of_getElem? (i := 81) rfl)
  | 32 => fun _ => tw_5 (List.mem_of_getElem? (i := 83) rfl)
  | 33 => fun _ => tw_5 (List.mem_of_getElem? (i := 85) rfl)
  | 34 => fun _ => tw_5 (List.mem_of_getElem? (i := 87) rfl)
  | 35 => fun _ => tw_5 (List.mem_of_getElem? (i := 89) rfl)
  | 36 => fun _ => tw_5 (List.mem_of_getElem? (i := 91) rfl)
  | 37 => fun _ => tw_5 (List.mem_of_getElem? (i := 93) rfl)
  | 38 => fun _ => tw_5 (List.mem_of_getElem? (i := 95) rfl)
  | 39 => fun _ => tw_5 (List.mem_of_getElem? (i := 97) rfl)
  | 40 => fun _ => tw_5 (List.mem_of_getElem? (i := 99) rfl)
  | 41 => fun _ => tw_5 (List.mem_of_getElem? (i := 101) rfl)
  | 42 => fun _ => tw_5 (List.mem_of_getElem? (i := 103) rfl)
  | 43 => fun _ => tw_5 (List.mem_of_getElem? (i := 105) rfl)
  | 44 => fun _ => tw_5 (List.mem_of_getElem? (i := 107) rfl)
  | 45 => fun _ => tw_5 (List.mem_of_getElem? (i := 109) rfl)
  | 46 => fun _ => tw_5 (List.mem_of_getElem? (i := 111) rfl)
  | 47 => fun _ => tw_5 (List.mem_of_getElem? (i := 113) rfl)
  | 48 => fun _ => tw_5 (List.mem_of_getElem? (i := 115) rfl)
  | 49 => fun _ => tw_5 (List.mem_of_getElem? (i := 117) rfl)
  | 50 => fun _ => tw_5 (List.mem_of_getElem? (i := 119) rfl)
  | 51 => fun _ => tw_5 (List.mem_of_getElem? (i := 121) rfl)
  | 52 => fun _ => tw_5 (List.mem_of_getElem? (i := 123) rfl)
  | 53 => fun _ => tw_5 (List.mem_of_getElem? (i := 125) rfl)
  | 54 => fun _ => tw_5 (List.mem_of_getElem? (i := 127) rfl)
  | 55 => fun _ => tw_5 (List.mem_of_getElem? (i := 129) rfl)
  | 56 => fun _ => tw_5 (List.mem_of_getElem? (i := 131) rfl)
  | 57 => fun _ => tw_5 (List.mem_of_getElem? (i := 133) rfl)
  | 58 => fun _ => tw_5 (List.mem_of_getElem? (i := 135) rfl)
  | 59 => fun _ => tw_5 (List.mem_of_getElem? (i := 137) rfl)
  | 60 => fun _ => tw_5 (List.mem_of_getElem? (i := 139) rfl)
  | 61 => fun _ => tw_5 (List.mem_of_getElem? (i := 141) rfl)
  | 62 => fun _ => tw_5 (List.mem_of_getElem? (i := 143) rfl)
  | 63 => fun _ => tw_5 (List.mem_of_getElem? (i := 145) rfl)
  | 64 => fun _ => tw_5 (List.mem_of_getElem? (i := 147) rfl)
  | 65 => fun _ => tw_5 (List.mem_of_getElem? (i := 149) rfl)
  | n + 66 => fun h => absurd h (by omega)
theorem in_Server : ∀ k, k < 13 → u_lay R_Server T_Server k ∈ lw_tbl := fun k => match k with
  | 0 => fun _ => tw_2 (List.mem_of_getElem? (i := 118) rfl)
  | 1 => fun _ => tw_2 (List.mem_of_getElem? (i := 120) rfl)
  | 2 => fun _ => tw_2 (List.mem_of_getElem? (i := 122) rfl)
  | 3 => fun _ => tw_2 (List.mem_of_getElem? (i := 124) rfl)
  | 4 => fun _ => tw_2 (List.mem_of_getElem? (i := 126) rfl)
  | 5 => fun _ => tw_2 (List.mem_of_getElem? (i := 128) rfl)
  | 6 => fun _ => tw_2 (List.mem_of_getElem? (i := 130) rfl)
  | 7 => fun _ => tw_2 (List.mem_of_getElem? (i := 132) rfl)
  | 8 => fun _ => tw_2 (List.mem_of_getElem? (i := 134) rfl)
  | 9 => fun _ => tw_2 (List.mem_of_getElem? (i := 136) rfl)
  | 10 => fun _ => tw_2 (List.mem_of_getElem? (i := 138) rfl)
  | 11 => fun _ => tw_2 (List.mem_of_getElem? (i := 140) rfl)
  | 12 => fun _ => tw_2 (List.mem_of_getElem? (i := 142) rfl)
  | n + 13 => fun h => absurd h (by omega)
theorem in_Archiver : ∀ k, k < 7 → u_lay R_Archiver T_Archiver k ∈ lw_tbl := fun k => match k with
  | 0 => fun _ => tw_2 (List.mem_of_getElem? (i := 36) rfl)
  | 1 => fun _ => tw_2 (List.mem_of_getElem? (i := 38) rfl)
  | 2 => fun _ => tw_2 (List.mem_of_getElem? (i := 40) rfl)
  | 3 => fun _ => tw_2 (List.mem_of_getElem? (i := 42) rfl)
  | 4 => fun _ => tw_2 (List.mem_of_getElem? (i := 44) rfl)
  | 5 => fun _ => tw_2 (List.mem_of_getElem? (i := 46) rfl)
  | 6 => fun _ => tw_2 (List.mem_of_getElem? (i := 48) rfl)
  | n + 7 => fun h => absurd h (by omega)
theorem in_Bytes : ∀ k, k < 2 → u_lay R_Bytes T_Bytes k ∈ lw_tbl := fun k => match k with
  | 0 => fun _ => tw_1 (List.mem_of_getElem? (i := 41) rfl)
  | 1 => fun _ => tw_1 (List.mem_of_getElem? (i := 43) rfl)
  | n + 2 => fun h => absurd h (by omega)
theorem in_Fid : ∀ k, k < 8 → u_lay R_Fid T_Fid k ∈ lw_tbl := fun k => match k with
  | 0 => fun _ => tw_1 (List.mem_of_getElem? (i := 151) rfl)
  | 1 => fun _ => tw_1 (List.mem_of_getElem? (i := 153) rfl)
  | 2 => fun _ => tw_1 (List.mem_of_getElem? (i := 155) rfl)
  | 3 => fun _ => tw_1 (List.mem_of_getElem? (i := 157) rfl)
  | 4 => fun _ => tw_1 (List.mem_of_getElem? (i := 159) rfl)
  | 5 => fun _ => tw_1 (List.mem_of_getElem? (i := 161) rfl)
  | 6 => fun _ => tw_1 (List.mem_of_getElem? (i := 163) rfl)
  | 7 => fun _ => tw_1 (List.mem_of_getElem? (i := 165) rfl)
  | n + 8 => fun h => absurd h (by omega)
theorem in_FidTable : ∀ k, k < 1 → u_lay R_FidTable T_FidTable k ∈ lw_tbl := fun k => match k with
  | 0 => fun _ => tw_1 (List.mem_of_getElem? (i := 169) rfl)
  | n + 1 => fun h => absurd h (by omega)
theorem in_Journal : ∀ k, k < 3 → u_lay R_Journal T_Journal k ∈ lw_tbl := fun k => match k with
  | 0 => fun _ => tw_1 (List.mem_of_getElem? (i := 196) rfl)
  | 1 => fun _ => tw_1 (List.mem_of_getElem? (i := 198) rfl)
  | 2 => fun _ => tw_1 (List.mem_of_getElem? (i := 200) rfl)
  | n + 3 => fun h => absurd h (by omega)
theorem in_Node : ∀ k, k < 7 → u_lay R_Node T_Node k ∈ lw_tbl := fun k => match k with
  | 0 => fun _ => tw_2 (List.mem_of_getElem? (i := 86) rfl)
  | 1 => fun _ => tw_2 (List.mem_of_getElem? (i := 88) rfl)
  | 2 => fun _ => tw_2 (List.mem_of_getElem? (i := 90) rfl)
  | 3 => fun _ => tw_2 (List.mem_of_getElem? (i := 92) rfl)
  | 4 => fun _ => tw_2 (List.mem_of_getElem? (i := 94) rfl)
  | 5 => fun _ => tw_2 (List.mem_of_getElem? (i := 96) rfl)
  | 6 => fun _ => tw_2 (List.mem_of_getElem? (i := 98) rfl)
  | n + 7 => fun h => absurd h (by omega)
theorem in_Request : ∀ k, k < 17 → u_lay R_Request T_Request k ∈ lw_tbl := fun k => match k with
  | 0 => fun _ => tw_1 (List.mem_of_getElem? (i := 82) rfl)
  | 1 => fun _ => tw_1 (List.mem_of_getElem? (i := 84) rfl)
  | 2 => fun _ => tw_1 (List.mem_of_getElem? (i := 86) rfl)
  | 3 => fun _ => tw_1 (List.mem_of_getElem? (i := 88) rfl)
  | 4 => fun _ => tw_1 (List.mem_of_getElem? (i := 90) rfl)
  | 5 => fun _ => tw_1 (List.mem_of_getElem? (i := 92) rfl)
  | 6 => fun _ => tw_1 (List.mem_of_getElem? (i := 94) rfl)
  | 7 => fun _ => tw_1 (List.mem_of_getElem? (i := 96) rfl)
  | 8 => fun _ => tw_1 (List.mem_of_getElem? (i := 98) rfl)
  | 9 => fun _ => tw_1 (List.mem_of_getElem? (i := 100) rfl)
  | 10 => fun _ => tw_1 (List.mem_of_getElem? (i := 102) rfl)
  | 11 => fun _ => tw_1 (List.mem_of_getElem? (i := 104) rfl)
  | 12 => fun _ => tw_1 (List.mem_of_getElem? (i := 106) rfl)
  | 13 => fun _ => tw_1 (List.mem_of_getElem? (i := 108) rfl)
  | 14 => fun _ => tw_1 (List.mem_of_getElem? (i := 110) rfl)
  | 15 => fun _ => tw_1 (List.mem_of_getElem? (i := 112) rfl)
  | 16 => fun _ => tw_1 (List.mem_of_getElem? (i := 114) rfl)
  | n + 17 => fun h => absurd h (by omega)
theorem in_Sha : ∀ k, k < 2 → u_lay R_Sha T_Sha k ∈ lw_tbl := fun k => match k with
  | 0 => fun _ => tw_2 (List.mem_of_getElem? (i := 21) rfl)
  | 1 => fun _ => tw_2 (List.mem_of_getElem? (i := 23) rfl)
  | n + 2 => fun h => absurd h (by omega)
theorem in_Snapshots : ∀ k, k < 4 → u_lay R_Snapshots T_Snapshots k ∈ lw_tbl := fun k => match k with
  | 0 => fun _ => tw_1 (List.mem_of_getElem? (i := 215) rfl)
  | 1 => fun _ => tw_1 (List.mem_of_getElem? (i := 217) rfl)
  | 2 => fun _ => tw_1 (List.mem_of_getElem? (i := 219) rfl)
  | 3 => fun _ => tw_1 (List.mem_of_getElem? (i := 221) rfl)
  | n + 4 => fun h => absurd h (by omega)
theorem in_Store : ∀ k, k < 3 → u_lay R_Store T_Store k ∈ lw_tbl := fun k => match k with
  | 0 => fun _ => tw_2 (List.mem_of_getElem? (i := 5) rfl)
  | 1 => fun _ => tw_2 (List.mem_of_getElem? (i := 7) rfl)
  | 2 => fun _ => tw_2 (List.mem_of_getElem? (i := 9) rfl)
  | n + 3 => fun h => absurd h (by omega)
theorem in_Tree : ∀ k, k < 1 → u_lay R_Tree T_Tree k ∈ lw_tbl := fun k => match k with
  | 0 => fun _ => tw_1 (List.mem_of_getElem? (i := 181) rfl)
  | n + 1 => fun h => absurd h (by omega)
/-! facts of the table of classes -/
theorem tb_in : ∀ (c : Nat) (r : String × u_T × Nat × (Nat → FieldType)), tb[c]? = some r → (∀ w ∈ u_ws r.1 r.2.1 r.2.2.1, w ∈ lw_tbl) ∧ (∀ k, k < r.2.2.1 → parseFieldDescriptor (r.2.1 k).2.2.1 = some (r.2.2.2 k)) ∧ (∀ a, a < r.2.2.1 → ∀ b, b < r.2.2.1 → a ≠ b → (r.2.1 a).2.1 ≠ (r.2.1 b).2.1) := by
  have key : ∀ {C : String} {T : u_T} {N : Nat}, (∀ k, k < N → u_lay C T k ∈ lw_tbl) → ∀ w ∈ u_ws C T N, w ∈ lw_tbl := by
    intro C T N h w hw
    unfold u_ws at hw
    obtain ⟨k, hk, rfl⟩ := List.mem_map.mp hw
    exact h k (List.mem_range.mp hk)
  intro c r hr
  match c, hr with
  | 0, hr => cases hr; exact ⟨key in_Model, ty_Model, nm_Model⟩
  | 1, hr => cases hr; exact ⟨key in_Server, ty_Server, nm_Server⟩
  | 2, hr => cases hr; exact ⟨key in_Archiver, ty_Archiver, nm_Archiver⟩
  | 3, hr => cases hr; exact ⟨key in_Bytes, ty_Bytes, nm_Bytes⟩
  | 4, hr => cases hr; exact ⟨key in_Fid, ty_Fid, nm_Fid⟩
  | 5, hr => cases hr; exact ⟨key in_FidTable, ty_FidTable, nm_FidTable⟩
  | 6, hr => cases hr; exact ⟨key in_Journal, ty_Journal, nm_Journal⟩
  | 7, hr => cases hr; exact ⟨key in_Node, ty_Node, nm_Node⟩
  | 8, hr => cases hr; exact ⟨key in_Request, ty_Request, nm_Request⟩
  | 9, hr => cases hr; exact ⟨key in_Sha, ty_Sha, nm_Sha⟩
  | 10, hr => cases hr; exact ⟨key in_Snapshots, ty_Snapshots, nm_Snapshots⟩
  | 11, hr => cases hr; exact ⟨key in_Store, ty_Store, nm_Store⟩
  | 12, hr => cases hr; exact ⟨key in_Tree, ty_Tree, nm_Tree⟩
  | n + 13, hr => exact absurd hr (by simp [tb])
theorem tb_cls {c : Nat} {r : String × u_T × Nat × (Nat → FieldType)} (h : tb[c]? = some r) : cls[c]? = some (r.1, r.2.1, r.2.2.1) := by
  unfold cls
  rw [List.getElem?_map, h]
  rfl
