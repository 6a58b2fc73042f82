section E3
/-- how long an instruction is -/
def e_ln : Instr → Nat
  | .bipush _ | .iload _ | .lload _ | .aload _ | .istore _ | .lstore _ | .astore _ | .newarray _ | .ldc _ => 2
  | .sipush _ | .goto _ | .ifCond _ _ | .if_icmp _ _ | .if_acmp _ _ | .ifnull _ | .ifnonnull _ | .getfield _ | .putfield _ | .getstatic _ | .invokevirtual _ | .invokespecial _ | .invokestatic _ | .new _ | .anewarray _ | .iinc _ _ | .ldc_w _ | .ldc2_w _ => 3
  | .tableswitch _ _ _ _ | .lookupswitch _ _ => 0
  | _ => 1
def e_cst : Instr → Bool
  | .bipush n => decide ((Int8.ofInt n).toInt32 = e_n n)
  | .sipush n => decide ((Int16.ofInt n).toInt32 = e_n n)
  | _ => true
/-- where a branch goes -/
def e_tg (pc tgt : Nat) : Instr → Bool
  | .goto off | .ifCond _ off | .if_icmp _ off | .if_acmp _ off | .ifnull off | .ifnonnull off => decide ((pc : Int) + off = (tgt : Int))
  | _ => true
def e_wn : List String := ["MASTER", "PLACE", "SEA", "WAY", "PERSON", "WRITES", "OR", "AND", "NOT", "FOE", "FRIEND", "KIN", "GOODS", "DEBT", "LISTED", "DAY", "SALES"]
def e_nwk : Cond → Bool
  | .methodLinkNest _ _ _ _ => true
  | .declares _ => true
  | .castable _ _ => true
  | _ => false
/-- the words of the tables that speak of more than one class's own record -/
def e_NWd : List Cond := lw_tbl.filter e_nwk
def e_str : List (Nat × String) := [(86, "the tape has not so many bytes"), (162, "no such count"), (404, "no such master"), (180, "no such thing of a master"), (406, "no such place"), (204, "no such thing of a place"), (410, "no such person"), (227, "no such thing of a person"), (408, "no such way"), (412, "no such question"), (293, "names are counted from 0 on"), (298, "0 to 30 mornings"), (341, "1 to 9 days"), (306, "0 to 9 dead"), (371, "0 to 999"), (376, "a bargain is of two masters"), (388, "0 to 60 mornings")]
theorem e_NW_at {i : Nat} {w : Cond} (h : lw_tbl[i]? = some w) (g : e_nwk w = true) : w ∈ e_NWd := List.mem_filter.mpr ⟨List.mem_of_getElem? h, g⟩
end E3
