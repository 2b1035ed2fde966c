/** FAULT 1: the first TOKEN with which it can't go on. A ? in a text shows where, and isn't in the text. */
public final class SyntaxTest {
    private static final Check CHECK = new Check();

    public static void main(String[] args) {
        tokens();
        blocks();
        declarations();
        procedures();
        statements();
        assignments();
        loops();
        expressions();
        actuals();
        aims();
        depth();
        depthOfParts();
        CHECK.end();
    }

    private static String times(int n, String part) {
        return part.repeat(n);
    }

    private static void tokens() {
        CHECK.good("begin end", 0);
        CHECK.good(" \n begin\nend \n ", 0);
        CHECK.good("begin integer abcdefghij,a123456789,ifx,if1;end", 0);
        CHECK.fault(1, "begin integer ?abcdefghijk; end");
        CHECK.fault(1, "begin print(?abcdefghijklmnopqrstuvwxyz) end");
        CHECK.good("begin print(34359738367) end", 0);
        CHECK.good("begin print(00000000000000000000000000000000000000001) end", 0);
        CHECK.fault(1, "begin print(?34359738368) end");
        CHECK.fault(1, "begin print(?99999999999999999999999999999999999999) end");
        CHECK.fault(1, "begin print(12?ab) end");
        CHECK.fault(1, "begin begin1 end ?end");
        CHECK.fault(1, "?Begin end");
        CHECK.fault(1, "begin integer a?B; end");
        CHECK.fault(1, "begin?\tend");
        CHECK.fault(1, "begin?\r\nend");
        CHECK.fault(1, "begin end?\0");
        CHECK.fault(1, "begin end?\u00ff");
        CHECK.fault(1, "begin l: ?= 1 end");
        CHECK.fault(1, "begin print(1 > ?> 2) end");
        CHECK.good("begin integer x;x:=1;print(x<=1);print(x>=1);print(x<>1)end", 0);
        CHECK.fault(1, "begin print(1 < ?= 2) end");
        CHECK.fault(1, "begin integer x; if1 ?2 end");
        CHECK.fault(1, "begin ?{ end");
    }

    private static void blocks() {
        CHECK.fault(1, "?");
        CHECK.fault(1, "   ?");
        CHECK.fault(1, "?end");
        CHECK.fault(1, "?l: begin end");
        CHECK.fault(1, "begin?");
        CHECK.fault(1, "begin  \n?");
        CHECK.fault(1, "begin end ?;");
        CHECK.fault(1, "begin end ?begin end");
        CHECK.good("begin ;;; end", 0);
        CHECK.fault(1, "begin integer x ?end");
        CHECK.fault(1, "begin ; ?integer x; end");
        CHECK.fault(1, "begin print(1); ?array a[1:2]; end");
        CHECK.fault(1, "begin l: ?integer x; end");
        CHECK.fault(1, "begin begin end ?begin end end");
        CHECK.fault(1, "begin ?) end");
        CHECK.fault(1, "begin ?else end");
    }

    private static void declarations() {
        CHECK.fault(1, "begin own ?x; end");
        CHECK.fault(1, "begin own ?array a[1:2]; end");
        CHECK.fault(1, "begin own integer ?array a[1:2]; end");
        CHECK.fault(1, "begin own integer ?procedure p; ; end");
        CHECK.fault(1, "begin own ?own integer x; end");
        CHECK.fault(1, "begin integer ?; end");
        CHECK.fault(1, "begin integer x,?; end");
        CHECK.fault(1, "begin integer x ?y; end");
        CHECK.fault(1, "begin integer ?print; end");
        CHECK.fault(1, "begin integer ?switch s := l; end");
        CHECK.fault(1, "begin integer ?boolean x; end");
        CHECK.fault(1, "begin integer ?1; end");
        CHECK.fault(1, "begin array a?; end");
        CHECK.fault(1, "begin array a[?]; end");
        CHECK.fault(1, "begin array a[1?]; end");
        CHECK.fault(1, "begin array a[1:?]; end");
        CHECK.fault(1, "begin array a[1:2?; end");
        CHECK.fault(1, "begin array a[1:2?:3]; end");
        CHECK.good("begin array a[1:2,1:2,1:2]; end", 0);
        CHECK.fault(1, "begin array a[1:2,1:2,1:2?,1:2]; end");
        CHECK.fault(1, "begin array a[1:2,1:2,1:2?:3]; end");
        CHECK.fault(1, "begin array a[1:2]?, b[1:2]; end");
        CHECK.fault(1, "begin switch s ?= l; l: end");
        CHECK.fault(1, "begin switch ?:= l; l: end");
        CHECK.fault(1, "begin switch s := ?; l: end");
        CHECK.fault(1, "begin switch s := l,?; l: end");
        CHECK.fault(1, "begin switch s := l ?+ 1; l: end");
        CHECK.fault(1, "begin switch s := ?1; l: end");
        CHECK.fault(1, "begin switch s?, t := l; l: end");
    }

    private static void procedures() {
        CHECK.good("begin procedure p; ; end", 1);
        CHECK.good("begin procedure p(a, b, c, d, e, f); value a; integer a; boolean array b; array c; label d;"
            + " switch e; boolean procedure f; ; end", 1);
        CHECK.good("begin procedure p(a, b); integer a; procedure b; ; boolean x; end", 1);
        CHECK.fault(1, "begin procedure ?; ; end");
        CHECK.fault(1, "begin procedure p(?); ; end");
        CHECK.fault(1, "begin procedure p(a?; integer a; ; end");
        CHECK.fault(1, "begin procedure p(a,?); integer a; ; end");
        CHECK.fault(1, "begin procedure p(?1); ; end");
        CHECK.fault(1, "begin procedure p(a) ?integer a; ; end");
        CHECK.fault(1, "begin procedure p ?end");
        CHECK.fault(1, "begin procedure p; ?end");
        CHECK.fault(1, "begin procedure p(a); value ?; integer a; ; end");
        CHECK.fault(1, "begin procedure p(a); value a ?integer a; ; end");
        CHECK.fault(1, "begin procedure p(a, b); value a; ?value b; integer a, b; ; end");
        CHECK.fault(1, "begin procedure p(a); integer a; ?value a; ; end");
        CHECK.fault(1, "begin procedure p(a); integer ?label a; ; end");
        CHECK.fault(1, "begin procedure p(a); integer ?switch a; ; end");
        CHECK.fault(1, "begin procedure p(a); label ?switch a; ; end");
        CHECK.fault(1, "begin procedure p(a); switch ?label a; ; end");
        CHECK.fault(1, "begin procedure p(a); array ?procedure a; ; end");
        CHECK.fault(1, "begin procedure p(a); ?own integer a; ; end");
        CHECK.fault(1, "begin procedure p(a); array a?[1:2]; ; end");
        CHECK.fault(1, "begin procedure p(a); switch a ?:= l; ; end");
        CHECK.fault(1, "begin procedure p(a); procedure a?(b); ; end");
        CHECK.fault(1, "begin procedure p(a); integer a; ?end");
    }

    private static void statements() {
        CHECK.good("begin a: b: c: end", 0);
        CHECK.good("begin a: b: begin c: end end", 0);
        CHECK.fault(1, "begin ?1: end");
        CHECK.fault(1, "begin x ?y end");
        CHECK.fault(1, "begin x ?+ 1 end");
        CHECK.fault(1, "begin x?, y end");
        CHECK.fault(1, "begin ?(x) end");
        CHECK.fault(1, "begin print ?1 end");
        CHECK.fault(1, "begin print(?) end");
        CHECK.fault(1, "begin print(1?, 2) end");
        CHECK.fault(1, "begin print(1 ?end");
        CHECK.fault(1, "begin print ?:= 1 end");
        CHECK.good("begin if true then end", 0);
        CHECK.good("begin if true then else end", 0);
        CHECK.good("begin if true then if true then else else end", 0);
        CHECK.fault(1, "begin if true then else ?else end");
        CHECK.fault(1, "begin if true then; ?else end");
        CHECK.fault(1, "begin if ?then end");
        CHECK.fault(1, "begin if true ?do end");
        CHECK.fault(1, "begin if true ?else end");
        CHECK.good("begin integer i; if true then for i := 1 do if true then else else end", 0);
        CHECK.fault(1, "begin if true then ?integer x; end");
        CHECK.fault(1, "begin x(1) ?:= 2 end");
        CHECK.fault(1, "begin integer x; x :=?");
        CHECK.fault(1, "begin print(1 <?");
    }

    private static void assignments() {
        CHECK.good("begin integer x; array a[1:2]; x := a[1] := x := 1 end", 0);
        CHECK.fault(1, "begin integer x; x := ?end");
        CHECK.fault(1, "begin integer x; x := x := ?end");
        CHECK.fault(1, "begin integer x; x := (x) ?:= 1 end");
        CHECK.fault(1, "begin integer x; x := x + x ?:= 1 end");
        CHECK.fault(1, "begin integer x; x := - x ?:= 1 end");
        CHECK.fault(1, "begin integer x; x := if true then x ?:= 1 else 2 end");
        CHECK.fault(1, "begin integer x; x := x(1) ?:= 2 end");
        CHECK.fault(1, "begin integer x; x := 1 ?:= x end");
        CHECK.fault(1, "begin array a[1:2]; a[1] ?end");
        CHECK.fault(1, "begin array a[1:2]; a[1] ?= 1 end");
        CHECK.fault(1, "begin array a[1:2]; a[?] := 1 end");
        CHECK.fault(1, "begin array a[1:2]; a[1,?] := 1 end");
        CHECK.fault(1, "begin array a[1:2]; a[1 ?:= 1 end");
        CHECK.fault(1, "begin array a[1:2]; a[1]?[1] := 1 end");
    }

    private static void loops() {
        CHECK.good("begin integer i; for i := 1, 2 step 3 until 4, 5 while false, if true then 1 else 2 do end", 0);
        CHECK.fault(1, "begin integer i; for ?1 := 1 do end");
        CHECK.fault(1, "begin integer i; for i?(1) := 1 do end");
        CHECK.fault(1, "begin integer i; for i ?= 1 do end");
        CHECK.fault(1, "begin integer i; for i := ?do end");
        CHECK.fault(1, "begin integer i; for i := 1 ?until 2 do end");
        CHECK.fault(1, "begin integer i; for i := 1 step 1 ?do end");
        CHECK.fault(1, "begin integer i; for i := 1 step 1 until ?do end");
        CHECK.fault(1, "begin integer i; for i := 1 step 1 until 2 ?while true do end");
        CHECK.fault(1, "begin integer i; for i := 1 while true ?step 1 until 2 do end");
        CHECK.fault(1, "begin integer i; for i := 1,?do end");
        CHECK.fault(1, "begin integer i; for i := 1?; end");
        CHECK.fault(1, "begin integer i; for i := i ?:= 1 do end");
    }

    private static void expressions() {
        CHECK.good("begin print(-1 + 2 - 3 * 4 div 5 mod 6 ^ 7) end", 0);
        CHECK.good("begin print(not not -1 < -2 and not 3 = +4 or true impl not false equiv not not true) end", 0);
        CHECK.good("begin print(if true then 1 else if true then 2 else 3) end", 0);
        CHECK.good("begin print(if if true then true else false then 1 else 2) end", 0);
        CHECK.good("begin print(if true then (if true then 1 else 2) else 3) end", 0);
        CHECK.fault(1, "begin print(if true then ?if true then 1 else 2 else 3) end");
        CHECK.fault(1, "begin print(if true then 1?) end");
        CHECK.fault(1, "begin print(1 + ?if true then 1 else 2) end");
        CHECK.fault(1, "begin print(if true then 1 else 2 ?then 3) end");
        CHECK.fault(1, "begin print(- ?- 1) end");
        CHECK.fault(1, "begin print(1 + ?- 1) end");
        CHECK.fault(1, "begin print(1 * ?- 1) end");
        CHECK.fault(1, "begin print(2 ^ ?- 1) end");
        CHECK.fault(1, "begin print(1 ?2) end");
        CHECK.fault(1, "begin print(1 + ?) end");
        CHECK.fault(1, "begin print(1 ?not) end");
        CHECK.fault(1, "begin print(true ?not true) end");
        CHECK.fault(1, "begin print(1 < ?not true) end");
        CHECK.fault(1, "begin print(1 + ?not true) end");
        CHECK.fault(1, "begin print(- ?not true) end");
        CHECK.fault(1, "begin print(not ?) end");
        CHECK.fault(1, "begin print(not ?and true) end");
        CHECK.fault(1, "begin print(1 < 2 ?< 3) end");
        CHECK.fault(1, "begin print(1 = 2 ?<> 3) end");
        CHECK.fault(1, "begin print(not 1 = 2 ?= 3) end");
        CHECK.good("begin print(1 = 2 and 3 = 4 equiv 5 = 6) end", 0);
        CHECK.fault(1, "begin print((?)) end");
        CHECK.fault(1, "begin print((1?]) end");
        CHECK.fault(1, "begin print(1 ?:= 2) end");
        CHECK.fault(1, "begin print(?begin end) end");
        CHECK.fault(1, "begin print(true?(1)) end");
        CHECK.fault(1, "begin print(1?[1]) end");
    }

    private static void actuals() {
        CHECK.fault(1, "begin procedure p; ; p(?) end");
        CHECK.fault(1, "begin procedure p(x); integer x; ; p(1,?) end");
        CHECK.fault(1, "begin procedure p(x); integer x; ; p(1 ?end");
        CHECK.fault(1, "begin procedure p(x); integer x; ; p(1)?(2) end");
        CHECK.fault(1, "begin procedure p(x); integer x; ; p(?print) end");
        CHECK.fault(1, "begin procedure p(x); integer x; ; p(1 ?: 2) end");
        CHECK.fault(1, "begin procedure p(l); label l; ; m: p(if true then ?if true then m else m else m) end");
        CHECK.good("begin procedure p(l); label l; ; m: p(if true then (if true then m else m) else m) end", 1);
        CHECK.good("begin procedure p(l); label l; ; m: p(if true then m else if true then m else m) end", 1);
    }

    private static void aims() {
        CHECK.good("begin l: goto if true then if true then l else (l) else ((l)) end", 0);
        CHECK.fault(1, "begin l: goto ?1 end");
        CHECK.fault(1, "begin l: goto ?end");
        CHECK.fault(1, "begin l: goto l ?+ 1 end");
        CHECK.fault(1, "begin l: goto l?(1) end");
        CHECK.fault(1, "begin switch s := l; l: goto s[1?, 2] end");
        CHECK.fault(1, "begin switch s := l; l: goto s[?] end");
        CHECK.fault(1, "begin switch s := l; l: goto s[1]?[2] end");
        CHECK.fault(1, "begin l: goto (l ?end");
        CHECK.fault(1, "begin l: goto if true then l?; end");
        CHECK.fault(1, "begin l: goto if true ?else l end");
        CHECK.fault(1, "begin l: goto ?not l end");
        CHECK.fault(1, "begin l: goto ?-l end");
    }

    private static void depth() {
        CHECK.good(times(41, "begin ") + times(41, "end "), 0);
        CHECK.fault(1, times(41, "begin ") + "?;" + times(41, "end "));
        CHECK.fault(1, times(41, "begin ") + "?begin " + times(42, "end "));
        CHECK.good("begin print(" + times(38, "(") + "1" + times(38, ")") + ") end", 0);
        CHECK.fault(1, "begin print(" + times(39, "(") + "?1" + times(39, ")") + ") end");
        CHECK.good("begin print(" + times(38, "not ") + "true) end", 0);
        CHECK.fault(1, "begin print(" + times(39, "not ") + "?true) end");
        CHECK.good("begin " + times(39, "if true then ") + " end", 0);
        CHECK.fault(1, "begin " + times(39, "if true then ") + "if ?true then end");
        CHECK.good("begin integer i; " + times(39, "for i := 1 do ") + " end", 0);
        CHECK.fault(1, "begin integer i; " + times(39, "for i := 1 do ") + "for ?i := 1 do end");
        CHECK.good("begin array a[1:1]; a" + times(38, "[a") + "[1" + times(38, "]") + "] := 1 end", 0);
        CHECK.fault(1, "begin array a[1:1]; a" + times(39, "[a") + "[?1" + times(39, "]") + "] := 1 end");
        CHECK.good("begin print(" + times(38, "if true then 1 else ") + "1) end", 0);
        CHECK.fault(1, "begin print(" + times(38, "if true then 1 else ") + "if ?true then 1 else 1) end");
        CHECK.good("begin l: goto " + times(39, "(") + "l" + times(39, ")") + " end", 0);
        String choice = "if true then l else ";
        CHECK.good("begin l: goto " + times(39, choice) + "l end", 0);
        CHECK.fault(1, "begin l: goto " + times(39, choice) + "if ?true then l else l end");
        CHECK.good("begin l: goto if true then " + times(38, "(") + "l" + times(38, ")") + " else l end", 0);
        CHECK.fault(1, "begin l: goto if true then " + times(39, "(") + "?l" + times(39, ")") + " else l end");
        CHECK.good("begin l: goto if true then l else " + times(38, "(") + "l" + times(38, ")") + " end", 0);
        CHECK.fault(1, "begin l: goto if true then l else " + times(39, "(") + "?l" + times(39, ")") + " end");
        CHECK.good("begin print(if true then " + times(37, "(") + "1" + times(37, ")") + " else 1) end", 0);
        CHECK.fault(1, "begin print(if true then " + times(38, "(") + "?1" + times(38, ")") + " else 1) end");
        CHECK.good("begin print(if true then 1 else " + times(37, "(") + "1" + times(37, ")") + ") end", 0);
        CHECK.fault(1, "begin print(if true then 1 else " + times(38, "(") + "?1" + times(38, ")") + ") end");
        CHECK.fault(1, "begin l: goto " + times(40, "(") + "?l" + times(40, ")") + " end");
    }

    private static void depthOfParts() {
        String blocks = times(38, "begin ");
        String ends = times(38, " end");
        CHECK.good(blocks + "if true then print(1) else print(2); print(3)" + ends, 0);
        CHECK.fault(1, blocks + "if true then print((?1)) else print(2)" + ends);
        CHECK.fault(1, blocks + "if true then else print((?1))" + ends);
        CHECK.good(blocks + "if true then; print((1))" + ends, 0);
        CHECK.fault(1, blocks + "print(not (?true) and true)" + ends);
        CHECK.good(blocks + "print(not true and (true))" + ends, 0);
        CHECK.fault(1, blocks + "print(not 1 = (?1))" + ends);
        CHECK.good(blocks + "procedure p; print(1); print((1))" + ends, 1);
        CHECK.fault(1, blocks + "procedure p; print((?1));" + ends);
        CHECK.good(blocks + "procedure p(f); procedure f; print(1);" + ends, 1);
        CHECK.good(blocks + "begin procedure p; ; end" + ends, 1);
        CHECK.fault(1, blocks + "begin procedure p(?f); label f; ; end" + ends);
        CHECK.fault(1, blocks + "begin begin procedure ?p; ; end end" + ends);
        CHECK.good(blocks + "array a[1:1]; a[1] := 1" + ends, 0);
        CHECK.good(blocks + "integer i; for i := 1 do print(1); print((1))" + ends, 0);
        CHECK.fault(1, blocks + "integer i; for i := ((?1)) do" + ends);
    }
}
