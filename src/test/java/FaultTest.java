/** FAULTS 2 to 5 of promise 4. A ? in a text shows where, and isn't in the text. */
public final class FaultTest {
    private static final Check CHECK = new Check();

    public static void main(String[] args) {
        whichComesFirst();
        scopes();
        labelScopes();
        bounds();
        declaredTwice();
        formals();
        sorts();
        targets();
        types();
        typesOfFaults();
        choices();
        numbers();
        manyNames();
        actuals();
        labelActuals();
        actualsWithoutSpec();
        CHECK.end();
    }

    private static void whichComesFirst() {
        CHECK.fault(1, "begin x; x := true + y ?) end");
        CHECK.fault(2, "begin ?x; y := true + 1 end");
        CHECK.fault(4, "begin print(?true + x) end");
        CHECK.fault(2, "begin print(?x + true) end");
        CHECK.fault(2, "begin if ?x + 1 then end");
        CHECK.fault(4, "begin if ?(x + 1) then end");
        CHECK.fault(4, "begin procedure p; print(?true + 1); integer a, a; end");
        CHECK.fault(3, "begin integer a, ?a; procedure p; print(true + 1); end");
    }

    private static void scopes() {
        CHECK.good("begin procedure p; begin x := 1; l: q end; integer x; procedure q; p; p end", 2);
        CHECK.good("begin integer x; begin boolean x; x := true end; x := 1 end", 0);
        CHECK.good("begin integer a, a0, a1, a9, ay, az, aa, aaaaaaaaaa, aaaaaaaaa, aaaaaaaaab, b, a9a; end", 0);
        CHECK.fault(4, "begin integer x; begin boolean x; x := ?1 end end");
        CHECK.fault(2, "begin begin integer x; end; ?x := 1 end");
        CHECK.good("begin procedure p(x); integer x; begin boolean x; x := true end; p(1) end", 1);
        CHECK.good("begin procedure p(p); integer p; p := 1; integer x; p(x) end", 1);
        CHECK.fault(2, "begin procedure p(x); integer x; ; ?x := 1 end");
        CHECK.good("begin integer procedure f; begin integer f; f := 1 end; print(f) end", 1);
        CHECK.fault(4, "begin procedure p; begin procedure q; ?p := 1; q end; p end");
        CHECK.good("begin integer procedure p; begin procedure q; p := 1; q end; p end", 2);
        CHECK.fault(4, "begin integer procedure p; ; ?p := 1 end");
        CHECK.fault(4, "begin integer procedure p; ; integer procedure q; ?p := 1; q end");
    }

    private static void labelScopes() {
        CHECK.good("begin goto l; l: end", 0);
        CHECK.good("begin procedure p; goto l; begin goto l end; l: p end", 1);
        CHECK.fault(2, "begin goto ?l; begin l: end end");
        CHECK.fault(2, "begin goto ?l; if true then l: end");
        CHECK.fault(2, "begin if true then l: else goto ?l end");
        CHECK.good("begin if true then l: goto l else l: goto l end", 0);
        CHECK.good("begin if true then l: if true then l: goto l end", 0);
        CHECK.fault(3, "begin if true then l: ?l: end");
        CHECK.good("begin integer i; for i := 1 do l: if i < 0 then goto l end", 0);
        CHECK.fault(2, "begin integer i; for i := 1 do l: ; goto ?l end");
        CHECK.good("begin procedure p(l); label l; l: goto l; p(m); m: end", 1);
        CHECK.fault(2, "begin procedure p; l: ; goto ?l end");
        CHECK.good("begin l: begin l: begin l: goto l end end end", 0);
        CHECK.good("begin integer l; if true then l: goto l; l := 1 end", 0);
        CHECK.fault(4, "begin integer l; if true then l: ?l := 1 end");
        CHECK.good("begin procedure p; begin l: end; l: begin procedure q; goto l; q end; p end", 2);
    }

    private static void bounds() {
        CHECK.fault(2, "begin integer n; array a[1:?n]; end");
        CHECK.fault(2, "begin array a[?f:2]; integer procedure f; ; end");
        CHECK.good("begin integer n; begin array a[1:n]; integer n; end end", 0);
        CHECK.fault(4, "begin boolean n; begin integer n; array a[1:?n]; end end");
        CHECK.good("begin array a[1:2]; begin array a[a[1]:a[2]]; end end", 0);
        CHECK.good("begin procedure p(n); integer n; begin array a[n:n]; end; p(1) end", 1);
        CHECK.fault(4, "begin array a[?true:2]; end");
        CHECK.fault(4, "begin array a[1:?1 < 2]; end");
        CHECK.fault(4, "begin array a[1:2,1:?not true]; end");
    }

    private static void declaredTwice() {
        CHECK.fault(3, "begin integer x; boolean ?x; x := 1 end");
        CHECK.fault(3, "begin integer x; procedure ?x; ; end");
        CHECK.fault(3, "begin switch s := l; array ?s[1:2]; l: end");
        CHECK.fault(3, "begin integer l; ?l: end");
        CHECK.fault(3, "begin l: begin end; ?l: end");
        CHECK.fault(3, "begin procedure p(x, ?x); integer x; ; end");
        CHECK.fault(4, "begin procedure p; x := ?true; integer x; boolean x; end");
    }

    private static void formals() {
        CHECK.fault(3, "begin procedure p(a, ?b); integer a; ; end");
        CHECK.fault(3, "begin procedure p(a, ?b); integer a, b; boolean b; ; end");
        CHECK.fault(3, "begin procedure p(?a); integer a, a; ; end");
        CHECK.fault(3, "begin procedure p(a); integer a, ?b; ; end");
        CHECK.fault(3, "begin procedure p; integer ?x; ; end");
        CHECK.fault(3, "begin procedure p(a); value ?b; integer a; ; end");
        CHECK.fault(3, "begin procedure p(a); value ?a; array a; ; end");
        CHECK.fault(3, "begin procedure p(a); value ?a; integer procedure a; ; end");
        CHECK.fault(3, "begin procedure p(a); value ?a; label a; ; end");
        CHECK.fault(3, "begin procedure p(a); value ?a; switch a; ; end");
        CHECK.good("begin procedure p(a, b); value b, a; integer a; boolean b; ; end", 1);
        CHECK.fault(3, "begin integer x; procedure p(a); integer a, ?x; ; end");
        CHECK.fault(3, "begin procedure p(?a); ; p(true) end");
        CHECK.fault(4, "begin procedure q; p(?1); procedure p(a); integer a; boolean a; ; end");
        CHECK.fault(5, "begin procedure p(a, b, c, d, e, f, g, h, ?i); integer a, b, c, d, e, f, g, h, i; ; end");
        CHECK.good("begin procedure p(a, b, c, d, e, f, g, h); integer a, b, c, d, e, f, g, h; ; end", 1);
    }

    private static void sorts() {
        String all = "begin integer x; array a[1:2]; procedure p; ; integer procedure f; ; switch s := l; l: ";
        CHECK.fault(4, all + "?x end");
        CHECK.fault(4, all + "?a end");
        CHECK.fault(4, all + "?s end");
        CHECK.fault(4, all + "?l end");
        CHECK.fault(4, all + "?x(1) end");
        CHECK.fault(4, all + "?l(1) end");
        CHECK.good(all + "p; f end", 2);
        CHECK.fault(4, all + "print(?a) end");
        CHECK.fault(4, all + "print(?p) end");
        CHECK.fault(4, all + "print(?s) end");
        CHECK.fault(4, all + "print(?l) end");
        CHECK.fault(4, all + "print(?s[1]) end");
        CHECK.fault(4, all + "print(?x[1]) end");
        CHECK.fault(4, all + "print(?f[1]) end");
        CHECK.fault(4, all + "print(?a(1)) end");
        CHECK.fault(4, all + "print(?p(1)) end");
        CHECK.good(all + "print(x + a[1] + f) end", 2);
        CHECK.fault(4, all + "goto ?x end");
        CHECK.fault(4, all + "goto ?s end");
        CHECK.fault(4, all + "goto ?a[1] end");
        CHECK.fault(4, all + "goto ?l[1] end");
        CHECK.fault(4, all + "goto ?p end");
        CHECK.fault(4, all + "goto s[?true] end");
        CHECK.fault(4, all + "goto if ?1 then l else l end");
        CHECK.good(all + "goto if true then s[x] else l end", 2);
        CHECK.fault(4, "begin switch s := ?s; end");
        CHECK.fault(2, "begin switch s := s[1], ?l; end");
    }

    private static void targets() {
        String all = "begin integer x; boolean b; array a[1:2]; boolean array c[1:2]; procedure p; ;"
            + " integer procedure f; ; switch s := l; l: ";
        CHECK.good(all + "x := a[1] := 1; b := c[1] := true end", 2);
        CHECK.fault(4, all + "?a := 1 end");
        CHECK.fault(4, all + "?p := 1 end");
        CHECK.fault(4, all + "?f := 1 end");
        CHECK.fault(4, all + "?s := 1 end");
        CHECK.fault(4, all + "?l := 1 end");
        CHECK.fault(4, all + "?x[1] := 1 end");
        CHECK.fault(4, all + "?s[1] := 1 end");
        CHECK.fault(4, all + "x := ?true end");
        CHECK.fault(4, all + "x := ?b := 1 end");
        CHECK.fault(4, all + "x := ?b := true end");
        CHECK.fault(4, all + "x := a[1] := ?c[1] := 1 end");
        CHECK.fault(4, all + "b := ?1 end");
        CHECK.fault(4, all + "b := ?(1) end");
        CHECK.fault(2, all + "x := ?y := b := 1 end");
        CHECK.fault(4, all + "for ?b := 1 do end");
        CHECK.fault(4, all + "for ?c[1] := 1 do end");
        CHECK.fault(4, all + "for ?a := 1 do end");
        CHECK.fault(4, all + "for ?l := 1 do end");
        CHECK.good(all + "for a[1] := 1 do end", 2);
        CHECK.good("begin integer procedure f; f := 1; print(f) end", 1);
        CHECK.fault(4, "begin integer procedure f; for ?f := 1 do; print(f) end");
        CHECK.good("begin procedure p(x, y); value x; integer x, y; for x := y do for y := x do; end", 1);
        CHECK.fault(4, "begin procedure p(f); integer procedure f; ?f := 1; end");
    }

    private static void types() {
        CHECK.fault(4, "begin print(1 + ?true) end");
        CHECK.fault(4, "begin print(?true + 1) end");
        CHECK.fault(4, "begin print(1 + 2 - ?true * 3) end");
        CHECK.fault(4, "begin print(1 + 2 * ?(true) - 3) end");
        CHECK.fault(4, "begin print(-?true) end");
        CHECK.fault(4, "begin print(+?true) end");
        CHECK.fault(4, "begin print(1 div ?false) end");
        CHECK.fault(4, "begin print(?true mod 1) end");
        CHECK.fault(4, "begin print(1 ^ ?true) end");
        CHECK.fault(4, "begin print(1 < ?true) end");
        CHECK.fault(4, "begin print(?true >= 1) end");
        CHECK.fault(4, "begin print(?-1 and true) end");
        CHECK.fault(4, "begin print(?1 + 2 and true) end");
        CHECK.fault(4, "begin print(true or ?1) end");
        CHECK.fault(4, "begin print(true impl ?(1 + 2)) end");
        CHECK.fault(4, "begin print(?1 equiv true) end");
        CHECK.fault(4, "begin print(not ?1) end");
        CHECK.fault(4, "begin print(not ?-1 + 2) end");
        CHECK.fault(4, "begin print(1 = ?true) end");
        CHECK.fault(4, "begin print(true <> ?-1) end");
        CHECK.good("begin print(true = false); print((1 < 2) <> true); print(1 = -1) end", 0);
        CHECK.fault(4, "begin integer x; x := ?1 < 2 end");
        CHECK.fault(4, "begin integer x; x := ?not true end");
        CHECK.fault(4, "begin if ?1 then end");
        CHECK.fault(4, "begin integer i; for i := ?true do end");
        CHECK.fault(4, "begin integer i; for i := 1 step ?true until 2 do end");
        CHECK.fault(4, "begin integer i; for i := 1 step 1 until ?true do end");
        CHECK.fault(4, "begin integer i; for i := 1 while ?1 do end");
        CHECK.fault(4, "begin array a[1:2]; a[?true] := 1 end");
        CHECK.fault(4, "begin array a[1:2]; print(a[?1 = 2]) end");
        CHECK.good("begin print(1); print(true) end", 0);
    }

    private static void typesOfFaults() {
        CHECK.fault(2, "begin if (?x) then end");
        CHECK.fault(2, "begin if (?x) = 1 then end");
        CHECK.fault(2, "begin print(1 = (?x)) end");
        CHECK.fault(2, "begin print((?x) + 1) end");
        CHECK.fault(4, "begin l: if (?l) then end");
        CHECK.fault(4, "begin procedure p; ; if (?p) then end");
        CHECK.fault(4, "begin if ?(x < 1) + 1 = 2 then end");
        CHECK.fault(4, "begin integer x; x := ?(x = y) end");
        CHECK.fault(2, "begin boolean x; x := (?y = 1) end");
    }

    private static void choices() {
        CHECK.fault(4, "begin print(if ?1 then 1 else 2) end");
        CHECK.fault(4, "begin print(if true then 1 else ?true) end");
        CHECK.fault(4, "begin boolean x; x := if true then 1 else ?true end");
        CHECK.fault(4, "begin integer x; x := ?if true then true else false end");
        CHECK.fault(4, "begin print(if true then 1 else if true then 2 else ?true) end");
        CHECK.fault(4, "begin print(if true then 1 else ?if true then true else false) end");
        CHECK.fault(2, "begin integer x; x := (if true then ?y else 1) end");
        CHECK.fault(4, "begin boolean x; x := ?(if true then y else 1) end");
        CHECK.fault(4, "begin boolean x; x := ?(if true then 1 else y) end");
        CHECK.fault(4, "begin boolean x; x := (if true then 1 else ?true) end");
    }

    private static void numbers() {
        CHECK.fault(5, "begin array a[1:2]; ?a[1,2] := 1 end");
        CHECK.fault(5, "begin array a[1:2,1:2]; print(?a[1]) end");
        CHECK.fault(5, "begin array a[1:2,1:2,1:2]; print(?a[1,1,1,1]) end");
        CHECK.fault(5, "begin procedure p(v); array v; print(?v[1,2,3,4]); end");
        CHECK.good("begin procedure p(v); array v; print(v[1] + v[1,2] + v[1,2,3]); end", 1);
        CHECK.fault(5, "begin procedure p(x); integer x; ; ?p end");
        CHECK.fault(5, "begin procedure p; ; ?p(1) end");
        CHECK.fault(5, "begin procedure p(x); integer x; ; ?p(1, 2) end");
        CHECK.fault(5, "begin integer procedure f(x); integer x; ; print(?f) end");
        CHECK.fault(5, "begin integer procedure f(x); integer x; ; print(1 + ?f(1, true)) end");
        CHECK.fault(5, "begin procedure p(f); procedure f; ?f(1); end");
        CHECK.fault(5, "begin procedure p(f); integer procedure f; print(?f(1)); end");
        CHECK.fault(4, "begin procedure p(x); integer x; ; print(?p) end");
        String twenty = "x := ".repeat(20);
        CHECK.good("begin integer x; " + twenty + "1 end", 0);
        CHECK.fault(5, "begin integer x; " + twenty + "?x := 1 end");
        CHECK.fault(5, "begin integer x; " + twenty + "?x := x := true end");
        CHECK.good("begin array x[1:1]; " + "x[1] := ".repeat(20) + "1 end", 0);
        CHECK.fault(5, "begin array x[1:1]; " + "x[1] := ".repeat(20) + "?x[1] := 1 end");
    }

    private static String names(int from, int to) {
        StringBuilder names = new StringBuilder();
        for (int i = from; i < to; i++) {
            names.append(i == from ? "" : ", ").append('n').append(i);
        }
        return names.toString();
    }

    private static void manyNames() {
        CHECK.good("begin integer " + names(0, 200) + "; l: m: end", 0);
        CHECK.fault(5, "begin integer " + names(0, 200) + ", ?n200; end");
        CHECK.good("begin integer " + names(0, 100) + "; begin integer " + names(0, 100) + "; end end", 0);
        CHECK.fault(5, "begin integer " + names(0, 100) + "; begin integer " + names(0, 100) + ", ?z; end end");
        CHECK.fault(5, "begin own integer " + names(0, 199) + "; procedure p; ; array ?a[1:2]; end");
        CHECK.fault(5, "begin own integer " + names(0, 200) + "; switch ?s := l; l: end");
        CHECK.good("begin own integer " + names(0, 199) + "; procedure p(a, b); integer a, b; begin integer "
            + names(0, 198) + "; end; end", 1);
        CHECK.fault(5, "begin own integer " + names(0, 199) + "; procedure p(a, b); integer a, b; begin integer "
            + names(0, 198) + ", ?z; end; end");
    }

    private static void actuals() {
        String all = "begin integer x; boolean b; array a[1:2]; boolean array c[1:2]; procedure p; ;"
            + " procedure p1(x); integer x; ; integer procedure f; ; boolean procedure g; ; switch s := l;"
            + " procedure qi(v); integer v; ; procedure qv(v); value v; boolean v; ; procedure qa(v); array v; ;"
            + " procedure qb(v); boolean array v; ; procedure qp(v); procedure v; ;"
            + " procedure qf(v); integer procedure v; ; procedure qs(v); switch v; ; l: ";
        CHECK.good(all + "qi(1); qi(x); qi(f); qi(a[1]); qv(b); qv(true); qa(a); qb(c); qp(p); qf(f); qs(s) end", 11);
        CHECK.fault(4, all + "qi(?true) end");
        CHECK.fault(4, all + "qi(?b) end");
        CHECK.fault(4, all + "qi(?(b)) end");
        CHECK.fault(4, all + "qi(?a) end");
        CHECK.fault(4, all + "qi(?p) end");
        CHECK.fault(4, all + "qi(?l) end");
        CHECK.fault(4, all + "qi(?s[1]) end");
        CHECK.fault(4, all + "qi(?c[1]) end");
        CHECK.fault(4, all + "qv(?1 + 2) end");
        CHECK.fault(4, all + "qa(?x) end");
        CHECK.fault(4, all + "qa(?c) end");
        CHECK.fault(4, all + "qa(?a[1]) end");
        CHECK.fault(4, all + "qa(?(a)) end");
        CHECK.fault(4, all + "qa(?1) end");
        CHECK.fault(4, all + "qa(?if true then a else a) end");
        CHECK.fault(4, all + "qb(?a) end");
        CHECK.fault(4, all + "qp(?f) end");
        CHECK.fault(4, all + "qp(?x) end");
        CHECK.fault(5, all + "qp(?p1) end");
        CHECK.fault(4, all + "qp(?p1(1)) end");
        CHECK.fault(4, all + "qf(?p) end");
        CHECK.fault(4, all + "qf(?g) end");
        CHECK.fault(4, all + "qf(?p1) end");
        CHECK.fault(4, all + "qs(?l) end");
        CHECK.fault(4, all + "qs(?s[1]) end");
        CHECK.fault(2, all + "qs(?t) end");
        CHECK.fault(2, all + "qa(?t[1]) end");
        CHECK.fault(2, all + "qp(?t + 1) end");
        CHECK.fault(4, all + "qa(?(t)) end");
    }

    private static void labelActuals() {
        String all = "begin integer x; array a[1:2]; switch s := l; procedure q(v); label v; ; l: ";
        CHECK.good(all + "q(l); q(s[x]); q((l)); q(if true then l else s[1]); q(if true then (l) else l) end", 1);
        CHECK.fault(4, all + "q(?1) end");
        CHECK.fault(4, all + "q(?x) end");
        CHECK.fault(4, all + "q(?s) end");
        CHECK.fault(4, all + "q(?a[1]) end");
        CHECK.fault(4, all + "q(?s[1, 2]) end");
        CHECK.fault(4, all + "q(s[?true]) end");
        CHECK.fault(4, all + "q((?1)) end");
        CHECK.fault(4, all + "q(?(l) + 1) end");
        CHECK.fault(4, all + "q((?x + 1)) end");
        CHECK.fault(4, all + "q(?-1) end");
        CHECK.fault(4, all + "q(?not true) end");
        CHECK.fault(4, all + "q(?l + 1) end");
        CHECK.fault(2, all + "q(?y + 1) end");
        CHECK.fault(2, all + "q((?y)) end");
        CHECK.fault(4, all + "q(?q(l)) end");
        CHECK.fault(4, all + "q(if ?1 then l else l) end");
        CHECK.fault(4, all + "q(if true then ?1 else l) end");
        CHECK.fault(4, all + "q(if true then l else ?true) end");
        CHECK.fault(4, all + "q(if true then l else (if true then l else (?s))) end");
        CHECK.fault(4, all + "q(if true then ?(l) + 1 else l) end");
    }

    private static void actualsWithoutSpec() {
        String all = "begin integer x; array a[1:2]; switch s := l; procedure p1(x); integer x; ; procedure r; q(";
        String rest = "; procedure q(?v); ; l: end";
        for (String fits : new String[] {"1", "true", "x", "a", "s", "l", "p1", "(l)", "(a)", "s[x]", "a[1]", "x[1]",
            "if true then a else s", "if true then 1 else 2", "if true then (a) else p1"}) {
            CHECK.fault(3, all + fits + ")" + rest);
        }
        String without = rest.replace("?", "");
        CHECK.fault(2, all + "?y)" + without);
        CHECK.fault(2, all + "?y[1])" + without);
        CHECK.fault(4, all + "a[?true])" + without);
        CHECK.fault(4, all + "if ?1 then a else s)" + without);
        CHECK.fault(2, all + "if true then a else (?y))" + without);
        CHECK.fault(5, all + "?a[1, 2])" + without);
        CHECK.fault(4, all + "?a + 1)" + without);
        CHECK.fault(4, all + "if true then 1 else ?true)" + without);
        CHECK.fault(4, all + "1 + ?true)" + without);
        CHECK.fault(4, all + "(x + ?true))" + without);
        CHECK.fault(4, all + "if true then ?l else 1)" + without);
        CHECK.fault(4, all + "if true then 1 else ?l)" + without);
    }
}
