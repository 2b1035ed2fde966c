/** What PROGRAMS do: promise 5, with what they print (6) and what it costs (7). */
public final class RunTest {
    private static final Check CHECK = new Check();

    public static void main(String[] args) {
        numbers();
        order();
        truths();
        choices();
        blocks();
        ownVariables();
        arrays();
        elements();
        calls();
        results();
        byName();
        places();
        passedOn();
        procedures();
        gotos();
        gotosOut();
        switches();
        loops();
        whiles();
        steps();
        stepsOfUses();
        depth();
        classics();
        CHECK.end();
    }

    private static void numbers() {
        CHECK.runs("begin print(34359738367 + 1); print(-34359738367 - 2); print(34359738367 * 2) end",
            "0: -34359738368 34359738367 -2");
        CHECK.runs("begin print(7 div 2); print((-7) div 2); print(7 div (-2)); print((-7) div (-2)); print(0 div 5) end",
            "0: 3 -3 -3 3 0");
        CHECK.runs("begin print(7 mod 3); print((-7) mod 3); print(7 mod (-3)); print((-7) mod (-3)); print(0 mod 5) end",
            "0: 1 -1 1 -1 0");
        CHECK.runs("begin integer m; m := -34359738367 - 1; print(m div (-1)); print(m mod (-1)); print(-m);"
            + " print(-m div 3); print(m * m) end", "0: -34359738368 0 -34359738368 11453246122 0");
        CHECK.runs("begin print(1); print(1 div 0); print(2) end", "2: 1");
        CHECK.runs("begin print(1 mod 0) end", "2:");
        CHECK.runs("begin print(2 ^ 35); print(2 ^ 34); print((-2) ^ 35); print(3 ^ 34359738367); print(0 ^ 0);"
            + " print((-1) ^ 34359738367); print(7 ^ 1) end",
            "0: -34359738368 17179869184 -34359738368 -22906492245 1 -1 7");
        CHECK.runs("begin print(1 ^ (-1)) end", "2:");
        CHECK.runs("begin print(2 ^ 3 ^ 2); print(-2 ^ 2); print(2 * 3 ^ 2); print(100 div 5 * 2); print(10 - 3 - 2);"
            + " print(-3 + 5); print(+3); print(17 mod 10 div 2) end", "0: 64 -4 18 40 5 2 3 3");
    }

    private static void order() {
        CHECK.runs("begin integer x; integer procedure f; begin x := x + 1; f := x end; print(x + f); print(f + x);"
            + " print(f * 10 + f); print(x) end", "0: 1 4 34 4");
        CHECK.runs("begin integer x; boolean procedure t; begin x := x + 1; t := true end;"
            + " print(true or t); print(false and t); print(false impl t); print(x) end", "0: 1 0 1 3");
        CHECK.runs("begin integer x; array a[1:3]; integer procedure f; begin x := x + 1; f := x end;"
            + " a[f] := a[f] := f; print(a[1]); print(a[2]); print(a[3]) end", "0: 3 3 0");
        CHECK.runs("begin integer i; array a[1:3]; i := 1; i := a[i] := 3; print(i); print(a[1]); print(a[3]) end",
            "0: 3 3 0");
        CHECK.runs("begin integer x; array a[1:3]; integer procedure f; begin print(9); f := 1 end; a[4] := f end", "1:");
    }

    private static void truths() {
        CHECK.runs("begin boolean a, b; integer i; for i := 1, 2, 3, 4 do begin a := i > 2; b := i = 2 or i = 4;"
            + " print(a and b); print(a or b); print(a impl b); print(a equiv b); print(not a) end end",
            "0: 0 0 1 1 1 0 1 1 0 1 0 1 0 0 0 1 1 1 1 0");
        CHECK.runs("begin print(1 < 2); print(2 < 2); print(2 <= 2); print(3 <= 2); print(2 = 2); print(2 = 3);"
            + " print(2 >= 3); print(3 >= 3); print(3 > 3); print(4 > 3); print(1 <> 1); print(1 <> 2) end",
            "0: 1 0 1 0 1 0 0 1 0 1 0 1");
        CHECK.runs("begin print(true = true); print(true <> true); print(false impl false impl false);"
            + " print(not true and false); print(not (true and false)); print(false and true or true);"
            + " print(true or true and false); print(false equiv false impl false); print(not not false) end",
            "0: 1 0 0 0 1 1 1 0 0");
    }

    private static void choices() {
        CHECK.runs("begin print(if true then 1 else 1 div 0); print(if false then 1 div 0 else 2);"
            + " print(1 + (if false then 1 else if true then 2 else 3)) end", "0: 1 2 3");
        CHECK.runs("begin if true then print(1); if false then print(2); if false then print(3) else print(4);"
            + " if true then if false then print(5) else print(6); if false then if true then print(7) else print(8);"
            + " if true then begin if false then print(9) end else print(10) end", "0: 1 4 6");
    }

    private static void blocks() {
        CHECK.runs("begin integer x, i; x := 5; for i := 1, 2 do begin integer x; boolean b; print(x); print(b);"
            + " x := 7; b := true; begin integer y; print(x + y); y := 9 end; begin integer z; print(z) end end;"
            + " print(x) end", "0: 0 0 7 0 0 0 7 0 5");
        CHECK.runs("begin integer i; l: begin integer x; m: x := x + 1; i := i + 1; print(x); if i < 3 then goto m;"
            + " if i < 5 then goto l end end", "0: 1 2 3 1 1");
        CHECK.runs("begin procedure p(n); value n; integer n; begin integer x; x := x + n; if n > 0 then p(n - 1);"
            + " print(x) end; p(3) end", "0: 0 1 2 3");
    }

    private static void ownVariables() {
        CHECK.runs("begin integer i; for i := 1, 2, 3 do begin own integer x; own boolean b; integer y; x := x + 1;"
            + " y := y + 1; print(x); print(y); print(b); b := not b end end", "0: 1 1 0 2 1 1 3 1 0");
        CHECK.runs("begin procedure p(n); value n; integer n; begin own integer x; x := x + 1; if n > 0 then p(n - 1);"
            + " print(x) end; p(2); p(0) end", "0: 3 3 3 4");
        CHECK.runs("begin own integer x; begin own integer x; x := 1; begin own integer x; x := 2 end; print(x) end;"
            + " print(x) end", "0: 1 0");
    }

    private static void arrays() {
        CHECK.runs("begin array a, b[-1:1, 2:3]; integer i, j; for i := -1 step 1 until 1 do for j := 2, 3 do begin"
            + " print(a[i, j]); a[i, j] := 10 * i + j; b[i, j] := a[i, j] + 100 end; print(a[-1, 2]); print(a[-1, 3]);"
            + " print(a[0, 2]); print(b[1, 3]); print(b[1, 2]) end", "0: 0 0 0 0 0 0 -8 -7 2 113 112");
        for (String index : new String[] {"0, 1", "3, 1", "1, 0", "1, 3", "34359738367, 1", "1, -34359738367"}) {
            CHECK.runs("begin array a[1:2, 1:2]; print(1); print(a[" + index + "]) end", "1: 1");
            CHECK.runs("begin array a[1:2, 1:2]; print(1); a[" + index + "] := 2 end", "1: 1");
        }
        CHECK.runs("begin array a[2:1]; print(1); print(a[1]) end", "1: 1");
        CHECK.runs("begin array a[1:2, 5:4]; print(1); print(a[1, 5]) end", "1: 1");
        CHECK.runs("begin array a[1:2, 1:2, 1:2]; a[1, 1, 2] := 1; a[1, 2, 1] := 2; a[2, 1, 1] := 3; print(a[1, 1, 1]);"
            + " print(a[1, 1, 2]); print(a[1, 2, 1]); print(a[2, 1, 1]); print(a[2, 2, 2]) end", "0: 0 1 2 3 0");
        CHECK.runs("begin integer procedure f(n); value n; integer n; begin print(n); f := n end;"
            + " begin array a, b[f(1):f(2), f(3):f(4)]; array c[f(5):f(6)]; end end",
            "0: 1 2 3 4 5 6");
        CHECK.runs("begin boolean array b[1:2]; print(b[1]); b[1] := true; print(b[1]); print(b[2]) end", "0: 0 1 0");
        CHECK.runs("begin procedure p(v); array v; begin print(v[1]); v[1] := 7 end; array a[1:1]; a[1] := 5; p(a);"
            + " print(a[1]) end", "0: 5 7");
        CHECK.runs("begin procedure p(v); array v; print(v[1, 1]); array a[1:1]; p(a) end", "1:");
        CHECK.runs("begin procedure p(v); array v; print(v[1]); array a[1:1, 1:1]; p(a) end", "1:");
        CHECK.runs("begin integer procedure f; begin print(3); f := 1 end; procedure p(v); array v; v[9, f] := 1;"
            + " array a[1:1]; p(a) end", "1: 3");
        CHECK.runs("begin integer i; for i := 1, 2 do begin array a[1:2]; print(a[1]); a[1] := 5 end end", "0: 0 0");
        CHECK.runs("begin array c[1:3]; integer i; for i := 1, 2 do begin array a[1:2]; print(a[2]); a[2] := 5 end end",
            "0: 0 0");
        CHECK.runs("begin own integer x; array a, b[1:2]; a[1] := 3; b[1] := 4; x := 5; print(a[1]); print(b[1]) end",
            "0: 3 4");
    }

    private static void elements() {
        CHECK.costs("begin array a[1:2000]; print(1) end", 100, "0: 1 1 0 2000");
        CHECK.costs("begin print(1); begin array a[1:2001]; print(2) end end", 100, "3: 1 2 0 0");
        CHECK.costs("begin array a[-34359738367:34359738367, -34359738367:34359738367, 1:34359738367]; end", 100,
            "3: 0 0 0 0");
        CHECK.costs("begin array a[-34359738367:34359738367, -34359738367:34359738367, 1:0]; end", 100, "0: 0 0 0 0");
        CHECK.costs("begin array a[1:0, -34359738367:34359738367, 1:2]; end", 100, "0: 0 0 0 0");
        CHECK.costs("begin array a[1:1000]; begin array b[1:1000]; end; begin array b, c[1:500]; end end", 100,
            "0: 0 2 0 2000");
        CHECK.costs("begin array a[1:1000]; begin array b[1:500]; begin array c[1:501]; end end end", 100, "3: 0 2 0 1500");
        CHECK.costs("begin integer i; for i := 1 step 1 until 9 do begin array a[1:1999]; end end", 100,
            "0: 0 20 0 1999");
        CHECK.costs("begin procedure p(n); value n; integer n; begin array a[1:n]; if n > 1 then p(n - 1) end; p(100) end",
            1000, "3: 0 91 23 1969");
        CHECK.costs("begin integer i; l: begin array a[1:1500]; i := i + 1; if i < 5 then goto l end;"
            + " begin array a[1:1600]; end end", 100, "0: 0 20 0 1600");
        CHECK.costs("begin integer i; begin array a[1:100]; end; l: i := i + 1; begin array b[1:1500];"
            + " if i < 3 then goto l end end", 100, "0: 0 12 0 1500");
        CHECK.costs("begin array a[1:10]; integer i; a[1] := 3; l: begin array b[1:5]; i := i + 1; b[1] := 7;"
            + " if i < 3 then goto l end; if a[1] = 3 then print(1) end", 100, "0: 1 17 0 15");
        CHECK.costs("begin integer procedure f; begin array a[1:900]; f := 3 end; array b[1:1000]; begin array c[1:f];"
            + " array d[1:1000 - f]; print(1) end end", 100, "0: 1 8 1 2000");
    }

    private static void calls() {
        CHECK.runs("begin integer x; procedure p(a, b); value a; integer a, b; begin a := a + 1; b := b + a; print(a) end;"
            + " x := 5; p(x, x); print(x) end", "0: 6 11");
        CHECK.runs("begin integer procedure f(n); value n; integer n; begin print(n); f := n end; procedure p(a, b, c);"
            + " value c, a; integer a, b, c; print(100 + b); p(f(1), f(2), f(3)) end", "0: 1 3 2 102");
        CHECK.runs("begin boolean procedure even(n); value n; integer n; even := if n = 0 then true else odd(n - 1);"
            + " boolean procedure odd(n); value n; integer n; odd := if n = 0 then false else even(n - 1);"
            + " print(even(10)); print(odd(10)) end", "0: 1 0");
        CHECK.runs("begin integer x; procedure p; begin integer x; procedure q; x := x + 1; q; q; print(x) end; p;"
            + " print(x) end", "0: 2 0");
        CHECK.runs("begin procedure a(n); value n; integer n; begin procedure b; print(n); if n > 0 then a(n - 1); b end;"
            + " a(3) end", "0: 0 1 2 3");
    }

    private static void results() {
        CHECK.runs("begin integer procedure f; ; boolean procedure g; ; print(f); print(g) end", "0: 0 0");
        CHECK.runs("begin integer procedure f; begin f := 1; f := 2; print(3) end; f; print(f) end", "0: 3 3 2");
        CHECK.runs("begin integer procedure f(n); value n; integer n; begin f := n; if n > 0 then f(n - 1) end;"
            + " print(f(3)) end", "0: 3");
        CHECK.runs("begin integer procedure f(n); value n; integer n; begin procedure g; f := n * 10; if n > 0 then"
            + " print(f(n - 1)); g end; print(f(2)) end", "0: 0 10 20");
        CHECK.runs("begin integer x; integer procedure f; begin x := f := 5 end; print(f); print(x) end", "0: 5 5");
    }

    private static void byName() {
        CHECK.runs("begin integer i, s; procedure p(e); integer e; begin i := 3; print(e); i := 4; print(e) end;"
            + " i := 1; p(i * 10 + 1) end", "0: 31 41");
        CHECK.runs("begin integer i; array a[1:3]; procedure p(e); integer e; begin i := 2; e := 5; i := 3; e := e + 1"
            + " end; i := 1; p(a[i]); print(a[1]); print(a[2]); print(a[3]) end", "0: 0 5 1");
        CHECK.runs("begin integer x; procedure p(e); integer e; begin integer x; x := 9; e := 5; print(e); print(x) end;"
            + " x := 1; p(x); print(x) end", "0: 5 9 5");
        CHECK.runs("begin integer procedure f; begin print(7); f := 8 end; procedure p(e); integer e; begin print(1);"
            + " print(e + e) end; p(f) end", "0: 1 7 7 16");
        CHECK.runs("begin integer i; procedure swap(a, b); integer a, b; begin integer t; t := a; a := b; b := t end;"
            + " array a[1:3]; i := 2; a[2] := 3; swap(i, a[i]); print(i); print(a[2]); print(a[3]) end", "0: 3 3 2");
        CHECK.runs("begin procedure p(e, n); value n; integer n, e; begin integer x; x := n; print(e);"
            + " if n > 0 then p(e + x, n - 1) end; p(0, 3) end", "0: 0 3 5 6");
    }

    private static void places() {
        CHECK.runs("begin procedure p(e); integer e; e := 1; integer x; p(x); print(x); p(x + 0) end", "4: 1");
        for (String actual : new String[] {"1", "(x)", "-x", "f", "g(1)", "if true then x else x"}) {
            CHECK.runs("begin procedure p(e); integer e; begin print(e); e := 1 end; integer x; integer procedure f; f := 5;"
                + " integer procedure g(n); integer n; g := n; p(" + actual + ") end",
                "4: " + (actual.equals("f") ? 5 : actual.equals("1") || actual.equals("g(1)") ? 1 : 0));
        }
        CHECK.runs("begin procedure p(e); integer e; e := 1 div 0; p(1) end", "4:");
        CHECK.runs("begin procedure p(e); integer e; for e := 1 do print(2); p(1) end", "4:");
        CHECK.runs("begin procedure p(e); integer e; for e := 1 do print(e); integer x; p(x); print(x) end", "0: 1 1");
        CHECK.runs("begin procedure p(e); value e; integer e; begin e := e + 1; print(e) end; p(1) end", "0: 2");
        CHECK.runs("begin procedure p(e); integer e; e := 1; procedure q(v); value v; integer v; begin p(v); print(v)"
            + " end; q(5) end", "0: 1");
        CHECK.runs("begin own integer x; procedure p(e); integer e; e := 1; p(x); print(x) end", "0: 1");
        CHECK.runs("begin array a[1:2]; procedure p(e); integer e; e := 1; p(a[3]) end", "1:");
        CHECK.runs("begin integer procedure f; begin p(f); f := 1 end; procedure p(e); integer e; e := 5; print(f) end",
            "4:");
    }

    private static void passedOn() {
        CHECK.runs("begin procedure p(e); integer e; q(e); procedure q(d); integer d; begin d := d + 1; print(d) end;"
            + " integer x; p(x); p(x); print(x); p(3) end", "4: 1 2 2");
        CHECK.runs("begin procedure p(e); integer e; q(e); procedure q(d); integer d; print(d); p(3) end", "0: 3");
        CHECK.runs("begin procedure p(v); array v; q(v); procedure q(w); array w; w[2] := 5; array a[1:2]; p(a);"
            + " print(a[2]) end", "0: 5");
        CHECK.runs("begin procedure p(f); integer procedure f; q(f); procedure q(g); integer procedure g; print(g + g);"
            + " integer x; integer procedure h; begin x := x + 1; h := x end; p(h) end", "0: 3");
        CHECK.runs("begin procedure p(s, i); switch s; integer i; q(s, i); procedure q(t, j); switch t; integer j; goto t[j];"
            + " switch u := a, b; p(u, 2); a: print(1); b: print(2) end", "0: 2");
        CHECK.runs("begin procedure p(l); label l; q(l); procedure q(m); label m; goto m; p(a); print(1); a: print(2) end",
            "0: 2");
        CHECK.runs("begin procedure p(v); array v; q(v[1]); procedure q(e); integer e; e := 8; array a[1:1]; p(a);"
            + " print(a[1]) end", "0: 8");
        CHECK.runs("begin procedure p(e, n); integer e, n; if n = 0 then e := 7 else p(e, n - 1); integer x; p(x, 3);"
            + " print(x) end", "0: 7");
    }

    private static void procedures() {
        CHECK.runs("begin procedure p(f); procedure f; begin f; f end; integer x; procedure q; begin x := x + 1; print(x)"
            + " end; p(q) end", "0: 1 2");
        CHECK.runs("begin procedure p(f, n); value n; procedure f; integer n; begin procedure g; print(n);"
            + " f; if n > 0 then p(g, n - 1) end; procedure h; print(100); p(h, 2) end", "0: 100 2 1");
        CHECK.runs("begin procedure p(f); integer procedure f; begin f; print(f) end; integer procedure g; begin print(1);"
            + " g := 2 end; p(g) end", "0: 1 1 2");
    }

    private static void gotos() {
        CHECK.runs("begin integer i; l: i := i + 1; print(i); if i < 3 then goto l; goto m; print(9); m: end", "0: 1 2 3");
        CHECK.runs("begin integer i; goto a; b: print(2); goto c; a: print(1); goto b; c: d: print(3) end", "0: 1 2 3");
        CHECK.runs("begin integer i; for i := 1 step 1 until 5 do begin if i = 3 then goto out; print(i) end; out: print(i)"
            + " end", "0: 1 2 3");
        CHECK.runs("begin integer i, n; for i := 1, 2 do l: begin n := n + 1; print(10 * i + n); if n = 1 then goto l end"
            + " end", "0: 11 12 23");
        CHECK.runs("begin integer n; if true then l: begin n := n + 1; print(n); if n < 3 then goto l end end", "0: 1 2 3");
        CHECK.runs("begin integer n; procedure p; l: begin n := n + 1; print(n); if n < 3 then goto l end; p end",
            "0: 1 2 3");
        CHECK.runs("begin boolean b; l: print(1); b := not b; goto if b then l else if true then (m) else l; print(2); m:"
            + " end", "0: 1 1");
    }

    private static void gotosOut() {
        CHECK.runs("begin procedure p(n); value n; integer n; begin if n = 0 then goto out; p(n - 1); print(1) end; p(5);"
            + " print(2); out: print(3) end", "0: 3");
        CHECK.runs("begin integer i; integer procedure f; begin goto out; f := 1 end; i := 5; i := i + f; print(1);"
            + " out: print(i) end", "0: 5");
        CHECK.runs("begin procedure p(l, n); value n; label l; integer n; begin print(n); if n = 0 then goto l;"
            + " p(m, n - 1); print(100); m: print(n) end; p(z, 2); print(50); z: print(60) end",
            "0: 2 1 0 1 100 2 50 60");
        CHECK.runs("begin integer i; procedure p(e); value e; integer e; print(e); integer procedure f; goto l;"
            + " p(1 + f); print(8); l: i := i + 1; print(i); if i < 3 then p(f) end", "0: 1 2 3");
        CHECK.runs("begin integer procedure g; begin integer i; procedure h; goto l; print(i + 2 * (3 + k(h)));"
            + " l: i := i + 1; g := i end; integer procedure k(q); procedure q; q; print(5 + g); print(1 + (2 + g) * 4) end",
            "0: 6 13");
        CHECK.runs("begin integer i; integer procedure f; goto l; begin array a[1:10]; begin array b[1:f]; end end;"
            + " l: print(1); begin array a[1:2000]; print(2) end end", "0: 1 2");
        CHECK.runs("begin procedure p(e); integer e; begin l: print(e) end; integer i; integer procedure f; begin i := i + 1;"
            + " if i < 3 then goto l; f := 7 end; l: p(f) end", "0: 7");
    }

    private static void switches() {
        CHECK.runs("begin integer i; switch s := a, b, c; n: i := i + 1; goto s[i]; a: print(1); goto n; b: print(2); goto n;"
            + " c: print(3); goto n end", "1: 1 2 3");
        for (String index : new String[] {"0", "-1", "4", "34359738367"}) {
            CHECK.runs("begin switch s := a, a, a; print(5); goto s[" + index + "]; a: end", "1: 5");
        }
        CHECK.runs("begin integer i; switch s := if i = 1 then a else t[2]; switch t := s[i], (b); i := 2; goto t[2];"
            + " a: print(1); b: print(2) end", "0: 2");
        CHECK.runs("begin integer i; switch s := if i = 1 then a else t[2]; switch t := s[1], (b); i := 1; goto t[1];"
            + " a: print(1); b: print(2) end", "0: 1 2");
        CHECK.runs("begin integer i; procedure p(s); switch s; begin integer i; i := 2; goto s[1] end;"
            + " switch t := u[i]; switch u := a, b; i := 1; p(t); a: print(1); b: print(2) end", "0: 1 2");
    }

    private static void loops() {
        CHECK.runs("begin integer i; for i := 1 step 1 until 3 do print(i); print(i) end", "0: 1 2 3 4");
        CHECK.runs("begin integer i; for i := 3 step -1 until 1, 7, 9 while i < 9, 5 do print(i); print(i) end",
            "0: 3 2 1 7 5 5");
        CHECK.runs("begin integer i; for i := 5 step 1 until 4 do print(i); print(i) end", "0: 5");
        CHECK.runs("begin integer i, n; n := 3; for i := 1 step n until n * 3 do begin print(i); n := n - 1;"
            + " if n = 0 then goto out end; out: end", "0: 1 3");
        CHECK.runs("begin integer i; array a[1:4]; i := 1; for a[i] := 5 step 2 until 9 do begin print(i); i := i + 1 end;"
            + " end", "1: 1 2 3 4");
        CHECK.runs("begin integer i, j; for i := 1, 2 do for j := i step i until 4 do print(10 * i + j) end",
            "0: 11 12 13 14 22 24");
        CHECK.runs("begin integer procedure f(n); value n; integer n; begin integer i; for i := 1 step 1 until n do begin"
            + " print(10 * n + i); f(n - 1) end end; f(2) end", "0: 21 11 22 11");
        CHECK.runs("begin own integer i; for i := 1, 2 do print(i) end", "0: 1 2");
        CHECK.runs("begin integer i; for i := 34359738366 step 1 until 34359738367 do begin print(i); if i < 0 then goto l"
            + " end; l: end", "0: 34359738366 34359738367 -34359738368");
    }

    private static void whiles() {
        CHECK.runs("begin integer i; for i := i + 1 while i < 4 do print(i); print(i) end", "0: 1 2 3 4");
        CHECK.runs("begin integer i; for i := 1 while false, 2 do print(i) end", "0: 2");
        CHECK.costs("begin integer i; for i := i + 1 while i < 4 do print(i); print(i) end", 100, "0: 4 9 0 0");
    }

    private static void steps() {
        CHECK.costs("begin end", 1, "0: 0 0 0 0");
        CHECK.costs("begin ; l: ; m: n: end", 1, "0: 0 0 0 0");
        CHECK.costs("begin begin end end", 1, "0: 0 1 0 0");
        CHECK.costs("begin if true then end", 1, "0: 0 1 0 0");
        CHECK.costs("begin if true then else print(1) end", 1, "0: 0 1 0 0");
        CHECK.costs("begin if true then print(1) end", 1, "-1: 0 1 0 0");
        CHECK.costs("begin if true then print(1) end", 2, "0: 1 2 0 0");
        CHECK.costs("begin integer i; for i := 1, 2, 3 do end", 100, "0: 0 4 0 0");
        CHECK.costs("begin integer i; for i := 1 step 1 until 3 do end", 100, "0: 0 5 0 0");
        CHECK.costs("begin integer i; for i := 1 step 1 until 0 do end", 100, "0: 0 2 0 0");
        CHECK.costs("begin procedure p; ; p end", 100, "0: 0 2 1 0");
        CHECK.costs("begin procedure p; begin end; p end", 100, "0: 0 3 1 0");
        CHECK.costs("begin procedure p; l: begin print(1); goto m end; p; print(2); m: end", 100, "0: 1 5 1 0");
        CHECK.costs("begin integer procedure f; ; print(f + f) end", 100, "0: 1 3 1 0");
        CHECK.costs("begin l: goto l end", 7, "-1: 0 7 0 0");
        CHECK.costs("begin integer i; i := i := 1 div 0 end", 7, "2: 0 1 0 0");
    }

    private static void stepsOfUses() {
        CHECK.costs("begin procedure p(e); value e; integer e; print(e + e); p(1) end", 100, "0: 1 3 1 0");
        CHECK.costs("begin procedure p(e); integer e; print(e + e); p(1) end", 100, "0: 1 5 2 0");
        CHECK.costs("begin procedure p(e); integer e; e := e; integer x; p(x) end", 100, "0: 0 5 2 0");
        CHECK.costs("begin procedure p(e); integer e; q(e); procedure q(d); integer d; print(d); p(1) end", 100,
            "0: 1 7 4 0");
        CHECK.costs("begin procedure p(v); array v; print(v[1]); array a[1:1]; p(a) end", 100, "0: 1 3 1 1");
        CHECK.costs("begin procedure p(f); procedure f; f; procedure q; ; p(q) end", 100, "0: 0 4 2 0");
        CHECK.costs("begin switch s := l; goto s[1]; l: end", 100, "0: 0 2 1 0");
        CHECK.costs("begin switch s := t[1]; switch t := l; goto s[1]; l: end", 100, "0: 0 3 2 0");
        CHECK.costs("begin procedure p(s); switch s; goto s[1]; switch t := l; p(t); l: end", 100, "0: 0 4 2 0");
        CHECK.costs("begin procedure p(m); label m; goto m; switch t := l; p(t[1]); l: end", 100, "0: 0 5 3 0");
        CHECK.costs("begin procedure p(m); label m; goto m; p(l); l: end", 100, "0: 0 4 2 0");
        CHECK.costs("begin integer procedure f; ; switch s := l; goto s[f + 1]; l: end", 100, "0: 0 3 1 0");
        CHECK.costs("begin integer procedure f; ; switch s := l; goto s[f]; l: end", 100, "1: 0 3 1 0");
        CHECK.costs("begin integer procedure f; ; procedure p(e); value e; integer e; ; p(f) end", 100, "0: 0 3 2 0");
        CHECK.costs("begin procedure p(k); integer k; for k := 1 step 1 until 2 do; integer x; p(x) end", 100,
            "0: 0 14 2 0");
        CHECK.costs("begin procedure p(e); integer e; e := 1; p(1) end", 100, "4: 0 4 2 0");
    }

    private static void depth() {
        String loop = "begin procedure p(n); value n; integer n; if n > 1 then p(n - 1) else print(7); ";
        CHECK.costs(loop + "p(60) end", 1000, "0: 1 181 60 0");
        CHECK.costs(loop + "p(61) end", 1000, "6: 0 182 60 0");
        CHECK.costs(loop + "p(61) end", 181, "-1: 0 181 60 0");
        String uses = "begin procedure p(e, n); value n; integer e, n; if n = 0 then print(e) else p(e + 1, n - 1); ";
        CHECK.runs(uses + "p(0, 29) end", "0: 29");
        CHECK.runs(uses + "p(0, 30) end", "6:");
        CHECK.runs("begin integer procedure f(n); value n; integer n; f := n; print("
            + "f(".repeat(37) + "1" + ")".repeat(37) + ") end", "0: 1");
        CHECK.costs("begin integer procedure f(n); value n; integer n; f := n; print(f(f(f(1)))) end", 100, "0: 1 7 3 0");
        CHECK.costs("begin integer i; procedure p(n); value n; integer n; if n = 0 then goto l else p(n - 1);"
            + " l: i := i + 1; if i < 5 then p(59); print(i) end", 20000, "0: 1 735 60 0");
    }

    private static void classics() {
        CHECK.runs("begin integer procedure gcd(a, b); value a, b; integer a, b; gcd := if b = 0 then a else"
            + " gcd(b, a mod b); print(gcd(1071, 462)) end", "0: 21");
        CHECK.runs("begin integer procedure sum(k, n, e); value n; integer k, n, e; begin integer s; for k := 1 step 1"
            + " until n do s := s + e; sum := s end; integer i, j; print(sum(i, 3, sum(j, 3, i * j))) end", "0: 36");
        CHECK.runs("begin integer i, j; boolean array c[2:60]; for i := 2 step 1 until 60 do if not c[i] then begin"
            + " print(i); for j := i * i step i until 60 do c[j] := true end end",
            "0: 2 3 5 7 11 13 17 19 23 29 31 37 41 43 47 53 59");
        CHECK.runs("begin procedure hanoi(n, a, b, c); value n, a, b, c; integer n, a, b, c; if n > 0 then begin"
            + " hanoi(n - 1, a, c, b); print(10 * a + b); hanoi(n - 1, c, b, a) end; hanoi(3, 1, 2, 3) end",
            "0: 12 13 23 12 31 32 12");
        CHECK.runs("begin integer procedure a(k, x1, x2, x3, x4, x5); value k; integer k, x1, x2, x3, x4, x5; begin"
            + " integer procedure b; begin k := k - 1; b := a := a(k, b, x1, x2, x3, x4) end; if k <= 0 then"
            + " a := x4 + x5 else b end; print(a(0, 1, -1, -1, 1, 0)); print(a(4, 1, -1, -1, 1, 0)) end", "0: 1 1");
    }
}
