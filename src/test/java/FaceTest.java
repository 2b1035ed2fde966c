/** Promises 1 to 7, but for what PROGRAMS are and do. */
public final class FaceTest {
    private static final Check CHECK = new Check();

    public static void main(String[] args) {
        newObject();
        feeding();
        ending();
        building();
        running();
        printing();
        counting();
        CHECK.end();
    }

    private static String thrown(Runnable call) {
        try {
            call.run();
            return "nothing";
        } catch (RuntimeException e) {
            return e.getClass().getSimpleName();
        }
    }

    private static String counts(AlgolMill mill) {
        StringBuilder all = new StringBuilder();
        for (int what = -1; what <= 8; what++) {
            all.append(mill.count(what)).append(' ');
        }
        return all.toString();
    }

    private static void newObject() {
        AlgolMill mill = new AlgolMill();
        CHECK.due("counts of a new object", counts(mill), "-1 0 0 -1 0 0 0 0 0 -1 ");
        CHECK.due("run of a new object", thrown(() -> mill.run(1)), "IllegalStateException");
        CHECK.due("out of a new object", thrown(() -> mill.out(0)), "IllegalArgumentException");
        CHECK.due("end of a new object", thrown(() -> mill.end(1)), "IllegalArgumentException");
        CHECK.due("end(0) of a new object", mill.end(0), 0);
    }

    private static void feeding() {
        AlgolMill mill = new AlgolMill();
        for (int i = 1; i <= 409; i++) {
            CHECK.due("feed", mill.feed(0x20202020, 0x20202020, 0x20202020, 0x20202020, 0x20202020), 20 * i);
        }
        CHECK.due("feed beyond", thrown(() -> mill.feed(0, 0, 0, 0, 0)), "IndexOutOfBoundsException");
        CHECK.due("length after it", mill.count(0), 8180);
        CHECK.due("end", mill.end(8), 8172);
        CHECK.due("feed to the last byte", mill.feed(0x20202020, 0x20202020, 0x20202020, 0x20626567, 0x696e2065), 8192);
        CHECK.due("feed beyond", thrown(() -> mill.feed(0, 0, 0, 0, 0)), "IndexOutOfBoundsException");
        CHECK.due("build", thrown(mill::build), "IllegalStateException");
        CHECK.due("the highest byte is first", mill.count(2), 8192);
        CHECK.due("fault", mill.count(1), 1);
        AlgolMill high = new AlgolMill();
        high.feed(0x200a2080, 0, 0, 0, 0);
        CHECK.due("build", thrown(high::build), "IllegalStateException");
        CHECK.due("where", high.count(2), 3);
    }

    private static void ending() {
        AlgolMill mill = new AlgolMill();
        Check.feed(mill, "begin print(1) end and more");
        CHECK.due("end below 0", thrown(() -> mill.end(-1)), "IllegalArgumentException");
        CHECK.due("end of too much", thrown(() -> mill.end(28)), "IllegalArgumentException");
        CHECK.due("end of the greatest", thrown(() -> mill.end(Integer.MAX_VALUE)), "IllegalArgumentException");
        CHECK.due("end of the least", thrown(() -> mill.end(Integer.MIN_VALUE)), "IllegalArgumentException");
        CHECK.due("length", mill.count(0), 27);
        CHECK.due("end(9)", mill.end(9), 18);
        CHECK.due("build", mill.build(), 0);
        Check.feed(mill, "begin");
        CHECK.due("end of all", mill.end(5), 0);
        Check.feed(mill, "begin array a[1:=");
        mill.end(1);
        CHECK.due("what has gone isn't read", Check.built(mill, "") + " " + mill.count(0), "refused 1 16 0");
    }

    private static void building() {
        AlgolMill mill = new AlgolMill();
        CHECK.due("build of nothing", thrown(mill::build), "IllegalStateException");
        CHECK.due("its fault", mill.count(1) + " " + mill.count(2), "1 0");
        CHECK.due("procedures", Check.built(mill,
            "begin procedure a; begin procedure b; ; b end; integer procedure c; ; print(7) end"), "3 0 -1");
        CHECK.due("the TEXT is empty", mill.count(0), 0);
        CHECK.due("run", mill.run(9), 0);
        CHECK.due("a fault", Check.built(mill, "begin x end"), "refused 2 6");
        CHECK.due("the TEXT is empty then too", mill.count(0), 0);
        CHECK.due("what was printed stays", mill.out(0), 7);
        CHECK.due("the PROGRAM stays", mill.run(9) + " " + mill.out(0), "0 7");
        CHECK.due("the fault stays too", mill.count(1) + " " + mill.count(2), "2 6");
        CHECK.due("the next", Check.built(mill, "begin print(8) end"), "0 0 -1");
        CHECK.due("what was printed stays", mill.out(0), 7);
        CHECK.due("the next runs", mill.run(9) + " " + mill.out(0), "0 8");
    }

    private static void running() {
        AlgolMill mill = new AlgolMill();
        CHECK.due("bad before refused", thrown(() -> mill.run(0)), "IllegalArgumentException");
        CHECK.due("bad before refused", thrown(() -> mill.run(20001)), "IllegalArgumentException");
        Check.built(mill, "begin own integer i; print(i); i := i + 1; l: print(i); goto l end");
        CHECK.due("run", mill.run(20000) + " " + mill.count(4) + " " + mill.count(3), "-1 20000 10000");
        CHECK.due("bad", thrown(() -> mill.run(0)), "IllegalArgumentException");
        CHECK.due("bad", thrown(() -> mill.run(-5)), "IllegalArgumentException");
        CHECK.due("bad", thrown(() -> mill.run(20001)), "IllegalArgumentException");
        CHECK.due("a bad run changes nothing", mill.count(3) + " " + mill.count(4) + " " + mill.out(499), "10000 20000 1");
        CHECK.due("own ones begin anew", mill.run(1) + " " + mill.count(3) + " " + mill.out(0), "-1 1 0");
        Check.built(mill, "begin print(1); print(2) end");
        CHECK.due("just enough", mill.run(2) + " " + mill.count(4), "0 2");
        CHECK.due("not enough", mill.run(1) + " " + mill.count(4) + " " + mill.count(3), "-1 1 1");
    }

    private static void printing() {
        AlgolMill mill = new AlgolMill();
        Check.built(mill, "begin integer i; print(true); print(false); print(-34359738367 - 1);"
            + " for i := 3 step 1 until 600 do print(i) end");
        CHECK.due("run", mill.run(20000), 0);
        CHECK.due("all are counted", mill.count(3), 601);
        CHECK.due("numbers", mill.out(0) + " " + mill.out(1) + " " + mill.out(2) + " " + mill.out(499),
            "1 0 -34359738368 499");
        CHECK.due("500 are kept", thrown(() -> mill.out(500)), "IllegalArgumentException");
        CHECK.due("below 0", thrown(() -> mill.out(-1)), "IllegalArgumentException");
        CHECK.due("the greatest", thrown(() -> mill.out(Integer.MAX_VALUE)), "IllegalArgumentException");
        Check.built(mill, "begin print(5) end");
        mill.run(1);
        CHECK.due("just one", mill.out(0) + " " + thrown(() -> mill.out(1)), "5 IllegalArgumentException");
    }

    private static void counting() {
        AlgolMill mill = new AlgolMill();
        Check.built(mill, "begin integer procedure f(n); value n; integer n; begin array a[1:n]; print(n);"
            + " if n > 1 then f := f(n - 1) end; f(3); f(1) end");
        mill.run(100);
        Check.feed(mill, "begin");
        CHECK.due("counts", counts(mill), "-1 5 0 -1 4 20 3 6 0 -1 ");
        CHECK.due("counts of nothing", mill.count(Integer.MAX_VALUE) + " " + mill.count(Integer.MIN_VALUE), "-1 -1");
    }
}
