/** TEXTS and RUNS as great as they can be: none may find its rows too small (count 7). */
public final class GreatTest {
    private static final int MOST_BYTES = 8192;
    private static final Check CHECK = new Check();

    public static void main(String[] args) {
        longTexts();
        manyNames();
        greatFrames();
        deepExpressions();
        manyActuals();
        CHECK.end();
    }

    /** As many of the parts as there's room for. */
    private static String filled(String before, String part, String after) {
        return before + part.repeat((MOST_BYTES - before.length() - after.length()) / part.length()) + after;
    }

    private static void due(String what, String text, int steps, String want) {
        AlgolMill mill = Check.mill();
        String answer = Check.built(mill, text);
        if (answer.endsWith(" 0 -1")) {
            answer = mill.run(steps) + ": " + mill.count(3) + " " + mill.count(4) + " " + mill.count(5) + " "
                + mill.count(6) + " " + mill.count(7);
        }
        CHECK.due(what, answer, want);
    }

    private static void longTexts() {
        due("sum", filled("begin print(1", "+1", ") end"), 9, "0: 1 1 0 0 0");
        due("powers", filled("begin print(1", "^1", ") end"), 9, "0: 1 1 0 0 0");
        due("elements", filled("begin integer i;for i:=1", ",1", "do end"), 20000, "0: 0 4083 0 0 0");
        due("elements that are calls", filled("begin integer procedure f;;integer i;for i:=f", ",f", " do end"), 20000,
            "0: 0 8143 1 0 0");
        due("statements", filled("begin procedure p;;p", ";p", " end"), 20000, "0: 0 8170 1 0 0");
        due("actuals", filled("begin procedure p(a,b,c,d,e,g,h,i);integer a,b,c,d,e,g,h,i;;p(1,1,1,1,1,1,1,1)",
            ";p(1,1,1,1,1,1,1,1)", " end"), 20000, "0: 0 854 1 0 0");
        due("aims", filled("begin switch s:=l", ",l", ";goto s[4000];l:print(1)end"), 9, "0: 1 3 1 0 0");
        due("blocks", filled("begin ", "begin end;", "end"), 20000, "0: 0 818 0 0 0");
        due("ifs", filled("begin ", "if true then;", "end"), 20000, "0: 0 629 0 0 0");
        due("labels of one name", filled("begin ", "l:", "end"), 9, "refused 3 8");
        due("blanks", filled("begin end", " ", ""), 9, "0: 0 0 0 0 0");
        due("only blanks", filled("", " ", ""), 9, "refused 1 8192");
        due("begins", filled("", "begin ", ""), 9, "refused 1 246");
        due("nots", filled("begin print(", "not ", "true)end"), 9, "refused 1 168");
        due("brackets", filled("begin print(", "(", "1)end"), 9, "refused 1 51");
        due("a name", filled("begin ", "a", ""), 9, "refused 1 6");
        due("a number", filled("begin print(", "0", "7)end"), 9, "0: 1 1 0 0 0");
    }

    private static String name(int number) {
        StringBuilder name = new StringBuilder();
        for (int rest = number; rest >= 0; rest = rest / 20 - 1) {
            name.append((char) ('f' + rest % 20));
        }
        return name.append('z').toString();
    }

    private static String names(int count) {
        StringBuilder names = new StringBuilder();
        for (int i = 0; i < count; i++) {
            names.append(i == 0 ? "" : ",").append(name(i));
        }
        return names.toString();
    }

    private static void manyNames() {
        StringBuilder labels = new StringBuilder("begin ");
        for (int i = 0; i < 1500; i++) {
            labels.append(name(i)).append(':');
        }
        due("labels", labels + "print(1) end", 9, "0: 1 1 0 0 0");
        StringBuilder owns = new StringBuilder("begin ");
        StringBuilder calls = new StringBuilder();
        for (int i = 0; i < 9; i++) {
            owns.append("procedure p").append(i).append(";begin own integer ").append(names(200)).append(";")
                .append(name(199)).append(":=").append(name(199)).append("+1;print(").append(name(199)).append(")end;");
            calls.append("p").append(i).append(";p").append(i).append(';');
        }
        due("own variables", owns.toString() + calls + "end", 200, "0: 18 90 1 0 0");
        due("formals", filled("begin procedure p(a", ",a", ");;end"), 9, "refused 3 18");
    }

    private static void greatFrames() {
        StringBuilder arrays = new StringBuilder();
        for (int i = 0; i < 199; i++) {
            arrays.append("array ").append(name(i)).append("[1:0,1:2,1:3];");
        }
        String text = "begin procedure p(n);value n;integer n;begin " + arrays + "if n>1 then p(n-1)end;p(";
        due("frames", text + "60)end", 1000, "0: 0 240 60 0 0");
        due("frames too many", text + "61)end", 1000, "6: 0 242 60 0 0");
    }

    private static void deepExpressions() {
        String part = "true equiv true impl false or true and 1<1+1*1^a[1,1,if ";
        String text = "begin integer array a[1:1,1:1,1:1];boolean procedure f(n);value n;integer n;f:=if n=0 then true else "
            + part.repeat(18) + "f(n-1)" + " then 1 else 1]".repeat(18) + ";print(f(";
        due("operands", text + "59))end", 1000, "0: 1 121 60 1 0");
        due("operands too deep", text + "60))end", 1000, "6: 0 122 60 1 0");
    }

    private static void manyActuals() {
        String head = "begin integer procedure f(a,b,c,d,e,g,h,i);value i;integer a,b,c,d,e,g,h,i;f:=i;print(";
        due("calls in calls", head + "f(1,1,1,1,1,1,1,".repeat(38) + "1" + ")".repeat(38) + ")end", 1000,
            "0: 1 77 38 0 0");
    }
}
