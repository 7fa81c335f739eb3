/** The example of README.md, line by line: each answer that it tells is the one that comes. */
public final class ExampleTest {
    private ExampleTest() {
    }

    public static void main(String[] args) {
        Checks.of(1, "README.md, the example");
        LordsRoad x = new LordsRoad();
        int near = x.station(0, 6, 1, 100, 100, false);
        int far = x.station(near, 5, 1, 50, 60, false);
        int first = x.lord(far, 1, 500, 100, 0, 0);
        int second = x.lord(far, 0, 300, 50, 0, 0);
        x.window(first, 0, 2, 1);
        x.window(second, 0, 2, 1);
        Checks.due("tell", tell(x, "march 10; room 3; fine late * 100; yield 0 - worth;"), 4);
        Checks.due("fault(0)", x.fault(0), 0);
        Checks.due("ahead", x.ahead(first, second), first);
        Checks.due("plan", x.plan(), 0);
        Checks.due("row(0)", x.row(0), 9);
        Checks.due("row(1)", x.row(1), 0);
        Checks.due("row(2)", x.row(2), 1);
        Checks.due("night", x.night(first, 0, 0), near);
        Checks.due("end 0", x.end(first, 0), 1);
        Checks.due("end 4", x.end(second, 4), 103);
        Checks.due("judge 1", x.judge(1), 106);
        Checks.due("given", x.given(far, 1), 10);
        Checks.due("known 0", x.known(second, 0, 2, 0), 2);
        Checks.due("known 1", x.known(second, near, 0, 0), LordsRoad.NONE);
        x.height(far, 1, 2, 60);
        Checks.due("end 2", x.end(second, 2), 2);
        x.window(second, 3, 4, 1);
        Checks.due("anew", x.anew(1), 1);
        Checks.due("row(2) anew", x.row(2), 3);
        Checks.end();
    }

    private static int tell(LordsRoad x, String text) {
        for (int at = 0; at < text.length(); at += 20) {
            int[] four = new int[5];
            for (int k = 0; k < 20; k++) {
                char sign = at + k < text.length() ? text.charAt(at + k) : ' ';
                four[k / 4] = four[k / 4] << 8 | sign;
            }
            x.feed(four[0], four[1], four[2], four[3], four[4]);
        }
        return x.edicts(text.length());
    }
}
