/** Promises 24 to 27: the tape, the law's text and its faults, what its expressions give. */
public final class LawTest {
    private static final Checks c = new Checks();

    public static void main(String[] args) {
        tape();
        texts();
        faults();
        depths();
        usedUp();
        values();
        namesInLaws();
        wrongQuestions();
        c.end();
    }

    private static void tape() {
        StrikeBallots x = new StrikeBallots();
        for (int i = 1; i <= 9; i++) {
            c.due("feed " + i, x.feed(-1, 0, 1), 12 * i);
        }
        c.due("feed 10", x.feed(0, 0, 0), Checks.FULL);
        c.due("count(8)", x.count(8), 108);
        c.due("trim(109)", x.trim(109), Checks.BAD);
        c.due("trim(-1)", x.trim(-1), Checks.BAD);
        c.due("trim(108)", x.trim(108), 108);
        c.due("trim(97)", x.trim(97), 97);
        c.due("feed on 97", x.feed(0, 0, 0), Checks.FULL);
        c.due("trim(96)", x.trim(96), 96);
        c.due("feed on 96", x.feed(0, 0, 0), 108);
        c.due("trim(0)", x.trim(0), 0);
        c.due("trim(1) of none", x.trim(1), Checks.BAD);
    }

    private static void dueLaw(String text, int want) {
        c.due("law of \"" + text + "\"", Checks.lawOf(new StrikeBallots(), text), want);
    }

    private static void texts() {
        dueLaw("stands e notice a life d", 3);
        dueLaw("  stands   e   notice   a   life   d  ", 3);
        dueLaw("stands(e)notice(a)life(d)", 3);
        dueLaw("stands!e notice!a life!d", 3);
        dueLaw("stands 0 notice 00 life 9999", 3);
        dueLaw("stands 0000&(1|2)&!3<4 notice a+l-c*e/p life e p".replace(" e p", " e=p"), 12);
        dueLaw("stands e<p&m=x|b>r notice y<n life v+d", 10);
        dueLaw("stands e<(p<m) notice 1 life 1", 5);
        dueLaw("stands e+p<m-x notice 1 life 1", 6);
        dueLaw("stands(1)*(2)notice 1 life(1)", 4);
        String longest = "stands 1";
        while (longest.length() < 108 - " notice 1 life 1".length()) {
            longest += longest.length() % 2 == 0 ? "+" : "1";
        }
        longest = longest.substring(0, 91) + "1 notice 1 life 1";
        c.due("its length", longest.length(), 108);
        dueLaw(longest, 45);
    }

    private static void dueFault(String text, int place) {
        dueLaw(text, -100 - place);
    }

    private static void faults() {
        dueFault("", 0);
        dueFault("   ", 3);
        dueFault(" stand", 1);
        dueFault("standse", 0);
        dueFault("Stands e", 0);
        dueFault("notice e", 0);
        dueFault("stands", 6);
        dueFault("stands ", 7);
        dueFault("stands notice", 7);
        dueFault("stands e", 8);
        dueFault("stands e  ", 10);
        dueFault("stands e life", 9);
        dueFault("stands e notice a", 17);
        dueFault("stands e notice a life", 22);
        dueFault("stands e notice a life e e", 25);
        dueFault("stands e notice a life e)", 24);
        dueFault("stands e notice a life e stands", 25);
        dueFault("stands a notice a life e", 7);
        dueFault("stands l notice a life e", 7);
        dueFault("stands c notice a life e", 7);
        dueFault("stands e notice a life c", 23);
        dueFault("stands z notice a life e", 7);
        dueFault("stands ee notice a life e", 7);
        dueFault("stands E notice a life e", 7);
        dueFault("stands 12345 notice a life e", 7);
        dueFault("stands 00000 notice a life e", 7);
        dueFault("stands5 notice a life e", 6);
        dueFault("stands 5notice a life e", 8);
        dueFault("stands 5 notice5 life e", 15);
        dueFault("stands 5 notice 5life e", 17);
        dueFault("stands 5e notice a life e", 8);
        dueFault("stands e5 notice a life e", 8);
        dueFault("stands 5 5 notice a life e", 9);
        dueFault("stands e<p<m notice a life e", 10);
        dueFault("stands (e<p=m) notice a life e", 11);
        dueFault("stands (e notice a life e", 10);
        dueFault("stands e) notice a life e", 8);
        dueFault("stands () notice a life e", 8);
        dueFault("stands -e notice a life e", 7);
        dueFault("stands e+*p notice a life e", 9);
        dueFault("stands e! notice a life e", 8);
        dueFault("stands ! notice a life e", 9);
        dueFault("stands e(p) notice a life e", 8);
        dueFault("stands e%p notice a life e", 8);
        dueFault("stands e\tnotice a life e", 8);
        dueFault("stands e\0notice a life e", 8);
        dueFault("stands \u00e5 notice a life e", 7);
        dueFault("stands e&&p notice a life e", 9);
        dueFault("stands e<=p notice a life e", 9);
    }

    private static void depths() {
        dueLaw("stands ((((((((e)))))))) notice 1 life 1", 3);
        dueFault("stands (((((((((e))))))))) notice 1 life 1", 15);
        dueLaw("stands !!!!!!!!e notice 1 life 1", 3);
        dueFault("stands !!!!!!!!!e notice 1 life 1", 15);
        dueLaw("stands ((((((((e))))))))+((((((((e)))))))) notice 1 life 1", 4);
        dueLaw("stands !!!!!!!!e+!!!!!!!!e notice 1 life 1", 4);
        dueLaw("stands !(!(!(!(!(!(!(!(e)))))))) notice 1 life 1", 3);
        dueFault("stands !(!(!(!(!(!(!(!(!e)))))))) notice 1 life 1", 23);
        dueFault("stands !(!(!(!(!(!(!(!((e)))))))) notice 1 life 1", 23);
        dueLaw("stands !(!!!!!!!e)&!!!!!!!!e notice 1 life 1", 4);
        dueLaw("stands !!!!!!!!e notice !!!!!!!!((((((((1)))))))) life ((((((((1))))))))", 3);
    }

    private static StrikeBallots withBallot() {
        StrikeBallots x = new StrikeBallots();
        x.branch(1);
        for (int i = 0; i < 9; i++) {
            x.member(i, 0, 1, 1);
        }
        x.open(1);
        for (int i = 0; i < 7; i++) {
            x.send(0, i);
        }
        return x;
    }

    private static void usedUp() {
        StrikeBallots x = withBallot();
        c.due("a law", Checks.lawOf(x, "stands 41 notice 1 life 42"), 3);
        c.due("count(8) behind it", x.count(8), 0);
        c.due("a law with a fault", Checks.lawOf(x, "stands 51 notice 1 life"), -123);
        c.due("count(8) behind the fault", x.count(8), 0);
        c.due("the law stays: stands", x.says(0, 0, 0), 41);
        c.due("the law stays: life", x.says(0, 1, 0), 42);
        c.due("no text at all", x.law(), -100);
        c.due("the law stays again", x.says(0, 1, 0), 42);
        c.due("another law", Checks.lawOf(x, "stands 7 notice 1 life 8"), 3);
        c.due("it is the law", x.says(0, 0, 0), 7);
    }

    private static void dueValue(String expression, int want) {
        StrikeBallots x = withBallot();
        Checks.lawOf(x, "stands " + expression + " notice 1 life 5");
        c.due(expression, x.says(0, 0, 0), want);
        Checks.lawOf(x, "stands 5 notice 1 life " + expression);
        c.due(expression + " as life", x.says(0, 1, 0), want);
    }

    private static void values() {
        dueValue("7", 7);
        dueValue("0007", 7);
        dueValue("2+3*4", 14);
        dueValue("(2+3)*4", 20);
        dueValue("9-3-2", 4);
        dueValue("7/2*2", 6);
        dueValue("(0-7)/2", -3);
        dueValue("7/(0-2)", -3);
        dueValue("5/0", 0);
        dueValue("0/0+3", 3);
        dueValue("9999*9999*9999", (int) (9999L * 9999 * 9999));
        dueValue("9999*9999*99", (int) (9999L * 9999 * 99));
        dueValue("(0-8*8*8*8*8*8*8*8*8*8*2)/(0-1)", Integer.MIN_VALUE);
        dueValue("3<4", 1);
        dueValue("4<4", 0);
        dueValue("4=4", 1);
        dueValue("4>4", 0);
        dueValue("5>4", 1);
        dueValue("1+1<2+1", 1);
        dueValue("(0-1)<0", 1);
        dueValue("5&3", 1);
        dueValue("5&0", 0);
        dueValue("0|7", 1);
        dueValue("0|0", 0);
        dueValue("1|0&0", 1);
        dueValue("(1|0)&0", 0);
        dueValue("2=2&3=3", 1);
        dueValue("1=2|3=3", 1);
        dueValue("!0", 1);
        dueValue("!5", 0);
        dueValue("!!5", 1);
        dueValue("!0+1", 2);
        dueValue("!0*3", 3);
        dueValue("!(0+1)", 0);
        dueValue("!2=0", 1);
        dueValue("1&5/0", 0);
    }

    private static void namesInLaws() {
        dueValue("e", 9);
        dueValue("p", 7);
        dueValue("m", 2);
        dueValue("e*100+p*10+m", 972);
        dueValue("v", 1);
        dueValue("x+b+r+y+n+d", 0);
        StrikeBallots x = withBallot();
        Checks.lawOf(x, "stands p*1000+r*100+y*10+d notice 1 life d");
        x.days(3);
        x.send(0, 7);
        x.back(0, 0, 1);
        x.back(0, 1, 3);
        c.due("as known on day 0", x.says(0, 0, 0), 7000);
        c.due("as known on day 2", x.says(0, 0, 2), 7002);
        c.due("as known on day 3", x.says(0, 0, 3), 8213);
        c.due("life as known on day 2", x.says(0, 1, 2), 2);
    }

    private static void wrongQuestions() {
        StrikeBallots x = new StrikeBallots();
        x.branch(0);
        x.days(2);
        x.open(1);
        x.days(1);
        c.due("says without a law", x.says(0, 0, 2), Checks.NO);
        c.due("says without a law, of no ballot", x.says(1, 0, 2), Checks.BAD);
        Checks.lawOf(x, "stands 1 notice 1 life 1");
        c.due("says(0, 2, 2)", x.says(0, 2, 2), Checks.BAD);
        c.due("says(0, -1, 2)", x.says(0, -1, 2), Checks.BAD);
        c.due("says(0, 0, 1)", x.says(0, 0, 1), Checks.BAD);
        c.due("says(0, 0, 2)", x.says(0, 0, 2), 1);
        c.due("says(0, 0, 3)", x.says(0, 0, 3), 1);
        c.due("says(0, 0, 4)", x.says(0, 0, 4), Checks.BAD);
        c.due("says(-1, 0, 3)", x.says(-1, 0, 3), Checks.BAD);
    }
}
