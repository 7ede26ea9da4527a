/** The edges of the law: its text, its faults, what it reckons and what it answers. */
public final class LawEdgesTest extends Edges {
    public static void main(String[] args) throws Exception {
        open();
        edge("a TEXT of at most 240 bytes", LawEdgesTest::bytes);
        edge("no blanks", LawEdgesTest::blanks);
        edge("(none at first)", LawEdgesTest::noneAtFirst);
        edge("CLAUSES (16 at most) with a ; (59) between two", LawEdgesTest::clauses);
        edge("a letter, E, and (C)", LawEdgesTest::clauseLetters);
        edge("of the first one of a letter whose C holds the E (beyond its bounds the bound; none: 0)",
            LawEdgesTest::firstThatHolds);
        edge("a how much a LAMP pulls a HERD (0 to 999)", LawEdgesTest::pulls);
        edge("z tenths for a stampede (0 to 10)", LawEdgesTest::stampedes);
        edge("s how many sink (0 to 99)", LawEdgesTest::sinks);
        edge("w by how much THIRST grows (0 to 99)", LawEdgesTest::thirst);
        edge("x how many die of THIRST (0 to 99)", LawEdgesTest::dies);
        edge("f by how much FEAR grows (-99 to 99)", LawEdgesTest::fear);
        edge("b what the beer of an INN costs for a NIGHT (0 to 999)", LawEdgesTest::beer);
        edge("q tenths for CLOUDS (0 to 10)", LawEdgesTest::clouds);
        edge("PARTS with a | between two, one of which must hold", LawEdgesTest::parts);
        edge("PIECES with an & between two, all of which must", LawEdgesTest::pieces);
        edge("a PIECE: !PIECE, (C), or E, one of < > =, and E", LawEdgesTest::piece);
        edge("a TERM: FACTORS with one of * / % between two; from the left on", LawEdgesTest::terms);
        edge("a FACTOR: [E], a number of one to five digits, or a letter", LawEdgesTest::factors);
        edge("u the HOUR, v THE NIGHT; of a HERD (in a z s w x f): h its number, n CATTLE, t THIRST, e FEAR, x, y, g x, "
            + "y and SORT of its SQUARE", LawEdgesTest::herdLetters);
        edge("c whether there are CLOUDS in this HOUR (1, 0; in b, q 0)", LawEdgesTest::cloudLetter);
        edge("r the DRAW (not in a: 0)", LawEdgesTest::drawLetter);
        edge("in a, b: l the LAMP, k its KIND", LawEdgesTest::lampLetters);
        edge("in a: d THE WAY to it (differences of x and y without sign, together)", LawEdgesTest::wayLetter);
        edge("in b: p for how many NIGHTS it is PAID (where they are not told they are 0)", LawEdgesTest::paidLetter);
        edge("All is reckoned with 32 bits, as the machine does", LawEdgesTest::wraps);
        edge("what is divided by 0 is REFUSED: then the C as a whole does not hold (through any !, ( ) and |), an E is 0",
            LawEdgesTest::dividedByNone);
        edge("Of a C as much is asked, from the left, as matters", LawEdgesTest::asMuchAsMatters);
        edge("FAULTS, the first from the left", LawEdgesTest::firstFromTheLeft);
        edge("1 what can't stand there (the end, too)", LawEdgesTest::cantStand);
        edge("2 a sixth digit, at it", LawEdgesTest::sixthDigit);
        edge("4 a 17th CLAUSE, at its letter (if that can stand there)", LawEdgesTest::seventeenth);
        edge("5 a seventh of ( [ ! that are open in one another, at it", LawEdgesTest::seventh);
        edge("(the ( of the CLAUSE counts; a ! is open till its PIECE ends; the E of a CLAUSE stands ahead of it)",
            LawEdgesTest::whatIsOpen);
        end("LawEdgesTest");
    }

    private static String filled(String head, String more, String tail, int length) {
        StringBuilder text = new StringBuilder(head);
        while (text.length() + more.length() + tail.length() <= length) {
            text.append(more);
        }
        text.append(tail);
        return text.toString();
    }

    private static void bytes() {
        String most = filled("a1", "+1", "(01=1)", 240);
        due("bytes", most.length(), 240);
        due("240 bytes", said(most), 1);
        due("240 bytes do", pullBy(most), 117);
        due("239 of them lack the end", said(most.substring(0, 239)), -1239);
        StarHerds x = by("b7(1=1)");
        x.inn(0, 5, 5, 0);
        feed(x, filled("b1", "+1", "(001=1)", 241).chars().toArray());
        due("241 bytes", x.law(241), -1);
        due("the tape stays", x.count(4), 260);
        due("the text stays", x.price(0), 7);
        feed(x, 1);
        due("240 of 241 bytes", x.law(240), -1240);
        due("the tape is empty", x.count(4), 0);
        due("the text stays", x.price(0), 7);
        due("seven of twenty bytes", lawOf(x, "b8(1=1)b9(1=1)", 7), 1);
        due("the others are not read", x.price(0), 8);
        due("one byte alone", lawOf(x, "b", 1), -1001);
    }

    private static int lawOf(StarHerds x, String text, int n) {
        x.check(0);
        feed(x, text.chars().toArray());
        return x.law(n);
    }

    private static void blanks() {
        String text = "a1+u(1<2|!3=v);b7(1=1)";
        for (int at = 0; at <= text.length(); at++) {
            String blank = text.substring(0, at) + " " + text.substring(at);
            due("a blank at " + at, said(blank), -1000 - at);
            String line = text.substring(0, at) + "\n" + text.substring(at);
            due("a line's end at " + at, said(line), -1000 - at);
        }
    }

    private static void noneAtFirst() {
        StarHerds x = new StarHerds();
        due("clauses", x.count(3), 0);
        x.ground(5, 6, 1);
        x.inn(0, 5, 6, 1);
        x.dog(0, 1);
        x.herd(0, 5, 5, 9, 99, 99);
        x.herd(1, 5, 9, 9, 40, 40);
        due("price", x.price(0), 0);
        due("pull", x.pull(0, 0), 0);
        due("target", x.target(0), -2);
        due("none sinks, none dies", x.hour(0), 0);
        due("no stampede at FEAR 99 and DRAW 0", x.herdIs(0, 0), 89);
        due("thirst", x.herdIs(1, 2), 40);
        due("fear", x.herdIs(1, 3), 40);
        x.clouds(255);
        due("clouds", x.clouded(), 1);
    }

    private static void clauses() {
        String sixteen = "a0(1=2);".repeat(15) + "a8(1=1)";
        due("one", said("a8(1=1)"), 1);
        due("sixteen", said(sixteen), 16);
        due("the sixteenth is asked", pullBy(sixteen), 8);
        due("seventeen", said(sixteen + ";a9(1=1)"), -4128);
        due("none ahead of a ;", said(";a1(1=1)"), -1000);
        due("none between two", said("a1(1=1);;a1(1=1)"), -1008);
        due("none behind a ;", said("a1(1=1);"), -1008);
        due("no ; between two", said("a1(1=1)a1(1=1)"), -1007);
        due("a : (58)", said("a1(1=1):a1(1=1)"), -1007);
        due("a < (60)", said("a1(1=1)<a1(1=1)"), -1007);
        StarHerds x = by(sixteen);
        due("count", x.count(3), 16);
    }

    private static void clauseLetters() {
        for (char c = 0; c < 256; c++) {
            boolean can = "azswxfbq".indexOf(c) >= 0;
            due("letter " + (int) c, said(c + "1(1=1)"), can ? 1 : -1000);
        }
        due("no E", said("a(1=1)"), -1001);
        due("no C", said("a1"), -1002);
        due("an empty C", said("a1()"), -1003);
        due("no (", said("a1 1=1)"), -1002);
        due("no )", said("a1(1=1"), -1006);
        due("[ ] in place of ( )", said("a1[1=1]"), -1002);
    }

    private static void firstThatHolds() {
        due("the first of three that hold", pullBy("a4(1=2);z9(1=1);a5(1=1);a6(1=1)"), 5);
        due("the last one", pullBy("a4(1=2);a5(1=2);a6(1=1)"), 6);
        due("none of the letter holds", pullBy("a4(1=2);a5(2<1)"), 0);
        due("none of the letter", pullBy("b4(1=1)"), 0);
        due("a first one beyond its bounds is not passed over", pullBy("a0-1(1=1);a6(1=1)"), 0);
        due("a first one that is refused is not passed over", pullBy("a1/0(1=1);a6(1=1)"), 0);
        due("one whose C is refused is", pullBy("a4(1/0=1);a6(1=1)"), 6);
    }

    private static void pulls() {
        due("999", value("999"), 999);
        due("998", value("998"), 998);
        due("1000", value("1000"), 999);
        due("0", value("0"), 0);
        due("-1", value("0-1"), 0);
        due("the highest int", value("32768*65535+32767"), 999);
        due("the lowest int", value("32768*65535+32768"), 0);
    }

    /** Where a herd with fear comes from 5, 5 in an hour: 89 without a stampede. */
    private static int runs(String tenths, int draw) {
        StarHerds x = by("z" + tenths + "(1=1)");
        x.herd(0, 5, 5, 9, 0, 99);
        x.hour(draw);
        return x.herdIs(0, 0);
    }

    private static void stampedes() {
        due("10 tenths, draw 9", runs("10", 9), 77);
        due("9 tenths, draw 9", runs("9", 9), 89);
        due("9 tenths, draw 8", runs("9", 8), 103);
        due("1 tenth, draw 0", runs("1", 0), 103);
        due("1 tenth, draw 1", runs("1", 1), 89);
        due("0 tenths, draw 0", runs("0", 0), 89);
        due("-1 tenths, draw 0", runs("0-1", 0), 89);
        due("11 tenths, draw 9", runs("11", 9), 77);
    }

    private static int lost(String law, int cattle, int thirst) {
        StarHerds x = by(law);
        x.ground(5, 6, 1);
        x.herd(0, 5, 5, cattle, thirst, 0);
        return x.hour(0);
    }

    private static void sinks() {
        due("99", lost("s99(1=1)", 200, 0), 99);
        due("98", lost("s98(1=1)", 200, 0), 98);
        due("100", lost("s100(1=1)", 200, 0), 99);
        due("0", lost("s0(1=1)", 200, 0), 0);
        due("-1", lost("s0-1(1=1)", 200, 0), 0);
    }

    private static int thirstBy(String grows, int thirst) {
        StarHerds x = by("w" + grows + "(1=1)");
        x.herd(0, 5, 5, 9, thirst, 0);
        x.hour(0);
        return x.herdIs(0, 2);
    }

    private static void thirst() {
        due("99", thirstBy("99", 0), 99);
        due("98", thirstBy("98", 0), 98);
        due("100", thirstBy("100", 0), 99);
        due("0", thirstBy("0", 5), 5);
        due("-1", thirstBy("0-1", 5), 5);
        due("the highest int", thirstBy("32768*65535+32767", 5), 99);
    }

    private static void dies() {
        due("99", lost("x99(1=1)", 200, 99), 99);
        due("98", lost("x98(1=1)", 200, 99), 98);
        due("100", lost("x100(1=1)", 200, 99), 99);
        due("0", lost("x0(1=1)", 200, 99), 0);
        due("-1", lost("x0-1(1=1)", 200, 99), 0);
    }

    private static int fearBy(String grows, int fear) {
        StarHerds x = by("f" + grows + "(1=1)");
        x.herd(0, 5, 5, 9, 0, fear);
        x.hour(0);
        return x.herdIs(0, 3);
    }

    private static void fear() {
        due("99", fearBy("99", 0), 99);
        due("98", fearBy("98", 0), 98);
        due("-98", fearBy("0-98", 99), 1);
        due("-99", fearBy("0-99", 99), 0);
        due("100", fearBy("100", 0), 99);
        due("-100", fearBy("0-100", 99), 0);
        due("-1", fearBy("0-1", 9), 8);
        due("the highest int is 99 ahead of the sum", fearBy("32768*65535+32767", 9), 99);
        due("the lowest int is -99 ahead of the sum", fearBy("32768*65535+32768", 9), 0);
    }

    private static int priceBy(String cost) {
        StarHerds x = by("b" + cost + "(1=1)");
        x.inn(0, 5, 5, 0);
        return x.price(0);
    }

    private static void beer() {
        due("999", priceBy("999"), 999);
        due("998", priceBy("998"), 998);
        due("1000", priceBy("1000"), 999);
        due("0", priceBy("0"), 0);
        due("-1", priceBy("0-1"), 0);
    }

    private static int cloudsBy(String tenths) {
        StarHerds x = by("q" + tenths + "(1=1)");
        return x.clouded();
    }

    private static void clouds() {
        // The draws from 1 on are 2 7 6 5 2 9 6 7.
        due("10", cloudsBy("10"), 255);
        due("9: not by draw 9", cloudsBy("9"), 255 - 32);
        due("11", cloudsBy("11"), 255);
        due("3", cloudsBy("3"), 1 + 16);
        due("2", cloudsBy("2"), 0);
        StarHerds x = by("q0(1=1)");
        x.hours(7);
        x.seed(3915);
        due("0, draw 0", x.clouded(), 0);
        due("X 0", x.count(5), 0);
        x = by("q1(1=1)");
        x.hours(7);
        x.seed(3915);
        due("1, draw 0", x.clouded(), 128);
        due("X 0", x.count(5), 0);
        x = by("q0-1(1=1)");
        x.hours(7);
        x.seed(3915);
        due("-1, draw 0", x.clouded(), 0);
    }

    private static void parts() {
        due("one", holds("1=1"), 1);
        due("the first of two", holds("1=1|1=2"), 1);
        due("the second of two", holds("1=2|1=1"), 1);
        due("the last of three", holds("1=2|1=2|1=1"), 1);
        due("none of three", holds("1=2|1=2|1=2"), 0);
        due("one of them with an &", holds("1=2|1=1&1=1"), 1);
        due("none ahead of |", said("a1(|1=1)"), -1003);
        due("none behind |", said("a1(1=1|)"), -1007);
        due("||", said("a1(1=1||1=1)"), -1007);
        due("many", holds("1=2|".repeat(58) + "1=1"), 1);
    }

    private static void pieces() {
        due("both of two", holds("1=1&2=2"), 1);
        due("the first of two", holds("1=1&1=2"), 0);
        due("the second of two", holds("1=2&1=1"), 0);
        due("all of three", holds("1=1&2=2&3=3"), 1);
        due("two of three", holds("1=1&2=2&3=4"), 0);
        due("& ahead of |", holds("1=1|1=1&1=2"), 1);
        due("none ahead of &", said("a1(&1=1)"), -1003);
        due("none behind &", said("a1(1=1&)"), -1007);
        due("&&", said("a1(1=1&&1=1)"), -1007);
        due("many", holds("1=1&".repeat(58) + "1=2"), 0);
    }

    private static void piece() {
        due("1<2", holds("1<2"), 1);
        due("2<2", holds("2<2"), 0);
        due("3<2", holds("3<2"), 0);
        due("1>2", holds("1>2"), 0);
        due("2>2", holds("2>2"), 0);
        due("3>2", holds("3>2"), 1);
        due("1=2", holds("1=2"), 0);
        due("2=2", holds("2=2"), 1);
        due("!1=2", holds("!1=2"), 1);
        due("!!1=2", holds("!!1=2"), 0);
        due("!(1=2)", holds("!(1=2)"), 1);
        due("! binds ahead of &", holds("!1=1&1=2"), 0);
        due("! binds ahead of |", holds("!1=2|1=2"), 1);
        due("(C)", holds("(1=1|1=1)&(1=2|1=1)"), 1);
        due("((C))", holds("((1=1))"), 1);
        due("an E alone", said("a1(1)"), -1004);
        due("two comparisons", said("a1(1=1=1)"), -1006);
        due("<=", said("a1(1<=1)"), -1005);
        due("an empty ( )", said("a1(())"), -1004);
        due("( ) about an E", said("a1((1)=1)"), -1005);
        due("( ) within an E", said("a1(1+(1)=2)"), -1005);
        due("[ ] about a C", said("a1([1=1])"), -1005);
        due("! of an E", said("a1(1=!1)"), -1005);
    }

    private static void terms() {
        due("/ and *", value("100/7*7"), 98);
        due("* and /", value("7*100/7"), 100);
        due("% and *", value("17%10*3"), 21);
        due("* and %", value("17*3%10"), 1);
        due("- and -", value("100-30-20"), 50);
        due("- and +", value("100-30+20"), 90);
        due("terms ahead of +", value("2+3*4"), 14);
        due("terms ahead of -", value("20-6/2"), 17);
        due("two signs", said("a1*/1(1=1)"), -1003);
        due("none ahead of a sign", said("a*1(1=1)"), -1001);
        due("none ahead of -", said("a-1(1=1)"), -1001);
        due("none behind a sign", said("a1%(1=1)"), -1003);
        due("none behind +", said("a1+(1=1)"), -1003);
    }

    private static void factors() {
        due("one digit", value("7"), 7);
        due("five digits", value("00007"), 7);
        due("five nines", value("99999/1000"), 99);
        due("six digits", said("a000007(1=1)"), -2006);
        due("no digit", said("a(1=1)"), -1001);
        due("[E]", value("[2+3]*[4-1]"), 15);
        due("[[E]]", value("[[7]]"), 7);
        due("[ ]", said("a[](1=1)"), -1002);
        due("no ]", said("a[1(1=1)"), -1003);
        due("no [", said("a1](1=1)"), -1002);
        due("two numbers", said("a1u(1=1)"), -1002);
        due("a letter and a number", said("au1(1=1)"), -1002);
        due("two letters", said("auu(1=1)"), -1002);
        for (char c = 0; c < 256; c++) {
            boolean can = "uvhntexygcrlkdp".indexOf(c) >= 0 || c >= '0' && c <= '9';
            int due = can ? 1 : c == '[' ? -1002 : -1001;
            due("factor " + (int) c, said("a" + c + "(1=1)"), due);
        }
    }

    private static void herdLetters() {
        StarHerds x = by("au*100+v(h=0);ah(h=5)");
        x.herd(0, 0, 0, 999, 99, 99);
        x.herd(5, 13, 13, 1, 0, 0);
        x.inn(0, 0, 0, 0);
        due("HOUR 0, NIGHT 0", x.pull(0, 0), 0);
        due("herd 5", x.pull(5, 0), 5);
        x.hours(7);
        x.herd(0, 0, 0, 999, 99, 99);
        due("HOUR 7, NIGHT 0", x.pull(0, 0), 700);
        x.hours(1);
        x.herd(0, 0, 0, 999, 99, 99);
        x.herd(5, 13, 13, 1, 0, 0);
        due("HOUR 0, NIGHT 1", x.pull(0, 0), 1);
        String[] letters = {"n", "t", "e", "x", "y", "g", "h"};
        int[] most = {999, 99, 99, 0, 0, 0, 0};
        int[] least = {1, 0, 0, 13, 13, 0, 5};
        for (int k = 0; k < letters.length; k++) {
            law(x, "a" + letters[k] + "(1=1)");
            due(letters[k] + " of herd 0", x.pull(0, 0), most[k]);
            due(letters[k] + " of herd 5", x.pull(5, 0), least[k]);
        }
        law(x, "ag(1=1)");
        for (int sort = 0; sort < 3; sort++) {
            x.ground(13, 13, sort);
            due("g", x.pull(5, 0), sort);
        }
        // In an hour: z, w and f of a herd that goes from 0, 0 to 0, 1, s and x there.
        for (char c : new char[] {'w', 'f'}) {
            x = by(c + "1+h+n+t+e+x+y+g(1=1)");
            x.ground(4, 1, 1);
            x.herd(3, 4, 0, 5, 6, 7);
            x.hour(0);
            due(c + " behind the step", x.herdIs(3, c == 'w' ? 2 : 3), (c == 'w' ? 6 : 7) + 1 + 3 + 5 + 6 + 7 + 4 + 1 + 1);
        }
        x = by("s1+h+t+e+x+y+g(1=1)");
        x.ground(4, 1, 1);
        x.herd(3, 4, 0, 50, 6, 7);
        due("s behind the step", x.hour(0), 1 + 3 + 6 + 7 + 4 + 1 + 1);
        x = by("s2(1=1);w93(1=1);xn+t-99+h+x+y+g(1=1)");
        x.ground(4, 1, 1);
        x.herd(3, 4, 0, 50, 6, 7);
        due("x behind s and w", x.hour(0), 2 + 48 + 0);
        x = by("z9(h=3&n=50&t=6&e=60&x=4&y=0&g=2&u=0&v=0)");
        x.ground(4, 0, 2);
        x.herd(3, 4, 0, 50, 6, 60);
        x.hour(0);
        due("z ahead of the step", x.herdIs(3, 0), 32);
    }

    private static void cloudLetter() {
        for (char c : new char[] {'a', 'z', 's', 'w', 'x', 'f'}) {
            for (int clouds = 0; clouds < 2; clouds++) {
                due("in " + c + " by clouds " + clouds, askedBy(c, "c", clouds, 0), clouds);
            }
        }
        StarHerds x = by("b1+c(1=1);qc*10(1=1)");
        x.inn(0, 5, 5, 0);
        x.clouds(255);
        due("in b", x.price(0), 1);
        due("in q", x.clouded(), 0);
        x = by("ac(1=1)");
        x.inn(0, 5, 5, 0);
        x.herd(0, 5, 5, 9, 0, 0);
        x.hours(1);
        x.herd(0, 5, 5, 9, 0, 0);
        x.clouds(1);
        due("in another hour", x.pull(0, 0), 0);
        x.clouds(2);
        due("in this hour", x.pull(0, 0), 1);
    }

    /** Of a clause letter whether it is asked with a factor that is not 0: 1, else 0. */
    private static int askedBy(char letter, String factor, int clouds, int draw) {
        String law = letter + "9*" + factor + "(1=1)";
        StarHerds x = by(letter == 'z' ? "z9(" + factor + ">0)" : law);
        x.clouds(clouds);
        x.inn(0, 5, 8, 0);
        x.dog(0, 1);
        x.ground(5, 6, 1);
        x.herd(0, 5, 5, 99, letter == 'x' ? 99 : 0, letter == 'z' ? 99 : 0);
        if (letter == 'a') {
            int pull = x.pull(0, 0);
            due("target by a pull of " + pull, x.target(0), pull > 0 ? 0 : -2);
            return bit(pull > 0);
        }
        int lost = x.hour(draw);
        switch (letter) {
            case 'z': return bit(x.herdIs(0, 0) != 89);
            case 'w': return bit(x.herdIs(0, 2) > 0);
            case 'f': return bit(x.herdIs(0, 3) > 0);
            default: return bit(lost > 0);
        }
    }

    private static void drawLetter() {
        for (char c : new char[] {'z', 's', 'w', 'x', 'f'}) {
            due("in " + c + " by draw 0", askedBy(c, "r", 0, 0), 0);
            due("in " + c + " by draw 4", askedBy(c, "r", 0, 4), 1);
        }
        for (int draw = 0; draw < 10; draw++) {
            StarHerds x = by("w1+r(1=1);ar(1=1)");
            x.inn(0, 5, 7, 0);
            x.dog(0, 1);
            x.herd(0, 5, 7, 9, 0, 0);
            due("in a", x.pull(0, 0), 0);
            x.hour(draw);
            due("r is the draw", x.herdIs(0, 2), 1 + draw);
            due("in a of an hour: no target, it went on", x.herdIs(0, 0), 117);
            due("in a behind it", x.target(0), -2);
        }
        StarHerds x = by("b1+r(1=1);qr*10(1=1)");
        x.inn(0, 5, 5, 0);
        x.hour(9);
        due("in b", x.price(0), 1);
        due("in q", x.clouded(), 0);
    }

    private static void lampLetters() {
        StarHerds x = by("al*10+k(1=1);bl*10+k(1=1)");
        x.herd(0, 5, 5, 9, 0, 0);
        x.herd(5, 5, 5, 9, 0, 0);
        for (int l = 0; l < 12; l++) {
            yes("lamp", l < 9 ? x.inn(l, 5, 5, 4 - l % 5) : x.stray(l, 5, 5, l - 9, true));
            int kind = l < 9 ? 4 - l % 5 : l - 9;
            due("in a: lamp " + l, x.pull(0, l), 10 * l + kind);
            due("in b: lamp " + l, x.price(l), l < 9 ? 10 * l + kind : -1);
        }
        due("in a: horns", x.pull(0, 17), 175);
        due("in a: horns", x.pull(5, 12), 125);
        for (char c : new char[] {'s', 'w', 'x', 'f', 'z'}) {
            due("l in " + c + ": not told", askedBy(c, "l", 0, 4), 0);
            due("k in " + c + ": not told", askedBy(c, "k", 0, 4), 0);
        }
        x = by("ql*10+k*10(1=1)");
        x.inn(8, 5, 5, 4);
        due("in q", x.clouded(), 0);
    }

    private static void wayLetter() {
        StarHerds x = by("ad(1=1);bd(1=1);qd(1=1)");
        x.herd(0, 0, 0, 9, 0, 0);
        x.inn(0, 0, 0, 0);
        due("0", x.pull(0, 0), 0);
        x.inn(0, 13, 13, 0);
        due("26", x.pull(0, 0), 26);
        x.herd(0, 13, 13, 9, 0, 0);
        x.inn(0, 0, 0, 0);
        due("26 the other way", x.pull(0, 0), 26);
        x.inn(0, 13, 12, 0);
        due("one y", x.pull(0, 0), 1);
        x.inn(0, 12, 13, 0);
        due("one x", x.pull(0, 0), 1);
        x.herd(0, 5, 5, 9, 0, 0);
        x.inn(0, 3, 8, 0);
        due("x less, y more", x.pull(0, 0), 5);
        due("in b", x.price(0), 0);
        due("in q", x.clouded(), 0);
        for (char c : new char[] {'s', 'w', 'x', 'f', 'z'}) {
            due("in " + c, askedBy(c, "d", 0, 4), 0);
        }
    }

    private static void paidLetter() {
        StarHerds x = by("bp(1=1)");
        x.inn(0, 5, 5, 0);
        due("0", x.price(0), 0);
        x.dog(0, 99);
        due("a dog's nights are none", x.price(0), 0);
        x.drover(0, 9999);
        due("1", x.pay(0, 0, 1), 0);
        due("1", x.price(0), 1);
        for (int k = 0; k < 10; k++) {
            x.pay(0, 0, 9);
        }
        x.pay(0, 0, 8);
        due("99", x.price(0), 99);
        x.hours(8);
        due("98", x.price(0), 98);
        law(x, "ap(1=1);qp(1=1)");
        x.herd(0, 5, 5, 9, 0, 0);
        due("in a", x.pull(0, 0), 0);
        due("in q", x.clouded(), 0);
        for (char c : new char[] {'s', 'w', 'x', 'f', 'z'}) {
            due("in " + c, askedBy(c, "p", 0, 4), 0);
        }
        x = by("b1+h+n+t+e+x+y+g+c+r+d(1=1)");
        x.ground(5, 5, 2);
        x.inn(0, 5, 5, 4);
        x.herd(5, 5, 5, 9, 9, 9);
        due("of no herd in b", x.price(0), 1);
        law(x, "q10*[h+n+t+e+x+y+g+c+r+l+k+d+p](1=1)");
        due("of no herd in q", x.clouded(), 0);
    }

    private static void wraps() {
        // 32768 * 65535 + 32767 is the highest int, 32768 * 65535 + 32768 the lowest one.
        due("one above the highest is below 0", holds("32768*65535+32768<0"), 1);
        due("the highest is above 0", holds("32768*65535+32767>0"), 1);
        due("one below the lowest is the highest", holds("32768*65535+32768-1=32768*65535+32767"), 1);
        due("65536 times 65536", value("65536*65536+7"), 7);
        due("65536 times 32768", holds("65536*32768<0"), 1);
        due("99999 times 99999 is 1409865409", value("99999*99999/10000%1000"), 986);
        due("the lowest by -1 is the lowest", holds("[32768*65535+32768]/[0-1]=32768*65535+32768"), 1);
        due("the lowest by -1 leaves 0", value("7+[32768*65535+32768]%[0-1]"), 7);
        due("the lowest by 1", holds("[32768*65535+32768]/1<0"), 1);
        due("towards 0", value("10+[0-7]/2"), 7);
        due("towards 0", value("10+7/[0-2]"), 7);
        due("the sign of what is divided", value("10+[0-7]%4"), 7);
        due("the sign of what is divided", value("10+7%[0-4]"), 13);
        due("compared with signs", holds("0-1<1"), 1);
        due("the lowest is below the highest", holds("32768*65535+32768<32768*65535+32767"), 1);
    }

    private static void dividedByNone() {
        due("an E by /", value("5/0"), 0);
        due("an E by %", value("5%0"), 0);
        due("0 by 0", value("0/0"), 0);
        due("as a whole", value("500+5/0"), 0);
        due("in [ ]", value("500+[5/[1-1]]*0"), 0);
        due("by a letter that is 0", value("500+5/u"), 0);
        due("0 divided", value("7+0/5"), 7);
        due("f: 0, not the lowest", fearBy("0-5+1/0", 9), 9);
        due("a C", holds("1/0=1"), 0);
        due("a C to the right", holds("1=1/0"), 0);
        due("a C by %", holds("1%0=0"), 0);
        due("through !", holds("!1/0=1"), 0);
        due("through !!", holds("!!1/0=1"), 0);
        due("through ( )", holds("(1/0=1)|1=1"), 0);
        due("through !( )", holds("!(1/0=1)|1=1"), 0);
        due("through |", holds("1/0=1|1=1"), 0);
        due("through &", holds("1/0=1&1=2|1=1"), 0);
        due("the next clause is asked", pullBy("a4(1/0=1|1=1);a5(1=1)"), 5);
        due("an E whose C holds", pullBy("a4/0(1=1);a5(1=1)"), 0);
    }

    private static void asMuchAsMatters() {
        due("behind a part that holds", holds("1=1|1/0=1"), 1);
        due("behind a part that does not", holds("1=2|1/0=1|1=1"), 0);
        due("behind a piece that does not", holds("1=2&1/0=1|1=1"), 1);
        due("behind two pieces, the second does not", holds("1=1&1=2&1/0=1|1=1"), 1);
        due("behind a piece that holds", holds("1=1&1/0=1|1=1"), 0);
        due("in ( ) behind a part that holds", holds("(1=1|1/0=1)&1=1"), 1);
        due("in !( ) behind a part that holds", holds("!(1=1|1/0=1)|1=1"), 1);
        due("in !( ) behind a piece that does not", holds("!(1=2&1/0=1)"), 1);
        due("behind a ( ) that holds", holds("(1=2|1=1)|1/0=1"), 1);
        due("behind a ! that does not", holds("!1=1&1/0=1|1=1"), 1);
        due("a piece behind a | that is not asked", holds("1=1|1=1&1/0=1"), 1);
        due("a part behind pieces that do not", holds("1=2&1=1|1/0=1|1=1"), 0);
        due("the E of a clause that does not hold", pullBy("a1/0(1=2);a5(1=1)"), 5);
    }

    private static void firstFromTheLeft() {
        due("1 ahead of 2", said("a1+(1=123456)"), -1003);
        due("2 ahead of 1", said("a123456+(1=1)"), -2006);
        due("5 ahead of 2", said("a[[[[[[[123456"), -5007);
        due("2 ahead of 5", said("a123456+[[[[[[[1"), -2006);
        due("5 ahead of the end", said("a1(((((((("), -5008);
        due("1 ahead of 4", said("a0(1=1);".repeat(15) + "a0(1=);a0(1=1)"), -1125);
        due("4 ahead of what stands behind its letter", said("a0(1=1);".repeat(16) + "a123456"), -4128);
    }

    private static void cantStand() {
        String text = "a[1+u]*2(!(1<2)&3=t|x>y);b5(1=1)";
        due("all of it", said(text), 2);
        for (int n = 1; n < text.length(); n++) {
            due("the end behind " + n, lawOf(new StarHerds(), text, n), n == 24 ? 1 : -1000 - n);
        }
        for (int at = 0; at < text.length(); at++) {
            for (char c : new char[] {0, 'A', '~', 127, 128, 255}) {
                String other = text.substring(0, at) + c + text.substring(at + 1);
                due("sign " + (int) c + " at " + at, said(other), -1000 - at);
            }
        }
        due("at the first byte", said("("), -1000);
        due("at the last of 240 bytes", said(filled("a1", "+1", "(11=1(", 240)), -1239);
        due("the end behind 240 bytes", said(filled("a1", "+1", "(111=1", 240)), -1240);
    }

    private static void sixthDigit() {
        due("five", said("a12345(1=1)"), 1);
        due("six", said("a123456(1=1)"), -2006);
        due("six, the first one 0", said("a012345(1=1)"), -2006);
        due("seven", said("a1234567(1=1)"), -2006);
        due("in [ ]", said("a[123456](1=1)"), -2007);
        due("in a C to the left", said("a1(123456=1)"), -2008);
        due("in a C to the right", said("a1(1=123456)"), -2010);
        due("as the last byte", said("a1(1=123456"), -2010);
        due("five as the last bytes", said("a1(1=12345"), -1010);
        due("five and five", said("a12345+12345(1=1)"), 1);
        due("a letter behind five", said("a12345u(1=1)"), -1006);
    }

    private static void seventeenth() {
        String sixteen = "q0(1=1);".repeat(16);
        for (char c = 0; c < 256; c++) {
            boolean can = "azswxfbq".indexOf(c) >= 0;
            due("a 17th one's sign " + (int) c, said(sixteen + c + "0(1=1)"), can ? -4128 : -1128);
        }
        due("the letter alone", said(sixteen + "a"), -4128);
        due("the end there", said(sixteen), -1128);
        due("sixteen", said(sixteen.substring(0, 127)), 16);
        due("no ; behind the sixteenth", said(sixteen.substring(0, 127) + "a"), -1127);
    }

    private static void seventh() {
        due("six (", said("a1((((((1=1))))))"), 1);
        due("seven (", said("a1(((((((1=1)))))))"), -5008);
        due("( and five !", said("a1(!!!!!1=1)"), 1);
        due("( and six !", said("a1(!!!!!!1=1)"), -5008);
        due("( and five [", said("a1([[[[[1]]]]]=1)"), 1);
        due("( and six [", said("a1([[[[[[1]]]]]]=1)"), -5008);
        due("six [ to the right of =", said("a1(1=[[[[[[1]]]]]])"), -5010);
        due("six of all three", said("a1(!(!([1]=1)))"), 1);
        due("seven of all three", said("a1(!(!([[1]]=1)))"), -5008);
        due("a seventh ( that can't stand there", said("a1(!(!([(1]=1)))"), -1008);
        due("six [ ahead of the (", said("a[[[[[[1]]]]]](1=1)"), 1);
        due("seven [ ahead of the (", said("a[[[[[[[1]]]]]]](1=1)"), -5007);
        due("one behind the other", said("a1((1=1)&(1=1)&(1=1)&(1=1)&(1=1)&(1=1)&(1=1))"), 1);
        due("[ ] one behind the other", said("a[1]+[1]+[1]+[1]+[1]+[1]+[1](1=1)"), 1);
    }

    private static void whatIsOpen() {
        due("the ( of the clause is one of six", said("a1(((((((1=1"), -5008);
        due("six [ of the E are closed ahead of it", said("a[[[[[[1]]]]]]((((((1=1))))))"), 1);
        due("a ! is closed behind its piece", said("a1(!1=1&!!!!!1=1)"), 1);
        due("a ! is open in its piece", said("a1(!!!!![1]=1)"), -5008);
        due("a ! is open to the right of = too", said("a1(!!!!!1=[1])"), -5010);
        due("a ! is open in its ( )", said("a1(!(1=1&!(!1=1)))"), 1);
        due("a ! is open in its ( )", said("a1(!(1=1&!(!!1=1)))"), -5012);
        due("a ! is closed behind its ( )", said("a1(!(1=1)|((((1=1)))))"), 1);
        due("many !", said("a1(!1=1&!1=1&!1=1&!1=1&!1=1&!1=1&!1=1&!1=1)"), 1);
        due("the next clause begins anew", said("a1((((((1=1))))));a1((((((1=1))))))"), 2);
    }
}
