import java.util.function.IntSupplier;

/**
 * All short texts of a few signs, and all texts that are one sign away from a longer one, as shore(), children(), rule(),
 * law() and summer() read them: each is answered as Model answers it, and does the same.
 */
public final class SmallTextsTest extends Bench {
    /** Of 512 that an object is used for; a text and what is asked behind it take fewer than 100. */
    private static final int CALLS = 400;

    private static Model y;
    private static int used;
    private static int atFirst;
    private static String told = "";

    public static void main(String[] args) {
        shortTexts("shore", "07|x", 7);
        shortTexts("first children", "14,;-a", 6);
        shortTexts("children", "14,;-b", 5);
        shortTexts("rule", "2n+-*<()", 5);
        shortTexts("rule", "10n/=>", 5);
        shortTexts("law", "2n+(<)", 4);
        shortTexts("summer", "gwambi1", 4);
        nearTexts("shore", "3|25|04");
        nearTexts("shore", "0|91|82|73|64|55|46|37|28|19|00|91");
        nearTexts("children", "7,4-;13,9a;04,1c");
        nearTexts("children", "7,4-;13,9a;04,1b;4,1-;4,1-;4,1-;4,1-");
        nearTexts("first children", "7,4-;13,9a;04,1b");
        nearTexts("first children", "10,1-;11,2a;11,2a;11,2a;11,2a;11,2a;11,2a;11,2a");
        nearTexts("rule", "-(n*12+w)/3<c-(m=1)*20");
        nearTexts("rule", "((((1+2)*3)-n)/4)+100");
        nearTexts("rule", "1+1+1+1+1+1+1+1+1+1+1+1+1+1+1+1+1+1+1+11");
        nearTexts("law", "30+w*10+n*5");
        nearTexts("summer", "gaahasatambb3w");
        nearTexts("summer", "w".repeat(54) + "gabtaw");
        due.end();
    }

    /** All texts of these signs up to a length, the shortest first. */
    private static void shortTexts(String call, String signs, int most) {
        startBoth(call);
        int many = 1;
        for (int length = 0; length <= most; length++) {
            for (int number = 0; number < many; number++) {
                StringBuilder text = new StringBuilder();
                for (int k = 0, rest = number; k < length; k++, rest /= signs.length()) {
                    text.append(signs.charAt(rest % signs.length()));
                }
                read(call, text.toString());
            }
            many *= signs.length();
        }
    }

    /** A text, each of its beginnings, and it with one sign left out, put in or changed. */
    private static void nearTexts(String call, String text) {
        startBoth(call);
        for (int p = 0; p <= text.length(); p++) {
            String head = text.substring(0, p);
            read(call, head);
            if (p < text.length()) {
                read(call, head + text.substring(p + 1));
            }
            for (char s = 0; s < 256; s++) {
                read(call, head + s + text.substring(p));
                if (p < text.length()) {
                    read(call, head + s + text.substring(p + 1));
                }
            }
        }
    }

    private static void read(String call, String text) {
        if (used > CALLS || y.count(1) > atFirst) {
            startBoth(call);
        }
        told = call + "() of " + text + ": ";
        write(text);
        y.text = text;
        used += text.length() / 4 + 4;
        switch (call) {
            case "shore": both("answer", x::shore, y::shore); break;
            case "children":
            case "first children": both("answer", x::children, y::children); break;
            case "rule": both("answer", x::rule, y::rule); break;
            case "law": both("answer", x::law, y::law); break;
            default: both("answer", x::summer, y::summer); break;
        }
        behind();
    }

    /** What a text that was taken did, and that one that was not did nothing. */
    private static void behind() {
        both("signs", () -> x.count(13), () -> y.count(13));
        both("cells", () -> x.count(0), () -> y.count(0));
        both("children", () -> x.count(1), () -> y.count(1));
        both("tide", () -> x.count(2), () -> y.count(2));
        both("walls", () -> x.count(9), () -> y.count(9));
        both("acts", () -> x.count(11), () -> y.count(11));
        both("level", () -> x.level(3), () -> y.level(3));
        int lastCell = y.count(0) - 1;
        int lastChild = y.count(1) - 1;
        both("base", () -> (int) cell(lastCell, 0), () -> y.cell(lastCell, 0));
        both("dyke", () -> (int) cell(lastCell / 2, 4), () -> y.cell(lastCell / 2, 4));
        if (lastChild >= 0) {
            both("age", () -> (int) child(lastChild, 0), () -> y.child(lastChild, 0));
            both("skill", () -> (int) child(lastChild, 1), () -> y.child(lastChild, 1));
            both("friend", () -> (int) child(lastChild, 2), () -> y.child(lastChild, 2));
            both("place", () -> (int) child(0, 5), () -> y.child(0, 5));
        }
    }

    private static void both(String what, IntSupplier ours, IntSupplier models) {
        used++;
        due.be(told + what, ours.getAsInt(), models.getAsInt());
    }

    /** Two CELLS and, unless the first are told, two CHILDREN, on both sides. */
    private static void startBoth(String call) {
        x = new SandKeepsSea();
        y = new Model();
        used = 12;
        write("2|13");
        x.shore();
        y.text = "2|13";
        y.shore();
        if (!call.equals("first children")) {
            write("7,4-;9,6a");
            x.children();
            y.text = "7,4-;9,6a";
            y.children();
        }
        atFirst = y.count(1);
    }
}
