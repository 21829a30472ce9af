import java.util.function.Supplier;

/** THE TEXT at its edges: which byte may stand where, too short ones, full ones, orders that stop all. */
public final class TextsTest extends Checks {
    private static final String FIGURES = "0123456789", LETTERS = "specx";

    public static void main(String[] args) {
        whatMayStandAtTheStart();
        whatMayStandInOrdersOfTwo();
        whatMayStandInOrdersOfFour();
        whatMayStandInOrdersOfOne();
        endsTooEarly();
        blanks();
        figures();
        fullTexts();
        manyOrders();
        faultsChangeNothing();
        faultsComeAheadOfStops();
        stopsByBad();
        stopsByNo();
        stopsByFull();
        lastThatIsAllowed();
        ordersSeeEarlierOnes();
        theTextStays();
        clear();
        finish();
    }

    /** Behind a start that is well, just these bytes of all 128 may stand: any other is the FAULT. */
    private static void behind(String start, String allowed) {
        for (char c = 0; c <= 127; c++) {
            int answer = reads(plain(2), start + c);
            boolean fault = answer == -10 - start.length();
            due("a FAULT of byte " + (int) c + " behind '" + start + "'", fault ? 1 : 0, allowed.indexOf(c) < 0 ? 1 : 0);
        }
    }

    private static void whatMayStandAtTheStart() {
        String open = " " + LETTERS;
        behind("", open);
        behind(" ", open);
        behind("     ", open);
        behind("s0 1;", open);
        behind("s0 1; ", open);
        behind(" s 0 1 ; ", open);
        behind("p0 1 0 0;", open);
        behind("e0 1;", open);
        behind("c0 1;", open);
        behind("x0;", open);
        behind("s0 1;c0 9;x0;", open);
    }

    private static void whatMayStandInOrdersOfTwo() {
        for (String letter : new String[] {"s", "e", "c"}) {
            behind(letter, " " + FIGURES);
            behind(letter + " ", " " + FIGURES);
            behind(letter + "0", " " + FIGURES);
            behind(letter + " 4", " " + FIGURES);
            behind(letter + "00", " ");
            behind(letter + "99", " ");
            behind(letter + "0 ", " " + FIGURES);
            behind(letter + "00 ", " " + FIGURES);
            behind(letter + "0  ", " " + FIGURES);
            behind(letter + "0 1", " ;" + FIGURES);
            behind(letter + "0 0", " ;" + FIGURES);
            behind(letter + "0 11", " ;");
            behind(letter + "00 99", " ;");
            behind(letter + "0 1 ", " ;");
            behind(letter + "0 11  ", " ;");
        }
    }

    private static void whatMayStandInOrdersOfFour() {
        String number = "";
        for (int n = 0; n < 4; n++) {
            String end = n == 3 ? ";" : "";
            String more = n == 3 ? "" : FIGURES;
            behind("p" + number, " " + FIGURES);
            behind("p" + number + " ", " " + FIGURES);
            behind("p" + number + "7", " " + FIGURES + end);
            behind("p" + number + "77", " " + end);
            behind("p" + number + "7 ", " " + more + end);
            behind("p" + number + "77 ", " " + more + end);
            number += "1 ";
        }
    }

    private static void whatMayStandInOrdersOfOne() {
        behind("x", " " + FIGURES);
        behind("x ", " " + FIGURES);
        behind("x0", " ;" + FIGURES);
        behind("x00", " ;");
        behind("x99", " ;");
        behind("x0 ", " ;");
        behind("x00 ", " ;");
    }

    // FAULT: the TEXT's length, if it ends too early (an empty one, one of blanks alone, too).
    private static void endsTooEarly() {
        for (int blanks = 0; blanks <= 120; blanks++) {
            due("blanks alone, " + blanks, reads(new ShaftHunt(), " ".repeat(blanks)), -10 - blanks);
        }
        String[] whole = {"s0 1;", "s 00 15 ; ", "p0 1 0 0;", " p 01 00 09 09 ;", "e0 1;", "c0 62;", "x0;", "s0 1;x0;"};
        for (String text : whole) {
            for (int length = 1; length < text.length(); length++) {
                String cut = text.substring(0, length);
                String last = cut.strip();
                if (!last.endsWith(";")) {
                    due("ends too early: '" + cut + "'", reads(plain(2), cut), -10 - length);
                }
            }
        }
    }

    // Blanks may stand anywhere but within a number, needed only between two numbers.
    private static void blanks() {
        due("no blank but the needed", reads(plain(2), "s4 9;p0 1 2 3;e1 4;c0 5;x0;"), 5);
        due("blanks everywhere", reads(plain(2), "  s  4  9  ;  p  0  1  2  3  ;  e  1  4  ;  c  0  5  ;  x  0  ;  "), 5);
        ShaftHunt x = plain(2);
        due("blanks ahead of the first letter", reads(x, "   s4 12;"), 1);
        due("KIND", x.of(2, 0), 4);
        due("P", x.of(2, 1), 12);
        due("blanks behind the last ;", reads(x, "s4 12;   "), 1);
        due("a blank within a number makes two", reads(x, "s4 1 2;"), -10 - 5);
        due("a blank within the number of x", reads(x, "x1 0;"), -10 - 3);
        due("no blank between two numbers makes one", reads(x, "s412;"), -10 - 3);
        for (char c = 0; c < 32; c++) {
            due("byte " + (int) c + " is no blank", reads(plain(2), "s0" + c + "1;"), -10 - 2);
        }
    }

    // Numbers have 1 or 2 figures.
    private static void figures() {
        String[] alike = {"e1 7;", "e01 7;", "e1 07;", "e01 07;"};
        for (String text : alike) {
            ShaftHunt x = plain(2);
            due("'" + text + "' is done", reads(x, text), 1);
            due("'" + text + "' is the same SIGHT", x.when(1), bits(7));
        }
        ShaftHunt x = plain(10);
        due("two figures", reads(x, "p09 00 08 09;x00;p9 0 0 9;"), 3);
        due("from", x.about(0, 0), 9);
        due("to", x.about(0, 1), 0);
        due("LOW", x.about(0, 2), 0);
        due("HIGH", x.about(0, 3), 9);
        String[] thirds = {"s000 1;", "s0 000;", "e000 1;", "e0 000;", "c000 1;", "c0 000;", "x000;"};
        for (String text : thirds) {
            due("a third figure in '" + text + "'", reads(plain(2), text), -10 - text.lastIndexOf("00") - 1);
        }
        String[] parts = {"0 ", "1 ", "2 ", "3"};
        for (int third = 0; third < 4; third++) {
            String ahead = "p";
            for (int n = 0; n < third; n++) {
                ahead += parts[n];
            }
            due("a third figure in number " + third, reads(plain(2), ahead + "001 2 3 4;"), -10 - ahead.length() - 2);
        }
    }

    // THE TEXT (120 bytes at most).
    private static void fullTexts() {
        due("an ORDER in the last bytes", reads(plain(1), " ".repeat(115) + "s0 1;"), 1);
        due("one ends too early at 120", reads(plain(1), " ".repeat(116) + "s0 1"), -130);
        due("one ends too early at 120", reads(plain(1), " ".repeat(119) + "x"), -130);
        due("a FAULT at the last byte", reads(plain(1), "s0 1;" + " ".repeat(114) + ";"), -129);
        due("what is typed beyond is no part", reads(plain(1), " ".repeat(115) + "s0 1;q"), 1);
        due("40 ORDERS, the first stops", reads(plain(1), "x0;".repeat(40)), -1000);
        due("40 ORDERS, the last too early", reads(plain(1), "x0;".repeat(39) + "x0 "), -130);
        due("40 ORDERS, a FAULT in the last", reads(plain(1), "x0;".repeat(39) + "x0x"), -129);
        due("40 ORDERS, the 17th stops", reads(crammed(), "x0;".repeat(40)), -1016);
    }

    private static ShaftHunt piped() {
        ShaftHunt x = plain(8);
        for (int i = 0; i < 16; i++) {
            x.pipe(0, 1 + i % 7, 0, 9);
        }
        write(x, "x0;".repeat(16) + "c0 0;".repeat(12) + "s0 1;s4 9;");
        return x;
    }

    // One STATE for all.
    private static void manyOrders() {
        ShaftHunt x = piped();
        due("30 ORDERS in 118 bytes", x.reads(), 30);
        due("no PIPES", x.told(5), 0);
        due("all SIGHTS", x.told(6), 12);
        due("all SHAFTS", x.told(4), 10);
        due("five STATES", x.told(7), 5);
        due("one STATE for all", x.back(), 4);
        ShaftHunt twin = piped();
        twin.forget();
        twin.back();
        due("all is as it was", x.digest(), twin.digest());
        ShaftHunt z = new ShaftHunt();
        due("nothing to begin with", reads(z, "s0 1;s0 1;"), 2);
        due("one STATE for both", z.told(7), 1);
        due("the STATE without SHAFTS", z.back(), 0);
        due("no SHAFTS", z.told(4), 0);
    }

    // If there is one, nothing is done; by a FAULT of it nothing counts; none with a FAULT.
    private static void faultsChangeNothing() {
        String[] texts = {"", " ", "q", "s0 1;q", "x0;x0;x0", "e0 0;e0 0;;", "p0 3 0 0;p0 3 000 0;", "s0 1;s9 99;s"};
        int[] places = {0, 1, 0, 5, 8, 10, 16, 12};
        for (int i = 0; i < texts.length; i++) {
            String text = texts[i];
            changesNothing("a FAULT of '" + text + "'", () -> written(rich(), text), x -> x.reads(), -10 - places[i]);
            changesNothing("a FAULT of '" + text + "', crammed", () -> written(crammed(), text), x -> x.reads(),
                    -10 - places[i]);
        }
    }

    private static void faultsComeAheadOfStops() {
        due("a stop ahead of a FAULT", reads(plain(1), "x0;q"), -10 - 3);
        due("a stop ahead of an early end", reads(plain(1), "s9 99;s"), -10 - 7);
        due("a stop ahead of a third figure", reads(plain(1), "x0;x123;"), -10 - 6);
    }

    private static ShaftHunt written(ShaftHunt x, String text) {
        write(x, text);
        return x;
    }

    /** An order that stops all: where it stands alone, and behind orders that would be done. */
    private static void stops(Supplier<ShaftHunt> maker, String order) {
        changesNothing("stopped by '" + order + "'", () -> written(maker.get(), order), x -> x.reads(), -1000);
        String third = "c0 0;c0 1;" + order + "c0 2;";
        changesNothing("stopped by '" + third + "'", () -> written(maker.get(), third), x -> x.reads(), -1002);
    }

    // An ORDER that its call would refuse stops all: nothing is done, nothing counts, no STATE.
    private static void stopsByBad() {
        String[] orders = {
            "s5 1;", "s99 1;", "s0 0;", "s0 00;", "s0 16;", "s0 99;", "s4 16;",
            "p4 0 0 0;", "p0 4 0 0;", "p0 99 0 0;", "p3 3 0 0;", "p0 3 0 10;", "p0 3 10 10;", "p0 3 1 0;", "p0 3 9 8;",
            "e4 0;", "e0 63;", "e0 99;", "e10 0;", "c4 0;", "c0 63;", "c0 99;", "c99 0;", "x4;", "x99;"};
        for (String order : orders) {
            stops(Checks::rich, order);
        }
        changesNothing("no SHAFTS to sight", () -> written(new ShaftHunt(), "e0 0;"), x -> x.reads(), -1000);
        changesNothing("no PIPE to drop", () -> written(plain(10), "x0;"), x -> x.reads(), -1000);
        changesNothing("SHAFT 10 of ten", () -> written(plain(10), "c10 1;"), x -> x.reads(), -1000);
    }

    private static void stopsByNo() {
        stops(Checks::rich, "p3 0 0 0;");
        stops(Checks::rich, "p1 0 9 9;");
        stops(() -> chain(10), "p9 0 0 0;");
        changesNothing("a ring by the text's own PIPES", () -> written(plain(3), "p0 1 0 0;p1 2 0 0;p2 0 0 0;"),
                x -> x.reads(), -1002);
    }

    private static void stopsByFull() {
        changesNothing("the eleventh SHAFT", () -> written(plain(10), "s0 1;"), x -> x.reads(), -1000);
        changesNothing("SHAFTS are FULL", () -> written(crammed(), "x0;s0 1;"), x -> x.reads(), -1001);
        changesNothing("PIPES are FULL", () -> written(crammed(), "p0 5 0 0;"), x -> x.reads(), -1000);
        changesNothing("SIGHTS are FULL, SEEN", () -> written(crammed(), "x0;e0 0;"), x -> x.reads(), -1001);
        changesNothing("SIGHTS are FULL, CLEAN", () -> written(crammed(), "x0;x0;c0 0;"), x -> x.reads(), -1002);
        changesNothing("SHAFTS come to be FULL", () -> written(plain(8), "s0 1;s0 1;s0 1;"), x -> x.reads(), -1002);
        changesNothing("SIGHTS come to be FULL", () -> written(plain(1), "e0 1;".repeat(13)), x -> x.reads(), -1012);
        changesNothing("PIPES come to be FULL", () -> {
            ShaftHunt x = plain(2);
            reads(x, "p0 1 0 0;".repeat(13));
            return written(x, "p0 1 0 9;".repeat(4));
        }, x -> x.reads(), -1003);
    }

    // The last values that are as told are so in THE TEXT, too.
    private static void lastThatIsAllowed() {
        due("KIND 0, P 1; KIND 4, P 15", reads(new ShaftHunt(), "s0 1;s4 15;s4 1;s0 15;"), 4);
        due("MINUTES 0 and 62", reads(plain(10), "e0 0;e9 62;c0 0;c9 62;"), 4);
        due("LOW and HIGH 0 and 9", reads(plain(10), "p0 9 0 0;p0 9 9 9;p0 9 0 9;"), 3);
        due("the last PIPE", reads(crammed(), "x15;x14;x13;"), 3);
        due("behind the last PIPE", reads(crammed(), "x15;x15;"), -1001);
        due("ten SHAFTS", reads(new ShaftHunt(), "s0 1;".repeat(10)), 10);
        due("eleven SHAFTS", reads(new ShaftHunt(), "s0 1;".repeat(11)), -1010);
        due("twelve SIGHTS", reads(plain(1), "e0 1;".repeat(12)), 12);
        ShaftHunt x = plain(2);
        reads(x, "p0 1 0 0;".repeat(13));
        due("sixteen PIPES", reads(x, "p0 1 0 0;".repeat(3)), 3);
        due("PIPES", x.told(5), 16);
        due("FULL is so for the call, too", x.pipe(0, 1, 0, 0), -4);
        due("nothing counts but the call", x.told(2), 1);
        due("a room for the new one", reads(x, "x0;p0 1 0 9;"), 2);
    }

    private static void ordersSeeEarlierOnes() {
        due("a SHAFT of the same text", reads(new ShaftHunt(), "s0 1;s0 1;p0 1 0 0;e1 3;x0;p1 0 0 0;"), 6);
        due("a SHAFT of the same text, too soon", reads(new ShaftHunt(), "s0 1;p0 1 0 0;s0 1;"), -1001);
        due("no ring any more", reads(chain(2), "x0;p1 0 0 0;"), 2);
        due("yet a ring", reads(chain(2), "p1 0 0 0;x0;"), -1000);
    }

    private static void theTextStays() {
        ShaftHunt x = new ShaftHunt();
        due("done", reads(x, "s0 1;"), 1);
        due("bytes", x.told(3), 5);
        due("done again", x.reads(), 1);
        due("SHAFTS", x.told(4), 2);
        x.type('x');
        due("a FAULT keeps it", x.reads(), -16);
        due("bytes", x.told(3), 6);
        x.type('0');
        x.type(';');
        due("a stop keeps it", x.reads(), -1001);
        due("bytes", x.told(3), 8);
        x.pipe(0, 1, 0, 0);
        due("now it is done", x.reads(), 2);
        due("back keeps it", x.back(), 3);
        due("bytes", x.told(3), 8);
    }

    private static void clear() {
        ShaftHunt x = new ShaftHunt();
        due("clear an empty TEXT", x.clear(), 0);
        due("read an empty TEXT", x.reads(), -10);
        x.type('s');
        due("clear one byte", x.clear(), 1);
        due("read an empty TEXT", x.reads(), -10);
        write(x, "s0 1;".repeat(24));
        due("clear a full TEXT", x.clear(), 120);
        due("clear an empty TEXT", x.clear(), 0);
        due("nothing of it is left", x.reads(), -10);
        due("neither typing nor clearing leaves a STATE", x.told(7), 0);
        due("nothing is refused", x.told(0) + x.told(1) + x.told(2), 0);
    }
}
