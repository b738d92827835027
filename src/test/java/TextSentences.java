/** 'Terms' on the text, and promises 23 to 25. */
final class TextSentences {
    private static final Class<IllegalArgumentException> ARGUMENT = IllegalArgumentException.class;
    private static final Class<IllegalStateException> STATE = IllegalStateException.class;
    private static final String DIGITS = "0123456789";

    private final Due due;

    private TextSentences(Due due) {
        this.due = due;
    }

    static void run(Sentences s) {
        TextSentences t = new TextSentences(s.due);
        s.section("Terms");
        s.saysNothing("Text.");
        t.orders(s);
        t.errors(s);
        t.append(s);
        t.clearText(s);
        t.carryOut(s);
    }

    private void orders(Sentences s) {
        s.holds("The text has at most 100 bytes.", () -> {
            TwoWires x = new TwoWires();
            Bench.type(x, "s1;".repeat(33));
            due.is("the hundredth byte", x.append('s'), 100);
            due.refuses("one more", STATE, () -> withText(100), y -> y.append('1'));
            due.is("all are read", x.carryOut(), -110);
        });
        s.holds("It is a sequence of orders,", () -> {
            good("s1;w0:5=6;r1:7*2;", 3);
            good("r1:7*2;w0:5=6;s1;", 3);
            good("s1;".repeat(33), 33);
            for (String done : new String[] {"", "s1;", "r0:1*1;", "w0:1=1;"}) {
                standsOnly(done, "wrs");
            }
        });
        s.holds("each terminated by a semicolon:", () -> {
            standsOnly("s123", ";");
            standsOnly("r0:1*2", ";");
            standsOnly("w0:1=2,3,4,005", ";");
            wrong("s1", 2);
            wrong("r0:1*1", 6);
            wrong("w0:1=1", 6);
            wrong("s1;;", 3);
            wrong("s1;s1", 5);
        });
        s.holds("\"w\", a caller digit 0 to 2,", () -> {
            standsOnly("w", "012");
            for (int c = 0; c < 3; c++) {
                TwoWires x = Bench.with(3);
                due.is("orders", Bench.carryOut(x, "w" + c + ":1=1;"), 1);
                due.is("a message of caller " + c, x.caller(c, 0), 1);
            }
        });
        s.holds("\":\", an address of one to three digits, 0 to 127,", this::addresses);
        s.holds("\"=\", and one to four bytes", this::countsOfBytes);
        s.holds("of one to three digits, 0 to 255, with commas between them, to queue a write;", this::bytes);
        s.holds("\"r\", a caller digit 0 to 2,", () -> {
            standsOnly("r", "012");
            for (int c = 0; c < 3; c++) {
                TwoWires x = Bench.with(3);
                due.is("orders", Bench.carryOut(x, "r" + c + ":1*1;"), 1);
                due.is("a message of caller " + c, x.caller(c, 0), 1);
            }
        });
        s.holds("\"*\", and a digit 1 to 4, to queue a read of so many bytes;", () -> {
            standsOnly("r0:123", "*");
            standsOnly("r0:1*", "1234");
            for (int count = 1; count <= 4; count++) {
                TwoWires x = new TwoWires();
                due.is("orders", Bench.carryOut(x, "r0:9*" + count + ";"), 1);
                due.is("the message", Bench.message(x, 0, 0), "9 1 " + count + " 0 -1 -1 -1 -1");
            }
        });
        s.holds("\"s\" and a number of slots of one to three digits, 1 to 200, to let slots pass.", () -> {
            standsOnly("s", "123456789");
            good("s01;", 1);
            standsOnly("s1", DIGITS + ";");
            standsOnly("s12", DIGITS + ";");
            standsOnly("s123", ";");
            for (int slots : new int[] {1, 9, 10, 99, 100, 199, 200}) {
                TwoWires x = new TwoWires();
                due.is("orders", Bench.carryOut(x, "s" + slots + ";"), 1);
                due.is("slots", x.value(0), slots);
            }
        });
    }

    private void errors(Sentences s) {
        s.holds("There are no spaces;", () -> {
            String text = "w0:12=3,4;r1:5*2;s12;";
            for (int at = 0; at <= text.length(); at++) {
                wrong(text.substring(0, at) + " " + text.substring(at), at);
            }
        });
        s.holds("there may be no orders.", () -> good("", 0));
        s.holds("Numbers can have zeros in front.", () -> {
            TwoWires x = new TwoWires();
            due.is("orders", Bench.carryOut(x, "w0:007=000,01,002;r0:01*1;s003;s04;"), 4);
            due.is("the write", Bench.message(x, 0, 0), "7 0 3 0 0 1 2 -1");
            due.is("the read", x.message(0, 1, 0), 1);
            due.is("slots", x.value(0), 7);
            good("w0:000=000;", 1);
            wrong("s0007;", 4);
            wrong("w0:0007=1;", 6);
            wrong("w0:1=0007;", 8);
        });
        s.holds("The syntax error position is the index of the first byte that cannot stand where it stands",
                this::firstWrongByte);
        s.holds("(a digit too many,", () -> {
            wrong("s1234", 4);
            wrong("s0000;", 4);
            wrong("s2010;", 4);
            wrong("s9999", 4);
            wrong("w0:1270=1;", 6);
            wrong("w0:9999=1;", 6);
            wrong("w0:1=2550;", 8);
            wrong("w0:1=1,9999;", 10);
            wrong("r0:0010*1;", 6);
            wrong("w00:1=1;", 2);
            wrong("r0:1*11;", 6);
        });
        s.holds("and a fifth byte of a write at the comma before it, too),", () -> {
            wrong("w0:1=1,2,3,4,5;", 12);
            wrong("w0:1=1,2,3,4,", 12);
            wrong("w0:1=1,2,3,4,999;", 12);
            wrong("w0:001=001,002,003,004,005;", 22);
            good("w0:1=1,2,3,4;", 1);
        });
        s.holds("or the length of the text if the text ends too early.", () -> {
            String text = "w0:12=3,45,255;r1:5*2;s12;";
            for (int length = 1; length < text.length(); length++) {
                if (text.charAt(length - 1) == ';') {
                    good(text.substring(0, length), length == 15 ? 1 : 2);
                } else {
                    wrong(text.substring(0, length), length);
                }
            }
            good(text, 3);
            wrong("s1;".repeat(33) + "s", 100);
            wrong("s1;".repeat(32) + "s123", 100);
        });
        s.holds("For a number that is out of its range it is the index of its first digit,", this::outOfRange);
        s.holds("found when a byte that is no digit, whichever it is, or the end of the text, follows it.", () -> {
            for (int sign = 0; sign < 128; sign++) {
                boolean digit = DIGITS.indexOf(sign) >= 0;
                wrong("s201" + (char) sign, digit ? 4 : 1);
                wrong("s0" + (char) sign, !digit ? 1 : sign == '0' ? 1 : 3);
                wrong("w0:128" + (char) sign, digit ? 6 : 3);
                wrong("r0:999" + (char) sign, digit ? 6 : 3);
                wrong("w0:1=256" + (char) sign, digit ? 8 : 5);
                wrong("w0:1=0,256" + (char) sign, digit ? 10 : 7);
                wrong("w0:1=0,1,2,999" + (char) sign, digit ? 14 : 11);
            }
            wrong("s201", 1);
            wrong("s0", 1);
            wrong("s000", 1);
            wrong("w0:128", 3);
            wrong("w0:1=256", 5);
            wrong("r0:200", 3);
        });
    }

    private static TwoWires withText(int length) {
        TwoWires x = new TwoWires();
        for (int i = 0; i < length; i++) {
            x.append("s1;".charAt(i % 3));
        }
        return x;
    }

    private void good(String text, int orders) {
        TwoWires x = Bench.with(3);
        due.is("carryOut() of " + text, Bench.carryOut(x, text), orders);
    }

    private void wrong(String text, int position) {
        TwoWires x = Bench.with(3);
        String before = Bench.all(x);
        due.is("carryOut() of " + text, Bench.carryOut(x, text), -10 - position);
        due.is("what it left", Bench.all(x), before);
        due.is("length of the text", x.clearText(), text.length());
        due.is("saved states", Bench.savedOf(x, 0), 1);
    }

    /** Behind the text that is given, none of the 128 bytes can stand but these; a text that ends there ends too early. */
    private void standsOnly(String text, String signs) {
        for (int sign = 0; sign < 128; sign++) {
            int got = Bench.carryOut(Bench.with(3), text + (char) sign);
            int stood = text.length();
            if (signs.indexOf(sign) >= 0) {
                due.holds("that the byte " + sign + " stands behind " + text, got >= 0 || got == -10 - (stood + 1));
            } else {
                due.is("the byte " + sign + " behind " + text, got, -10 - stood);
            }
        }
    }

    private void addresses() {
        for (String order : new String[] {"w", "r"}) {
            standsOnly(order + "0", ":");
            standsOnly(order + "0:", DIGITS);
            String behind = order.equals("w") ? "=" : "*";
            standsOnly(order + "0:1", DIGITS + behind);
            standsOnly(order + "0:10", DIGITS + behind);
            standsOnly(order + "0:127", behind);
            for (int address : new int[] {0, 9, 10, 99, 100, 126, 127}) {
                TwoWires x = new TwoWires();
                due.is("orders", Bench.carryOut(x, order + "1:" + address + behind + "1;"), 1);
                due.is("address", x.message(1, 0, 0), address);
            }
            for (int address : new int[] {128, 129, 199, 255, 999}) {
                wrong(order + "1:" + address + behind + "1;", 3);
            }
        }
    }

    private void countsOfBytes() {
        standsOnly("w0:1=", DIGITS);
        String[] bytes = {"", "1", "1,2", "1,2,3", "1,2,3,4"};
        String[] told = {"", "1 -1 -1 -1", "1 2 -1 -1", "1 2 3 -1", "1 2 3 4"};
        for (int count = 1; count <= 4; count++) {
            TwoWires x = new TwoWires();
            due.is("orders", Bench.carryOut(x, "w0:9=" + bytes[count] + ";"), 1);
            due.is("the message", Bench.message(x, 0, 0), "9 0 " + count + " 0 " + told[count]);
        }
        wrong("w0:9=;", 5);
        wrong("w0:9=1,2,3,4,5;", 12);
    }

    private void bytes() {
        standsOnly("w0:1=1", DIGITS + ",;");
        standsOnly("w0:1=12", DIGITS + ",;");
        standsOnly("w0:1=123", ",;");
        standsOnly("w0:1=1,", DIGITS);
        standsOnly("w0:1=1,2,3,", DIGITS);
        standsOnly("w0:1=1,2,3,4", DIGITS + ";");
        standsOnly("w0:1=1,2,3,123", ";");
        for (int value : new int[] {0, 9, 10, 99, 100, 127, 128, 254, 255}) {
            TwoWires x = new TwoWires();
            due.is("orders", Bench.carryOut(x, "w0:1=" + value + ";w1:1=0,0,0," + value + ";"), 2);
            due.is("the first byte", x.message(0, 0, 4), value);
            due.is("the fourth byte", x.message(1, 0, 7), value);
        }
        for (int value : new int[] {256, 257, 300, 999}) {
            wrong("w0:1=" + value + ";", 5);
            wrong("w0:1=0,0,0," + value + ";", 11);
        }
        wrong("w0:1=1,;", 7);
        wrong("w0:1=,1;", 5);
        wrong("w0:1=1,,1;", 7);
    }

    private void firstWrongByte() {
        wrong("x", 0);
        wrong(";", 0);
        wrong("W0:1=1;", 0);
        wrong("s1;x;y", 3);
        wrong("w3:1=1;", 1);
        wrong("r0:1=1;", 4);
        wrong("w0:1*1;", 4);
        wrong("r0:1*0;", 5);
        wrong("r0:1*5;", 5);
        wrong("s;", 1);
        wrong("s-1;", 1);
        wrong("w0:;", 3);
        wrong("s1;".repeat(33) + ";", 99);
        TwoWires x = new TwoWires();
        x.append(0);
        due.is("the byte 0", x.carryOut(), -10);
        due.is("the byte 0 behind an order", Bench.carryOut(x, "s1;\0"), -13);
    }

    private void outOfRange() {
        for (String number : new String[] {"0", "00", "000", "201", "255", "256", "999"}) {
            wrong("s" + number + ";", 1);
            wrong("s1;s" + number + ";", 4);
        }
        for (String number : new String[] {"128", "200", "999"}) {
            wrong("w0:" + number + "=1;", 3);
            wrong("r2:" + number + "*1;", 3);
            wrong("r0:1*1;r0:" + number + "*1;", 10);
        }
        for (String number : new String[] {"256", "300", "999"}) {
            wrong("w0:1=" + number + ";", 5);
            wrong("w0:1=255," + number + ";", 9);
            wrong("w0:1=1,1," + number + ",1;", 9);
            wrong("w0:1=1,1,1," + number + ";", 11);
        }
        good("s200;w0:127=255,255,255,255;r0:127*4;", 3);
    }

    private void append(Sentences s) {
        s.section("Promise 23: append");
        s.holds("Appends a byte to the text.", () -> {
            TwoWires x = new TwoWires();
            x.append('s');
            x.append('2');
            x.append(';');
            due.is("the text is read", x.carryOut(), 1);
            due.is("slots", x.value(0), 2);
            due.is("saved states, for append() saves none", Bench.savedOf(x, 3), 1);
        });
        s.holds("value: the byte, 0 to 127", () -> {
            TwoWires x = new TwoWires();
            due.is("the lowest", x.append(0), 1);
            due.is("the highest", x.append(127), 2);
        });
        s.holds("Returns the new length of the text.", () -> {
            TwoWires x = new TwoWires();
            for (int length = 1; length <= 100; length++) {
                due.is("length", x.append('s'), length);
            }
            x.clearText();
            due.is("length behind clearText()", x.append('s'), 1);
        });
        s.holds("Throws IllegalArgumentException if value is out of range", () -> {
            for (int wrong : new int[] {-1, 128, 255, Integer.MIN_VALUE, Integer.MAX_VALUE}) {
                due.refuses("append(" + wrong + ")", ARGUMENT, Bench::midway, x -> x.append(wrong));
                due.refuses("append(" + wrong + ") at first", ARGUMENT, TwoWires::new, x -> x.append(wrong));
            }
        });
        s.holds("Throws IllegalStateException if the text has 100 bytes", () -> {
            due.is("99 bytes", withText(99).append('s'), 100);
            due.refuses("100 bytes", STATE, () -> withText(100), x -> x.append('s'));
            TwoWires x = withText(100);
            x.clearText();
            due.is("100 bytes that were cleared", x.append('s'), 1);
        });
    }

    private void clearText(Sentences s) {
        s.section("Promise 24: clearText");
        s.holds("Empties the text.", () -> {
            TwoWires x = withText(99);
            x.clearText();
            due.is("no orders", x.carryOut(), 0);
            Bench.type(x, "s9;");
            due.is("one order", x.carryOut(), 1);
            due.is("slots", x.value(0), 9);
        });
        s.holds("Returns the length that it had.", () -> {
            for (int length : new int[] {0, 1, 99, 100}) {
                TwoWires x = withText(length);
                due.is("length", x.clearText(), length);
                due.is("length then", x.clearText(), 0);
                due.is("saved states, for clearText() saves none", Bench.savedOf(x, 0), 0);
            }
        });
    }

    private void carryOut(Sentences s) {
        s.section("Promise 25: carryOut");
        s.holds("Carries out the orders of the text,", () -> {
            TwoWires x = Bench.with(3);
            x.addListener(5, 0);
            due.is("orders", Bench.carryOut(x, "w0:5=1,2;r2:5*4;s30;w1:126=255;s2;"), 5);
            TwoWires y = Bench.with(3);
            y.addListener(5, 0);
            Bench.send(y, 0, 5, 1, 2);
            y.read(2, 5, 4);
            y.pass(30);
            Bench.send(y, 1, 126, 255);
            y.pass(2);
            due.is("all, as by calls", Bench.all(x), Bench.all(y));
            due.is("slots to come, as by calls", x.finish(), y.finish());
            due.is("all that comes, as by calls", Bench.all(x), Bench.all(y));
        });
        s.holds("up to the first one that would throw an exception (that one is not carried out).", this::ordersThatThrow);
        s.holds("The text stays as it is.", () -> {
            for (String text : new String[] {"", "s1;", "s1;w2:1=1;s1;", "s1;x"}) {
                TwoWires x = new TwoWires();
                int first = Bench.carryOut(x, text);
                due.is("the same again", x.carryOut(), first);
                due.is("length", x.clearText(), text.length());
            }
        });
        s.holds("Undoable (one saved state, also if no order is carried out), if there is no syntax error.", this::savesOne);
        s.holds("Returns the number of orders that are carried out;", () -> {
            good("", 0);
            good("s1;", 1);
            good("s1;s1;", 2);
            good("s1;".repeat(33), 33);
            good("r0:1*1;".repeat(14), 4);
        });
        s.holds("-10 minus the syntax error position if there is a syntax error", () -> {
            wrong("x", 0);
            wrong("s", 1);
            wrong("s1;".repeat(33) + "x", 99);
            wrong("s1;".repeat(33) + "s", 100);
        });
        s.holds("(then nothing changes).", () -> {
            String[] texts = {"s5;w0:1=1;s", "r0:1*1;s5;x", "r2:1*1;s201;"};
            int[] positions = {11, 10, 8};
            for (int i = 0; i < texts.length; i++) {
                TwoWires x = Bench.midway();
                String before = Bench.all(x);
                due.is("carryOut()", Bench.carryOut(x, texts[i]), -10 - positions[i]);
                due.is("all", Bench.all(x), before);
                x.clearText();
                Bench.type(x, "s7;");
                due.is("saved states", Bench.behind(x), Bench.behind(Bench.midway()));
            }
        });
    }

    private void ordersThatThrow() {
        TwoWires x = Bench.with(2);
        due.is("no such caller for a write", Bench.carryOut(x, "s3;w2:1=1;s4;"), 1);
        due.is("slots", x.value(0), 3);
        due.is("no such caller for a read", Bench.carryOut(x, "s3;r2:1*1;s4;"), 1);
        due.is("slots", x.value(0), 6);
        due.is("the last caller", Bench.carryOut(x, "w1:1=1;r1:1*1;"), 2);
        due.is("no caller 1 of 1", Bench.carryOut(Bench.with(1), "w0:1=1;w1:1=1;"), 1);
        TwoWires y = new TwoWires();
        String four = "r0:1*1;w0:2=2;r0:3*3;w0:4=4;";
        due.is("a full queue for a write", Bench.carryOut(y, four + "w0:5=5;s9;"), 4);
        due.is("messages", y.caller(0, 0), 4);
        due.is("the last one", y.message(0, 3, 0), 4);
        due.is("slots", y.value(0), 0);
        due.is("a full queue for a read", Bench.carryOut(y, "r1:9*1;r0:5*1;s9;"), 1);
        due.is("messages of the other", y.caller(1, 0), 1);
        due.is("slots before the throw make room", Bench.carryOut(y, "s10;r0:5*1;r0:6*1;s9;"), 2);
        due.is("messages", y.caller(0, 0), 4);
        due.is("slots", y.value(0), 10);
    }

    private void savesOne() {
        String[] texts = {"", "w2:1=1;", "s1;", "s1;r0:1*1;s30;w1:2=2;", "s1;".repeat(33)};
        for (String text : texts) {
            TwoWires x = new TwoWires();
            x.setLimit(2);
            String before = Bench.all(x);
            Bench.carryOut(x, text);
            due.is("saved states behind " + text, Bench.savedOf(x, text.length()), 2);
            due.is("undo()", x.undo(), 1);
            due.is("all", Bench.all(x), before);
            due.is("the text is not undone", x.clearText(), text.length());
        }
        TwoWires y = new TwoWires();
        Bench.carryOut(y, "s1;s");
        due.refuses("undo() behind a syntax error", STATE, y, y::undo);
        TwoWires z = new TwoWires();
        for (int i = 0; i < 6; i++) {
            Bench.carryOut(z, "s1;s1;");
        }
        for (int left = 3; left >= 0; left--) {
            due.is("undo()", z.undo(), left);
            due.is("slots", z.value(0), 4 + 2 * left);
        }
    }
}
