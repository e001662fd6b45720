/** Texts with their first FAULT: its number and its place (promises 3 and 4). */
public final class FaultTest {
    private static void faulty(String text, int kind, int place) {
        ChoiceBook x = Check.told("part go 0;part win;");
        int answer = Check.feed(x, text).book();
        Check.due("book() of '" + text + "'", answer, -10 - kind);
        Check.due("fault() of '" + text + "'", x.fault(), place);
        Check.due("the book of before behind '" + text + "'", x.count(0) * 10 + x.count(1), 21);
        Check.due("text behind '" + text + "'", x.count(4), 0);
    }

    private static void sound(String text, int parts) {
        ChoiceBook x = new ChoiceBook();
        Check.due("book() of '" + text + "'", Check.feed(x, text).book(), parts);
        Check.due("fault() of '" + text + "'", x.fault(), -1);
    }

    private static String repeated(String piece, int times) {
        return piece.repeat(times);
    }

    public static void main(String[] args) {
        misplaced();
        atTheEnd();
        badNumbers();
        tooMany();
        noSuchPart();
        firstAndLeast();
        withoutFault();
        Check.end();
    }

    private static void misplaced() {
        faulty(";", 1, 0);
        faulty("5", 1, 0);
        faulty("123", 1, 0);
        faulty("win;", 1, 0);
        faulty("heal 5;", 1, 0);
        faulty("healthy 5;", 1, 0);
        faulty("parts;", 1, 0);
        faulty("Part;", 1, 0);
        faulty("cart;", 1, 0);
        faulty("parz;", 1, 0);
        faulty("partz;", 1, 0);
        faulty("parta;", 1, 0);
        faulty("dealth 5;", 1, 0);
        faulty("part bake 1;", 1, 5);
        faulty("part pie;", 1, 5);
        faulty("part toll 2 0 0;", 1, 5);
        faulty("part no 0;", 1, 5);
        faulty("part go 0 pith 1;", 1, 10);
        faulty("paRt;", 1, 0);
        faulty("partX;", 1, 4);
        faulty("part\t;", 1, 4);
        faulty("part\n;", 1, 4);
        faulty("part" + (char) 0 + ";", 1, 4);
        faulty("part" + (char) 233 + ";", 1, 4);
        faulty("part" + (char) 255 + ";", 1, 4);
        faulty("part`;", 1, 4);
        faulty("part{;", 1, 4);
        faulty("part/;", 1, 4);
        faulty("part:;", 1, 4);
        faulty("part;;", 1, 5);
        faulty("part; go 0;", 1, 6);
        faulty("partgo 0;", 1, 0);
        faulty("par t;", 1, 0);
        faulty("part 5;", 1, 5);
        faulty("part part;", 1, 5);
        faulty("part health 5;", 1, 5);
        faulty("part takes 5;", 1, 5);
        faulty("part take;", 1, 9);
        faulty("part take x;", 1, 10);
        faulty("part take take 1;", 1, 10);
        faulty("part take 1 1;", 1, 12);
        faulty("part take -1;", 1, 10);
        faulty("part win win;", 1, 9);
        faulty("part win hurt 1;", 1, 9);
        faulty("part die go 0;", 1, 9);
        faulty("part win 1;", 1, 9);
        faulty("part go 0 win;", 1, 10);
        faulty("part go 0 hurt 1;", 1, 10);
        faulty("part go 0 roll 2 0 0;", 1, 10);
        faulty("part go 0 0;", 1, 10);
        faulty("part go 0 with;", 1, 14);
        faulty("part go 0 with 1 with 2;", 1, 17);
        faulty("part go 0 without 1 with 2;", 1, 20);
        faulty("part go 0 without 1 without 2;", 1, 20);
        faulty("part with 1;", 1, 5);
        faulty("part roll 2 0;", 1, 13);
        faulty("part roll 2;", 1, 11);
        faulty("part roll 2 0 0 0;", 1, 16);
        faulty("part roll 2 0 0 go 0;", 1, 16);
        faulty("part roll 2 0 0 with 1;", 1, 16);
        faulty("health;", 1, 6);
        faulty("health x;", 1, 7);
        faulty("health 5", 1, 8);
        faulty("health 5 part;", 1, 9);
        faulty("health 5 5;", 1, 9);
    }

    private static void atTheEnd() {
        faulty("part", 1, 4);
        faulty("part  ", 1, 6);
        faulty("par", 1, 0);
        faulty("  par", 1, 2);
        faulty("part go", 1, 7);
        faulty("part go 0", 1, 9);
        faulty("part go 0 ", 1, 10);
        faulty("part take", 1, 9);
        faulty("part roll 2 0 0", 1, 15);
        faulty("part;part win", 1, 13);
        faulty("health", 1, 6);
        faulty(repeated(" ", 596) + "part", 1, 600);
        faulty(repeated(" ", 599) + "!", 1, 599);
    }

    private static void badNumbers() {
        faulty("health 0;", 2, 7);
        faulty("health 10;", 2, 7);
        faulty("health 005;", 2, 7);
        faulty("health 00;", 2, 7);
        faulty("part take 8;", 2, 10);
        faulty("part drop 8;", 2, 10);
        faulty("part drop 10;", 2, 10);
        faulty("part hurt 0;", 2, 10);
        faulty("part heal 0;", 2, 10);
        faulty("part hurt 10;", 2, 10);
        faulty("part heal 99;", 2, 10);
        faulty("part heal 100;", 2, 10);
        faulty("part heal 4294967297;", 2, 10);
        faulty("part roll 1 0 0;", 2, 10);
        faulty("part roll 7 0 0;", 2, 10);
        faulty("part roll 2 24 0;", 2, 12);
        faulty("part roll 2 0 24;", 2, 14);
        faulty("part roll200;", 2, 9);
        faulty("part roll20 0;", 2, 9);
        faulty("part go 24;", 2, 8);
        faulty("part go 000;", 2, 8);
        faulty("part go 0 with 8;", 2, 15);
        faulty("part go 0 without 8;", 2, 18);
        faulty("part go 0 with 1 without 007;", 2, 25);
        faulty("part go " + repeated("0", 590) + ";", 2, 8);
    }

    private static void tooMany() {
        faulty("health 5;health 5;", 3, 9);
        faulty("health 5;part; health", 3, 15);
        faulty("part take 0 drop 0 hurt 1 heal 1 take 0;", 3, 33);
        faulty("part take 0 drop 0 hurt 1 heal 1 heal", 3, 33);
        faulty("part" + repeated(" go 0", 7) + ";", 3, 35);
        faulty("part" + repeated(" go 0", 6) + "go", 3, 34);
        faulty(repeated("part;", 25), 3, 120);
        faulty(repeated("part;", 24) + "  part take 9", 3, 122);
    }

    private static void noSuchPart() {
        faulty("part go 1;", 4, 8);
        faulty("part go 0 go 01;", 4, 13);
        faulty("part roll 2 1 0;", 4, 12);
        faulty("part roll 2 0 23;", 4, 14);
        faulty("part go 0;part go 2;part go 3;part go 4;", 4, 38);
        faulty("part go 3;part go 2;", 4, 8);
        faulty("part go 0 with 1 without 2 go 5 go 6;", 4, 30);
        faulty(repeated("part;", 22) + "part go 23;", 4, 118);
    }

    private static void firstAndLeast() {
        faulty("part go 9;part take 9;", 2, 20);
        faulty("part go 9;part", 1, 14);
        faulty("part go 9;health 1;health 1;", 3, 19);
        faulty("health 0;health 0;", 2, 7);
        faulty("part take 9 take 9 take 9 take 9 take 9;", 2, 10);
        faulty("part" + repeated(" go 0", 6) + " 100;", 1, 35);
        faulty("part" + repeated(" go 0", 6) + " gone;", 1, 35);
        faulty("part take 0 drop 0 hurt 1 heal 1 taken 0;", 1, 33);
        faulty(repeated("part;", 24) + "parts;", 1, 120);
        faulty("part go 100 100;", 2, 8);
    }

    private static void withoutFault() {
        sound("", 0);
        sound("     ", 0);
        sound("health 1;", 0);
        sound("health 9;part;", 1);
        sound(repeated("part;", 24), 24);
        sound(repeated("part;", 23) + "part go 23;", 24);
        sound("part take0drop7hurt1heal9win;part die;part roll6 2 0;part go0with0without7go1;", 4);
        sound("part " + repeated("go0", 6) + ";", 1);
        sound(repeated(" ", 595) + "part;", 1);
        sound("  part  take  1  hurt  02  go  0  without  3  ;  health  03  ;  ", 1);
        sound("part go 1;part go 0;", 2);
    }
}
