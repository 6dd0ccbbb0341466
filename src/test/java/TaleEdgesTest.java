/** Promises 15 to 24, each sentence that names a boundary by itself. */
public final class TaleEdgesTest {
    private static final int LAST_DAY = 10000;

    public static void main(String[] args) {
        lay();
        layAnewAndNot();
        layOfKnown();
        unlike();
        touch();
        mostTouches();
        left();
        leftOfAllDecoys();
        leftWay();
        next();
        tell();
        tellOfKnown();
        bear();
        bearFromNowOn();
        tales();
        talesAnew();
        day();
        lastDay();
        Checks.end();
    }

    private static void lay() {
        Script.holds("Promise 15: not PLAIN all", Script.FURNISHED,
            Script.each("!lay(_) false; look(2) 36; look(5) 1", "1 16 17 5 20 37 52 63"));
        Script.holds("Promise 15: no set of PLACES", Script.FURNISHED,
            Script.each("!lay(_) false", "MIN -36 -1 64 68 100 256 512 MAX"));
        Script.holds("Promise 15: nothing at all, and as much as can be", Script.FURNISHED, """
            lay(46) true; look(2) 46; lay(0) true; look(2) 0; lay(0) true; lay(2) true; look(2) 2
            !lay(47) false; !lay(62) false; !lay(64) false
            house(9); lay(511) true; look(2) 511; !lay(512) false; !lay(1023) false; house(8); !lay(256) false; lay(255) true
            house(2); lay(3) true; !lay(4) false; !lay(7) false
            """);
        Script.holds("Promise 15: what is no DECOY any more may be a GATE, then no DECOY", Script.FURNISHED, """
            !is(2, 1) false; lay(32); is(2, 1) true; !lay(36) false; !lay(4) false; is(2, 0) true; lay(36) true
            """);
    }

    private static void layAnewAndNot() {
        Script.holds("Promise 15: the TALE begins anew", Script.FURNISHED, """
            look(5) 1; left() 4; lay(36) true; look(5) 0; left() 6; tell() 0; tales(2) 1; touch(2) true; look(5) 1
            lay(38) true; look(5) 0; touch(5); lay(0) true; look(5) 0; lay(0) true
            """);
        Script.holds("Promise 15: a refused one leaves the TALE", Script.FURNISHED, """
            touch(5); !lay(1) false; !lay(64) false; look(5) 2; left() 2; !touch(2) false; tell() 2
            """);
    }

    private static void layOfKnown() {
        Script.holds("Promise 15: one KNOWN", Script.KNOWN, """
            !lay(32) false; !lay(36) false; !lay(46) false; touch(2); !lay(36) false; look(5) 1
            lay(4) true; !lay(32) false; lay(14) true; lay(0) true; !lay(32) false
            """);
        Script.holds("Promise 15, Terms: KNOWN for 10 DAYS", Script.KNOWN, """
            look(4) 1; 9* day(); look(4) 10; look(3) 32; !lay(36) false; !lay(32) false; day() 11; look(3) 0; lay(36) true
            """);
        Script.holds("Promise 15: all KNOWN", """
            bear(1); lay(3); touch(0); touch(1); tell() 2; !lay(3) false; !lay(1) false; !lay(2) false; lay(0) true; !lay(1) false
            """);
    }

    private static void unlike() {
        Script.holds("Promise 16: NONE if it is none", Script.FURNISHED,
            Script.each("!unlike(_) NONE", "MIN -1 0 1 3 4 6 7 9 32 34 37 MAX"), "unlike(2) 0; unlike(5) 1");
        Script.holds("Promise 16: there is no true one", """
            lay(3); !unlike(0) NONE; !unlike(1) NONE; lay(1); unlike(0) 0; !unlike(1) NONE; lay(2); unlike(1) 0
            house(9); lay(511); !unlike(0) NONE; !unlike(8) NONE; lay(510); unlike(8) 0; !unlike(0) NONE
            lay(255); unlike(0) 0; unlike(7) 0; !unlike(8) NONE; !unlike(9) NONE
            """);
        Script.holds("Promise 16, Terms: no mark, one, all", """
            lay(1); looks(0, 0); unlike(0) 0; looks(0, 128); unlike(0) 1; looks(0, 255); unlike(0) 8; looks(1, 1); unlike(0) 7
            """);
        Script.holds("Promise 16, Terms: the fewest, of true ones alone", """
            house(4); looks(0, 15); looks(1, 7); looks(2, 1); looks(3, 240)
            lay(1); unlike(0) 1; lay(3); unlike(0) 3; unlike(1) 2; lay(7); unlike(0) 8; unlike(2) 5
            is(3, 1); unlike(0) 8; is(3, 2); unlike(0) 8   # a GATE and a JEWEL are true ones
            """);
        Script.holds("Promise 16, Terms: of VISIBLE marks alone", """
            lay(1); looks(0, 255); visible(0); unlike(0) 0; visible(128); unlike(0) 1; visible(127); unlike(0) 7
            """);
        Script.holds("Promise 16: KNOWN ones are DECOYS still", Script.KNOWN, "unlike(5) 1; lay(4); !unlike(5) NONE; unlike(2) 0");
    }

    private static void touch() {
        Script.holds("Promise 17: no DECOY", Script.FURNISHED,
            Script.each("!touch(_) false; look(5) 1", "MIN -1 0 1 3 4 6 7 9 32 34 37 MAX"));
        Script.holds("Promise 17: it was touched already", Script.FURNISHED, """
            !touch(2) false; touch(5) true; !touch(2) false; !touch(5) false; look(5) 2
            bear(9); tell(); look(5) 0; touch(2) true; !touch(2) false; lay(4); touch(2) true; !touch(2) false
            """);
        Script.holds("Promise 17: none is laid", "!touch(0) false; !touch(1) false; !touch(2) false; !touch(-1) false");
        Script.holds("Promise 17: a KNOWN DECOY is touched like another, one that was laid away is not", Script.KNOWN, """
            touch(5) true; !touch(5) false; look(5) 1; lay(4); !touch(5) false; touch(2) true
            """);
        Script.holds("Promise 17: the least and the greatest PLACE", """
            house(9); lay(257); touch(0) true; touch(8) true; !touch(9) false; !touch(-1) false; !touch(0) false; !touch(8) false
            """);
    }

    private static void mostTouches() {
        Script.holds("Promise 17: there were 6", """
            house(9); lay(511); touch(8) true; touch(7) true; touch(6) true; touch(5) true; touch(4) true; look(5) 5
            !touch(8) false; touch(3) true; look(5) 6
            !touch(2) false; !touch(1) false; !touch(0) false; !touch(3) false; !touch(9) false; look(5) 6
            tell() 0; tales(2) 0; tales(3) 1; touch(2) true; look(5) 1
            """);
        Script.holds("Promise 17: six are all", """
            house(6); lay(63); touch(0); touch(1); touch(2); touch(3); touch(4); touch(5) true; !touch(5) false; look(5) 6
            """);
    }

    // The WAYS of the furnished house: 0: 01234, 1: 012354, 2: 0134, 3: 01354, 4: 0234, 5: 02354.

    private static void left() {
        Script.holds("Promise 18, Terms: all are LEFT if none was touched", Script.FURNISHED, """
            lay(36); left() 6; lay(46); left() 6; lay(0); left() 6
            """);
        Script.holds("Promise 18: nothing is there", "left() 0; lay(3); left() 0; touch(0); left() 0; touch(1); left() 0");
        Script.holds("Promise 18, Terms: none is LEFT", Script.FURNISHED, """
            lay(36); touch(5); left() 1; touch(2); left() 0; !leftWay(0) NONE; next() 0
            """);
        Script.holds("Promise 18, Terms: none of the others up to the last touched one", Script.FURNISHED, """
            lay(44); touch(5); left() 0; lay(44); touch(3); left() 2; leftWay(0) 2; leftWay(1) 3; touch(5); left() 1; leftWay(0) 3
            lay(10); touch(3); left() 2; leftWay(0) 4; leftWay(1) 5
            """);
        Script.holds("Promise 18, Terms: what comes behind it is open", Script.FURNISHED, """
            lay(46); touch(1); left() 4; touch(2); left() 2; touch(3); left() 2; touch(5); left() 1; leftWay(0) 1
            """);
        Script.holds("Promise 18, Terms: a DECOY that is on no WAY", """
            house(4); is(0, 1); is(2, 2); doors 01 12; lay(10); left() 1; touch(1); left() 1; touch(3); left() 0
            lay(10); touch(3); left() 0; lay(8); left() 1
            """);
        Script.holds("Promise 18, Terms: DOORS and kinds as they are when it is asked", Script.FURNISHED, """
            left() 4; door(0, 2, false); left() 2; is(1, 1); left() 4; is(0, 0); left() 2; is(4, 0); left() 0
            """);
    }

    private static void leftOfAllDecoys() {
        // Of a WAY of six PLACES four can be DECOYS: the JEWEL and the first GATE are none.
        Script.holds("Promise 18: the longest WAY, all of its DECOYS told", """
            house(6); is(0, 1); is(5, 2); doors 01 12 23 34 45; lay(30)
            touch(1); left() 1; touch(2); left() 1; touch(3); left() 1; touch(4); left() 1; next() 32
            lay(30); touch(1); touch(2); touch(4); left() 0; touch(3); left() 0
            """);
        Script.holds("Promise 18: more DECOYS told than a WAY can have", """
            house(9); is(0, 1); is(8, 2); doors 01 12 23 34 48 58 68; lay(254)
            touch(1); touch(2); touch(3); touch(4); left() 1; touch(5); left() 0; touch(6); left() 0; next() 0; !leftWay(0) NONE
            """);
    }

    private static void leftWay() {
        Script.holds("Promise 19: none such", Script.FURNISHED, "lay(36); touch(2)",
            Script.each("!leftWay(_) NONE", "MIN -1 4 5 6 2000 MAX"), """
            leftWay(0) 0; leftWay(1) 1; leftWay(2) 4; leftWay(3) 5
            """);
        Script.holds("Promise 19: all are LEFT", Script.FURNISHED, """
            lay(36); leftWay(0) 0; leftWay(5) 5; !leftWay(6) NONE; !leftWay(-1) NONE
            """);
        Script.holds("Promise 19: nothing is there", "!leftWay(0) NONE; !leftWay(-1) NONE; !leftWay(1) NONE");
    }

    private static void next() {
        Script.holds("Promise 20: nothing is there", "next() 0; lay(1); touch(0); next() 0");
        Script.holds("Promise 20, Terms: the first ones, if none was touched", Script.FURNISHED, """
            lay(36); next() 1; is(1, 1); next() 3; is(3, 1); next() 11; is(0, 0); next() 10; is(4, 0); next() 0
            """);
        Script.holds("Promise 20, Terms: right behind the last touched one", Script.FURNISHED, """
            lay(36); touch(2); next() 8; touch(5); next() 16; lay(8); touch(3); next() 48; doors 31; next() 48; doors 14; next() 50
            """);
        Script.holds("Promise 20, Terms: a DECOY, a GATE and a JEWEL behind it", """
            house(5); is(0, 1); is(3, 1); is(4, 2); doors 01 12 13 14 24 34; lay(6); touch(1); next() 28
            touch(2); next() 16
            """);
        Script.holds("Promise 20, Terms: none is LEFT", Script.FURNISHED, "lay(46); touch(3); left() 0; next() 0");
    }

    private static void tell() {
        Script.holds("Promise 21: a TALE of none", Script.FURNISHED, "lay(36); !tell() 0; look(3) 0; look(5) 0; tales(2) 1");
        Script.holds("Promise 21: it begins anew", Script.FURNISHED, """
            look(5) 1; left() 4; tell() 1; look(5) 0; left() 6; next() 1; !tell() 0; touch(2) true
            """);
        Script.holds("Promise 21: as many TALES as it BEARS, and one fewer", Script.FURNISHED, """
            lay(0); lay(36); bear(3); touch(5); tell() 0; tales(5) 1; touch(5); tell() 0; tales(5) 2; look(3) 0
            touch(5); tales(5) 2; tell() 1; tales(5) 0; look(3) 32
            """);
        Script.holds("Promise 21: all six of a TALE", """
            house(9); bear(2); lay(511); touch(8); touch(0); touch(3); touch(4); touch(5); touch(6); tell() 0
            touch(6); touch(5); touch(4); touch(3); touch(0); touch(8); tell() 6; look(3) 377; look(2) 511
            """);
        Script.holds("Promise 21: some of a TALE", """
            house(5); bear(2); lay(31); touch(0); touch(4); tell() 0; touch(1); touch(4); touch(0); touch(2); tell() 2
            look(3) 17; tales(1) 1; tales(2) 1; tales(3) 0; tales(0) 0; tales(4) 0
            """);
        Script.holds("Promise 21: they are DECOYS still", Script.KNOWN, """
            look(2) 36; look(3) 32; touch(5) true; unlike(5) 1; !is(5, 0) false
            """);
        Script.holds("Promise 21: what is not told does not count", Script.FURNISHED, """
            lay(36); tales(2) 1; touch(2); tales(2) 1; lay(36); tales(2) 1; touch(2); day(); tales(2) 1; tell() 1
            """);
    }

    private static void tellOfKnown() {
        Script.holds("Promise 21, Terms: KNOWN for 10 DAYS, until as many have gone by", Script.KNOWN, """
            look(4) 1; look(3) 32; day() 2; look(3) 32; 7* day(); look(3) 32; day() 10; look(3) 32; day() 11; look(3) 0; day() 12; look(3) 0
            """);
        Script.holds("Promise 21, Terms: each for its own 10 DAYS", Script.KNOWN, """
            4* day(); touch(2); tell() 1; look(3) 36; 5* day(); look(3) 36; day() 11; look(3) 4; 3* day(); look(3) 4; day() 15; look(3) 0
            """);
        Script.holds("Promise 21: a KNOWN one is touched in as many TALES again", Script.KNOWN, """
            4* day(); touch(5); tell() 0; tales(5) 1; touch(5); tell() 1; tales(5) 0; look(3) 32
            6* day(); look(4) 11; look(3) 32; 3* day(); look(3) 32; day() 15; look(3) 0
            """);
        Script.holds("Promise 21: it can be KNOWN again afterwards", Script.KNOWN, """
            10* day(); look(3) 0; touch(5); tell() 0; touch(5); tell() 1; look(3) 32; 9* day(); look(3) 32; day(); look(3) 0
            """);
    }

    private static void bear() {
        Script.holds("Promise 22, Terms: 1 .. 9", Script.FURNISHED,
            Script.each("!bear(_) false; look(7) 2", "MIN -1 0 10 11 MAX"), """
            bear(1) true; look(7) 1; !bear(0) false; bear(9) true; look(7) 9; !bear(10) false; bear(9) true
            """);
        Script.holds("Promise 22: one TALE", """
            bear(1) true; lay(1); touch(0); tell() 1; look(3) 1
            """);
        Script.holds("Promise 22: nine TALES", "bear(9) true; lay(1)",
            Script.each("touch(0); tell() 0; tales(0) _", "1 2 3 4 5 6 7 8"), "look(3) 0; touch(0); tell() 1; look(3) 1; tales(0) 0");
        Script.holds("Promise 22: KNOWN ones stay KNOWN", Script.KNOWN, """
            bear(9) true; look(3) 32; bear(1) true; look(3) 32; !bear(0) false; !bear(10) false; 9* day(); look(3) 32; day(); look(3) 0
            """);
    }

    private static void bearFromNowOn() {
        Script.holds("Promise 22: fewer from now on", """
            bear(9); lay(3); touch(0); touch(1); tell(); touch(0); touch(1); tell(); touch(0); touch(1); tell() 0; tales(0) 3
            bear(2) true; look(3) 0; tales(0) 3; touch(1); tell() 1; look(3) 2; tales(0) 3; !tell() 0; touch(0); tell() 1; look(3) 3
            """);
        Script.holds("Promise 22: as many as were told already", """
            bear(9); lay(1); touch(0); tell(); touch(0); tell() 0; bear(2) true; look(3) 0; !tell() 0; touch(0); tell() 1
            """);
        Script.holds("Promise 22: more from now on", """
            bear(2); lay(1); touch(0); tell() 0; touch(0); bear(3) true; tell() 0; tales(0) 2; touch(0); tell() 1
            """);
        Script.holds("Promise 22: what is touched stays touched", Script.FURNISHED, "bear(9) true; look(5) 1; tell() 0; tales(2) 2");
    }

    private static void tales() {
        Script.holds("Promise 23: NONE if there is none such", Script.FURNISHED,
            Script.each("!tales(_) NONE", "MIN -1 6 7 9 32 37 MAX"), """
            tales(0) 0; tales(1) 0; tales(3) 0; tales(4) 0; tales(2) 1; tales(5) 1
            """);
        Script.holds("Promise 23: the least and the greatest PLACE", """
            !tales(2) NONE; !tales(-1) NONE; tales(1) 0; house(9); lay(257); touch(0); touch(8); tell() 0
            tales(0) 1; tales(8) 1; !tales(9) NONE; house(8); tales(7) 0; !tales(8) NONE
            """);
        Script.holds("Promise 23: once in a TALE", Script.FURNISHED, """
            bear(9); touch(5); !touch(5) false; !touch(2) false; tell() 0; tales(5) 2; tales(2) 2
            """);
    }

    private static void talesAnew() {
        Script.holds("Promise 23: since it became a DECOY", Script.FURNISHED, """
            lay(44); tales(2) 1; tales(5) 1; tales(3) 0; lay(8); tales(2) 0; tales(5) 0; lay(44); tales(2) 0; tales(5) 0
            touch(5); tell() 0; tales(5) 1; !lay(1) false; tales(5) 1
            """);
        Script.holds("Promise 23: the first and the last PLACE, too", """
            house(9); lay(257); touch(8); touch(0); tell(); tales(0) 1; tales(8) 1; lay(16); tales(0) 0; tales(8) 0
            lay(257); tales(0) 0; tales(8) 0; touch(0); tell(); lay(1); tales(0) 1; lay(511); tales(0) 1
            """);
        Script.holds("Promise 23: or was KNOWN last", Script.KNOWN, """
            tales(5) 0; tales(2) 1; touch(5); tell() 0; tales(5) 1; 10* day(); look(3) 0; tales(5) 1
            """);
    }

    private static void day() {
        Script.holds("Promise 24: the new one", Script.FURNISHED, "look(4) 1; day() 2; look(4) 2; day() 3; look(5) 1; left() 4",
            "house(6); look(4) 0; day() 1");
    }

    /** More calls than an object is used for, as no fewer come to the last DAY. */
    private static void lastDay() {
        DecoyHouse x = Checks.furnished();
        Checks.days(x, LAST_DAY - 1 - x.look(4));
        Checks.due("Promise 24: the last but one", x.look(4), LAST_DAY - 1);
        Checks.taleOf(x, 5);
        Checks.due("Promise 24: 10000 at most", x.day(), LAST_DAY);
        String before = Checks.state(x);
        for (int i = 0; i < 12; i++) {
            Checks.due("Promise 24: NONE then", x.day(), DecoyHouse.NONE);
            Checks.same("Promise 24: and nothing is done", Checks.state(x), before);
        }
        Checks.due("Promise 24: look(4)", x.look(4), LAST_DAY);
        Checks.due("Promise 24: KNOWN stays KNOWN", x.look(3), 32);
        Checks.yes("Promise 24: a HOUSE anew", x.house(2));
        Checks.due("Promise 24: DAY 1 anew", x.day(), 1);
    }
}
