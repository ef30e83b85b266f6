// For each promise of the document: ordinary inputs, the edges that it names, and wrong inputs.
public final class NetDeskPromises {
  private static int wrong = 0;
  private static int asked = 0;
  private static String promise = "";

  public static void main(String[] args) {
    promise = "1, a new object"; newObject();
    promise = "2, feed"; feed();
    promise = "3, end"; end();
    promise = "4, out"; out();
    promise = "texts: bytes and the tape"; texts();
    promise = "5, resolve"; forms(); dots(); limits();
    promise = "6, base"; base();
    promise = "7, server"; server(); serverWrong(); serverMost();
    promise = "8, fetch"; fetch(); follow(); followMost(); kept(); keptMost(); cookies();
    promise = "9, body"; body();
    promise = "10, tick"; tick();
    promise = "11, forget"; forget();
    promise = "12, write"; write();
    promise = "13, count"; count();
    promise = "no call throws"; edgesOfInts();
    System.out.println(asked + " answers asked for, " + wrong + " not as due");
    if (wrong != 0) System.exit(1);
  }

  // How the tests speak to the desk.

  private static void due(String call, Object got, Object want) {
    asked++;
    if (!want.equals(got)) {
      wrong++;
      System.out.println("promise " + promise + ": " + call + " answered <" + got + ">, due is <" + want + ">");
    }
  }

  private static void due(String call, int got, int want) {
    due(call, Integer.valueOf(got), Integer.valueOf(want));
  }

  /** Puts the text alone on the tape. */
  private static NetDesk put(NetDesk x, String text) {
    x.end(0);
    for (int i = 0; i < text.length(); i += 20) {
      int[] word = new int[5];
      for (int j = 0; j < 20; j++) {
        int b = i + j < text.length() ? text.charAt(i + j) : 0;
        word[j / 4] = word[j / 4] << 8 | b;
      }
      x.feed(word[0], word[1], word[2], word[3], word[4]);
    }
    x.end(text.length());
    return x;
  }

  private static String out(NetDesk x) {
    StringBuilder b = new StringBuilder();
    for (int i = 0; x.out(i) != NetDesk.NONE; i++) b.append((char) x.out(i));
    return b.toString();
  }

  private static String written(NetDesk x, int what) {
    int n = x.write(what);
    String s = out(x);
    return n == s.length() ? s : "answered " + n + " for " + s;
  }

  private static String resolved(NetDesk x, String reference) {
    int n = put(x, reference).resolve();
    if (n < 0) return Integer.toString(n);
    String s = out(x);
    return n == s.length() ? s : "answered " + n + " for " + s;
  }

  private static String bodyOf(NetDesk x) {
    StringBuilder b = new StringBuilder();
    for (int i = 0; x.body(i) != NetDesk.NONE; i++) b.append((char) x.body(i));
    return b.toString();
  }

  private static int base(NetDesk x, String text) { return put(x, text).base(); }
  private static int server(NetDesk x, String text) { return put(x, text).server(); }
  private static int fetch(NetDesk x, String text) { return put(x, text).fetch(); }
  private static int forget(NetDesk x, String text) { return put(x, text).forget(); }

  private static NetDesk desk(String... servers) {
    NetDesk x = new NetDesk();
    for (String s : servers) if (server(x, s) < 0) due("server " + s, "refused", "taken");
    return x;
  }

  /** On a desk of its own: nothing is promised behind a desk's 512th call. */
  private static String resolved(String base, String reference) {
    return resolved(deskAt(base), reference);
  }

  private static NetDesk deskAt(String base) {
    NetDesk x = new NetDesk();
    if (base(x, base) < 1) due("base " + base, "refused", "taken");
    return x;
  }

  // The promises.

  private static void newObject() {
    NetDesk x = new NetDesk();
    due("NONE", NetDesk.NONE, -1);
    for (int what = 0; what <= 7; what++) due("count " + what, x.count(what), 0);
    due("out(0)", x.out(0), -1);
    due("body(0)", x.body(0), -1);
    due("write(0)", written(x, 0), "//home/");
    due("write(1)", written(x, 1), "");
    due("write(2)", written(x, 2), "");
    due("write(3)", written(x, 3), "");
    due("end(1)", x.end(1), -1);
    due("end(0)", x.end(0), 0);
  }

  private static void feed() {
    NetDesk x = new NetDesk();
    due("first", x.feed(0x61626364, 0x65666768, 0x2F2E2D5F, 0x30313233, 0x78797A2F), 20);
    due("its bytes", x.end(20), 20);
    due("resolve", x.resolve(), 27);
    x.feed(0x61626364, 0x65666768, 0x2F2E2D5F, 0x2F303132, 0x7778797A);
    x.resolve();
    due("in order", out(x), "//home/abcdefgh/.-_/012wxyz");
    x = new NetDesk();
    for (int i = 1; i <= 100; i++) due("feed", x.feed(0, 0, 0, 0, 0), 20 * i);
    due("beyond 2000", x.feed(0, 0, 0, 0, 0), -1);
    due("none came", x.end(2001), -1);
    due("all are there", x.end(2000), 2000);
    due("one less", x.end(1981), 1981);
    due("beyond by one", x.feed(0, 0, 0, 0, 0), -1);
    due("still there", x.end(1981), 1981);
    due("to 1980", x.end(1980), 1980);
    due("2000 again", x.feed(0, 0, 0, 0, 0), 2000);
    x.end(0);
    due("negative ints", x.feed(-1, 0, 0, 0, 0), 20);
    due("their bytes are wrong", x.resolve(), -1000);
    x.feed(0x612F62FF, 0, 0, 0, 0);
    due("the lowest byte", x.resolve(), -1003);
    put(x, "ab");
    x.feed(0x63640000, 0, 0, 0, 0);
    x.end(4);
    x.resolve();
    due("behind those there", out(x), "//home/abcd");
  }

  private static void end() {
    NetDesk x = new NetDesk();
    due("end(0) of none", x.end(0), 0);
    due("end(1) of none", x.end(1), -1);
    due("end(-1)", x.end(-1), -1);
    x.feed(0x61626364, 0, 0, 0, 0);
    due("end(21)", x.end(21), -1);
    due("end(20)", x.end(20), 20);
    due("end(-1)", x.end(-1), -1);
    due("end(2)", x.end(2), 2);
    due("end(3), they are gone", x.end(3), -1);
    due("resolve", x.resolve(), 9);
    due("the first alone", out(x), "//home/ab");
  }

  private static void out() {
    NetDesk x = new NetDesk();
    due("at first", x.out(0), -1);
    due("resolve", resolved(x, "a"), "//home/a");
    due("out(-1)", x.out(-1), -1);
    due("out(0)", x.out(0), '/');
    due("out(7)", x.out(7), 'a');
    due("out(8)", x.out(8), -1);
    due("NO ADDRESS", resolved(x, "A"), "-1");
    due("the out stays", out(x), "//home/a");
    due("WRONG", resolved(x, "\t"), "-1000");
    due("the out stays", out(x), "//home/a");
    due("write(4)", x.write(4), -1);
    due("the out stays", out(x), "//home/a");
    base(x, "b");
    due("base writes nothing", out(x), "//home/a");
    x.write(1);
    due("nothing is written", out(x), "");
    due("nothing is there", x.out(0), -1);
  }

  private static void texts() {
    for (char c : new char[] {0, 9, 11, 31, 127, 128, 255}) {
      String bad = "//A \n" + c + c;
      NetDesk x = new NetDesk();
      due("resolve with byte " + (int) c, put(x, bad).resolve(), -1005);
      due("base with byte " + (int) c, base(x, bad), -1005);
      due("server with byte " + (int) c, server(x, bad), -1005);
      due("fetch with byte " + (int) c, fetch(x, bad), -1005);
      due("forget with byte " + (int) c, forget(x, bad), -1005);
    }
    for (char c : new char[] {10, 32, 126}) {
      NetDesk x = new NetDesk();
      due("resolve with byte " + (int) c, resolved(x, "a" + c), "-1");
      due("base with byte " + (int) c, base(x, "a" + c), -1);
      due("fetch with byte " + (int) c, fetch(x, "a" + c), -1);
      due("forget with byte " + (int) c, forget(x, "a" + c), -1001);
      due("body with byte " + (int) c, server(x, "//a/\n" + c), 1);
    }
    String[] texts = {"a", "A", "\0"};
    for (String text : texts) {
      NetDesk x = new NetDesk();
      put(x, text).resolve();
      due("the tape behind resolve " + text, x.end(1), -1);
      base(x, text);
      due("the tape behind base " + text, x.end(1), -1);
      server(x, text);
      due("the tape behind server " + text, x.end(1), -1);
      fetch(x, text);
      due("the tape behind fetch " + text, x.end(1), -1);
      forget(x, text);
      due("the tape behind forget " + text, x.end(1), -1);
    }
    NetDesk x = desk("//a/\nx");
    due("the tape behind server", x.end(1), -1);
    put(x, "abc");
    x.write(0);
    x.count(0);
    x.tick(1);
    x.out(0);
    x.body(0);
    due("the tape behind calls without a text", x.end(3), 3);
  }

  private static void forms() {
    String base = "//shop/a/b/c?q=1#m";
    due("all of it", resolved(base, "//s/d/e?f#g"), "//s/d/e?f#g");
    due("a site alone", resolved(base, "//s"), "//s/");
    due("a site and /", resolved(base, "//s/"), "//s/");
    due("a site and a query", resolved(base, "//s?x"), "//s/?x");
    due("a site and a mark", resolved(base, "//s#x"), "//s/#x");
    due("a path", resolved(base, "/d/e"), "//shop/d/e");
    due("a path and a query", resolved(base, "/d?y"), "//shop/d?y");
    due("an empty path", resolved(base, "/"), "//shop/");
    due("a path with a mark", resolved(base, "/#k"), "//shop/#k");
    due("empty segments", resolved(base, "/d///e/"), "//shop/d///e/");
    due("segments", resolved(base, "d/e"), "//shop/a/b/d/e");
    due("segments with an empty last", resolved(base, "d/"), "//shop/a/b/d/");
    due("segments, a query, a mark", resolved(base, "d?e#f"), "//shop/a/b/d?e#f");
    due("a query", resolved(base, "?z"), "//shop/a/b/c?z");
    due("an empty query", resolved(base, "?"), "//shop/a/b/c?");
    due("a query and a mark", resolved(base, "?#n"), "//shop/a/b/c?#n");
    due("a mark", resolved(base, "#n"), "//shop/a/b/c?q=1#n");
    due("nothing", resolved(base, ""), "//shop/a/b/c?q=1");
    NetDesk x = deskAt(base);
    resolved(x, "//s/d/e?f#g");
    due("the base stays", written(x, 0), "//shop/a/b/c?q=1#m");
    base = "//shop/a/";
    due("in place of an empty last", resolved(base, "d"), "//shop/a/d");
    due("nothing, without a query", resolved(base, ""), "//shop/a/");
    base = "//shop?";
    due("an empty query of the base", resolved(base, ""), "//shop/?");
    due("no query behind a segment", resolved(base, "a"), "//shop/a");
    due("all bytes of segments", resolved(base, "/az09._-"), "//shop/az09._-");
    due("all bytes of queries", resolved(base, "?az09._-=&+"), "//shop/?az09._-=&+");
    for (String no : new String[] {"//", "///", "///a", "//9", "//9/a", "//A", "//a.b/", "//a_/", "//?q", "//#m", "A", "a=b",
        "/a&b", "a+b", "?A", "?a/b", "?a?b", "?a b", "#", "#9", "#M", "#a#b", "#a?b", "#a/b", "#a.b", "a:b", "a b", " a", "a ",
        "~", "a\n", "\n", "a\\b", "a#", "a?b#"}) {
      due("NO ADDRESS " + no, resolved(base, no), "-1");
    }
  }

  private static void dots() {
    String base = "//shop/a/b/c";
    due(".", resolved(base, "."), "//shop/a/b/");
    due("./", resolved(base, "./"), "//shop/a/b/");
    due("./d", resolved(base, "./d"), "//shop/a/b/d");
    due("..", resolved(base, ".."), "//shop/a/");
    due("../", resolved(base, "../"), "//shop/a/");
    due("../d", resolved(base, "../d"), "//shop/a/d");
    due("../..", resolved(base, "../.."), "//shop/");
    due("../../..", resolved(base, "../../.."), "//shop/");
    due("../../../../d", resolved(base, "../../../../d"), "//shop/d");
    due("d/.", resolved(base, "d/."), "//shop/a/b/d/");
    due("d/..", resolved(base, "d/.."), "//shop/a/b/");
    due("d/../e", resolved(base, "d/../e"), "//shop/a/b/e");
    due("d/./e", resolved(base, "d/./e"), "//shop/a/b/d/e");
    due("/.", resolved(base, "/."), "//shop/");
    due("/..", resolved(base, "/.."), "//shop/");
    due("/../d", resolved(base, "/../d"), "//shop/d");
    due("/./d", resolved(base, "/./d"), "//shop/d");
    due("/d//../e", resolved(base, "/d//../e"), "//shop/d/e");
    due("/d/..//e", resolved(base, "/d/..//e"), "//shop//e");
    due("//s/..", resolved(base, "//s/.."), "//s/");
    due("//s/a/./b/../c", resolved(base, "//s/a/./b/../c"), "//s/a/c");
    due("..?q#m", resolved(base, "..?q#m"), "//shop/a/?q#m");
    due("...", resolved(base, "..."), "//shop/a/b/...");
    due("..a", resolved(base, "..a"), "//shop/a/b/..a");
    due(".a/.", resolved(base, ".a/."), "//shop/a/b/.a/");
    due("a./..", resolved(base, "a./.."), "//shop/a/b/");
    due("dots of a query stay", resolved(base, "?.."), "//shop/a/b/c?..");
  }

  private static void limits() {
    String base = "//shop/a/b/c/d/e/f";
    String q40 = "abcdefghijklmnopqrstuvwxyz0123456789.-_=";
    due("a name of 8", resolved(base, "//abcdefg8"), "//abcdefg8/");
    due("a name of 9", resolved(base, "//abcdefgh9"), "-1");
    due("a mark of 8", resolved(base, "/#abcdefg8"), "//shop/#abcdefg8");
    due("a mark of 9", resolved(base, "/#abcdefgh9"), "-1");
    due("a segment of 12", resolved(base, "/abcdefghijkl"), "//shop/abcdefghijkl");
    due("a segment of 13", resolved(base, "/abcdefghijklm"), "-1");
    due("a segment of 13 that goes", resolved(base, "/abcdefghijklm/.."), "-1");
    due("a query of 40", resolved(base, "/?" + q40), "//shop/?" + q40);
    due("a query of 41", resolved(base, "/?" + q40 + "a"), "-1");
    due("6 segments", resolved(base, "/1/2/3/4/5/6"), "//shop/1/2/3/4/5/6");
    due("7 segments", resolved(base, "/1/2/3/4/5/6/7"), "-1");
    due("7 segments, the last empty", resolved(base, "/1/2/3/4/5/6/"), "-1");
    due("7 empty segments", resolved(base, "/a//////"), "-1");
    due("the sixth in place", resolved(base, "g"), "//shop/a/b/c/d/e/g");
    due("two in place of the sixth", resolved(base, "g/h"), "-1");
    due("more than 6 ahead of the dots", resolved(base, "/1/2/3/4/5/6/7/8/../.."), "-1");
    due("6 behind the dots", resolved(base, "/1/2/3/4/5/6/7/8/../../.."), "//shop/1/2/3/4/5/");
    due("dots don't count", resolved(base, "/1/./2/./3/./4/./5/./6"), "//shop/1/2/3/4/5/6");
    due("a last . of the sixth", resolved(base, "/1/2/3/4/5/6/."), "-1");
    StringBuilder many = new StringBuilder("/");
    for (int i = 0; i < 400; i++) many.append("a/");
    for (int i = 0; i < 399; i++) many.append("../");
    due("many segments come and go", resolved(base, many.append("b").toString()), "//shop/a/b");
    due("2000 bytes of /", resolved(base, "/" + "a/".repeat(999) + "a"), "-1");
  }

  private static void base() {
    NetDesk x = new NetDesk();
    due("segments", base(x, "//shop/a/b/c?q#m"), 3);
    due("with all of it", written(x, 0), "//shop/a/b/c?q#m");
    due("nothing", base(x, ""), 3);
    due("the mark went", written(x, 0), "//shop/a/b/c?q");
    due("..", base(x, ".."), 2);
    due("against the base", written(x, 0), "//shop/a/");
    due("NO ADDRESS", base(x, "A"), -1);
    due("the base stays", written(x, 0), "//shop/a/");
    due("WRONG", base(x, "ab\177"), -1002);
    due("the base stays", written(x, 0), "//shop/a/");
    due("six", base(x, "1/2/3/4/5"), 6);
    due("seven", base(x, "6/7"), -1);
    due("the base stays", written(x, 0), "//shop/a/1/2/3/4/5");
    due("a site alone", base(x, "//s"), 1);
    due("an empty segment", written(x, 0), "//s/");
    due("a mark", base(x, "#k1"), 1);
    due("a mark", written(x, 0), "//s/#k1");
  }

  private static void server() {
    NetDesk x = new NetDesk();
    due("address alone", server(x, "//a/b\n"), 1);
    due("another query", server(x, "//a/b?\nq"), 2);
    due("another query", server(x, "//a/b?q\nqq"), 3);
    due("another site", server(x, "//b/b\n"), 4);
    due("another path", server(x, "//a/\nroot"), 5);
    due("the same", server(x, "//a/b\nnew body"), 5);
    due("the same behind reading", server(x, "//a/c/../b/./../b\nnewer body"), 5);
    due("the same behind reading", server(x, "//a\nroot!"), 5);
    due("the body", fetch(x, "//a/b"), 10);
    due("the body", bodyOf(x), "newer body");
    due("the empty query", fetch(x, "//a/b?"), 1);
    due("the query", fetch(x, "//a/b?q"), 2);
    due("the root", fetch(x, "//a"), 5);
    due("all fields", server(x, "//c/ open to=//d/ cookie=n:v age=0009\nbody"), 6);
    due("all fields in another order", server(x, "//c/ age=0 to= cookie=abcdefg8:x1 open\n"), 6);
    due("a body with byte 10 and blanks", server(x, "//e/\n\n open open\n\n"), 7);
    due("that body", fetch(x, "//e"), 13);
    due("that body", bodyOf(x), "\n open open\n\n");
    base(x, "//elsewhere/x/y");
    due("the base is of no matter", server(x, "//f/../g\n1"), 8);
    due("it is there", fetch(x, "//f/g"), 1);
  }

  private static void serverWrong() {
    NetDesk x = desk("//keep/ age=5\nkept");
    String[] noAddress = {"", "\n", " \n", "a\n", "/a\n", "?q\n", "//A/\n", "//\n", "///\n", "//a/#m\n", "//a/b#m open\n", "//a/B\n",
      "//a/1/2/3/4/5/6/7\n", "//abcdefgh9/\n", " //a/\n", "//home/y#\n", "x", "\n//a/\n", "//a/b:c\n"};
    for (String s : noAddress) due("server " + s, server(new NetDesk(), s), -1000);
    String[] noField = {"x", "", "ope", "openx", "Open", "age", "age=", "age=x", "age=1x", "age=12345", "age=-1", "age=+1", "age:1",
      "cookie", "cookie=", "cookie=a", "cookie=a:", "cookie=:a", "cookie=a:b:c", "cookie=A:b", "cookie=a:9", "cookie=a=b",
      "cookie=abcdefgh9:b", "cookie=a:abcdefgh9", "to", "to=A", "to=//", "to=//9", "to=#", "to=?q?q", "to=1/2/3/4/5/6/7", "to=a:b",
      "open=", "AGE=1", "age =1"};
    for (String f : noField) {
      NetDesk y = new NetDesk();
      due("field <" + f + ">", server(y, "//a/b " + f + "\nbody"), -1006);
      due("behind another, field <" + f + ">", server(y, "//a/b to=x " + f + "\nbody"), -1011);
      due("without byte 10, field <" + f + ">", server(y, "//a/b " + f), -1006);
    }
    String[][] twice = {{"open", "open"}, {"age=1", "age=1"}, {"age=0", "age=2"}, {"cookie=a:b", "cookie=c:d"}, {"to=a", "to=b"},
      {"to=", "to="}};
    for (String[] t : twice) {
      due("twice " + t[1], server(x, "//a/b " + t[0] + " " + t[1] + "\n"), -1007 - t[0].length());
      String mid = t[0].equals("open") ? "age=1" : "open";
      due("twice, one between " + t[1], server(x, "//a/b " + t[0] + " " + mid + " " + t[1] + "\n"), -1008 - t[0].length() - mid.length());
    }
    due("two blanks", server(x, "//a/b  open\n"), -1006);
    due("a blank at the end", server(x, "//a/b open \n"), -1011);
    due("no byte 10", server(x, "//a/b"), -1005);
    due("no byte 10", server(x, "//a/b open age=3"), -1016);
    due("no byte 10, a blank at the end", server(x, "//a/b "), -1006);
    due("a bad byte of the body is ahead of all else", server(x, "nothing\nbody\1"), -1012);
    due("a body of 1501", server(desk("//keep/\n"), "//a/\n" + "b".repeat(1501)), -2505);
    due("a body of 1501 lines", server(desk("//keep/\n"), "//a/ open\n" + "\n".repeat(1501)), -2510);
    due("a longer one", server(desk("//keep/\n"), "//a/\n" + "b".repeat(1995)), -2505);
    due("a wrong field is ahead of a long body", server(desk("//keep/\n"), "//a/ no\n" + "b".repeat(1501)), -1005);
    due("they change nothing", x.count(0), 1);
    due("a body of 1500", server(x, "//a/\n" + "b".repeat(1500)), 2);
    due("it comes", fetch(x, "//a/"), 1500);
    due("its last byte", x.body(1499), 'b');
    due("no more", x.body(1500), -1);
    due("a wrong text for an address that is there", server(x, "//keep/ age=5 age=6\nnew"), -1014);
    due("it is as it was", fetch(x, "//keep/"), 4);
  }

  private static void serverMost() {
    NetDesk x = new NetDesk();
    for (int i = 1; i <= 12; i++) due("answer " + i, server(x, "//s/" + i + "\n"), i);
    due("a thirteenth", server(x, "//s/13\nbody"), -1);
    due("twelve are there", x.count(0), 12);
    due("it did not come", fetch(x, "//s/13"), 0);
    due("in place of one", server(x, "//s/7\nnew"), 12);
    due("it came", fetch(x, "//s/7"), 3);
    due("the others stay", server(x, "//s/12\nnew!"), 12);
    due("WRONG is ahead of NONE", server(x, "//s/14 x\n"), -1007);
    due("a bad byte is ahead of NONE", server(x, "//s/14\n\0"), -1007);
  }

  private static void fetch() {
    NetDesk x = desk("//home/a open\nhello", "//shop/x?q\n12", "//shop/x\n123");
    due("an answer", fetch(x, "a"), 5);
    due("none", fetch(x, "b"), 0);
    due("none is a request", x.count(3), 2);
    due("none is not open", x.count(6), 0);
    due("none has no body", bodyOf(x), "");
    due("its address", written(x, 1), "//home/b");
    due("with a mark", fetch(x, "a#m"), 5);
    due("the request has none", written(x, 1), "//home/a");
    due("what was fetched has", written(x, 3), "//home/a#m");
    due("open", x.count(6), 1);
    due("NO ADDRESS", fetch(x, "A"), -1);
    due("WRONG", fetch(x, "A\0"), -1001);
    due("no request", x.count(3), 3);
    due("what was fetched stays", written(x, 3), "//home/a#m");
    due("the body stays", bodyOf(x), "hello");
    due("open stays", x.count(6), 1);
    base(x, "//shop/x?q#m");
    due("the base, nothing on the tape", fetch(x, ""), 2);
    due("without its mark", written(x, 3), "//shop/x?q");
    due("the base stays", written(x, 0), "//shop/x?q#m");
    due("another query", fetch(x, "x"), 3);
    due("no answer there", fetch(x, "x?"), 0);
    due("that is asked for", written(x, 1), "//shop/x?");
    due("again", fetch(x, "x"), 3);
    due("not kept", x.count(7), 0);
    due("requests", x.count(3), 7);
    due("the base is no other for it", written(x, 0), "//shop/x?q#m");
  }

  private static void follow() {
    NetDesk x = desk("//a/x/y?q to=../z open\nfirst", "//a/z to=//b#there\nsecond", "//b/ open\nlast");
    due("two followed", fetch(x, "//a/x/y?q#here"), 4);
    due("how many", x.count(5), 2);
    due("the body", bodyOf(x), "last");
    due("open", x.count(6), 1);
    due("requests", x.count(3), 3);
    due("the last request", written(x, 1), "//b/");
    due("with the first one's mark", written(x, 3), "//b/#here");
    due("one followed", fetch(x, "//a/z"), 4);
    due("how many", x.count(5), 1);
    due("without a mark, as the first one", written(x, 3), "//b/");
    due("none followed", fetch(x, "//b/"), 4);
    due("how many", x.count(5), 0);
    due("NO ADDRESS", fetch(x, "//a/z#"), -1);
    x = desk("//a/x to=y open\nfirst");
    due("to what isn't there", fetch(x, "//a/x"), 0);
    due("is not open", x.count(6), 0);
    due("how many", x.count(5), 1);
    due("there", written(x, 3), "//a/y");
    x = desk("//a/x?q to=#m\n", "//a/y?q to=?r\n", "//a/y?r to=./y?q\n");
    due("to itself", fetch(x, "//a/x?q"), 0);
    due("five", x.count(5), 5);
    due("its query is the address's", written(x, 3), "//a/x?q");
    due("around", fetch(x, "//a/y?r"), 0);
    due("the last of them", written(x, 3), "//a/y?q");
    x = desk("//a/x/.. to=b\n", "//a/b\nhere");
    due("against the address behind reading", fetch(x, "//a"), 4);
    base(x, "//c/d/e");
    due("not against the base", fetch(x, "//a"), 4);
  }

  private static void followMost() {
    NetDesk x = desk("//a/1 to=2\n", "//a/2 to=3\n", "//a/3 to=4\n", "//a/4 to=5\n", "//a/5 to=6\n", "//a/6\nsix");
    due("five to", fetch(x, "//a/1#m"), 3);
    due("five followed", x.count(5), 5);
    due("six requests", x.count(3), 6);
    due("the last", written(x, 3), "//a/6#m");
    server(x, "//a/6 to=7 open age=4 cookie=n:v\nsix");
    server(x, "//a/7\nseven");
    due("six to", fetch(x, "//a/1"), 0);
    due("five followed", x.count(5), 5);
    due("six requests more", x.count(3), 12);
    due("no body", bodyOf(x), "");
    due("not open", x.count(6), 0);
    due("the last followed", written(x, 3), "//a/6");
    due("the last request", written(x, 1), "//a/6");
    due("it was asked for: its cookie", x.count(1), 1);
    due("it was asked for: it is kept", x.count(2), 1);
    due("it came from a request", x.count(7), 0);
    due("from the second on", fetch(x, "//a/2"), 5);
    due("seven", bodyOf(x), "seven");
    due("the sixth was kept, its to counts", x.count(3), 17);
    due("six to, the last kept", fetch(x, "//a/1"), 0);
    due("no body", x.body(0), -1);
    due("not open", x.count(6), 0);
    due("the last one was kept", x.count(7), 1);
    due("no request for it", written(x, 1), "//a/5");
    x = desk("//a/ age=1 to=\nself");
    due("to itself, kept", fetch(x, "//a"), 0);
    due("one request", x.count(3), 1);
    due("five followed", x.count(5), 5);
  }

  private static void kept() {
    NetDesk x = desk("//a/ age=3 cookie=n:v open\nold");
    due("first", fetch(x, "//a/#m"), 3);
    due("kept", x.count(2), 1);
    due("came from a request", x.count(7), 0);
    server(x, "//a/\nnewer");
    due("kept is as it was", fetch(x, "//a"), 3);
    due("came from there", x.count(7), 1);
    due("open as it was", x.count(6), 1);
    due("no request", x.count(3), 1);
    due("another query is not kept", fetch(x, "//a?"), 0);
    due("request", x.count(3), 2);
    x.tick(2);
    due("still fresh", fetch(x, "//a"), 3);
    due("no request", x.count(3), 2);
    x.tick(1);
    due("at its time no more", fetch(x, "//a"), 5);
    due("request", x.count(3), 3);
    due("not open now", x.count(6), 0);
    due("not from there", x.count(7), 0);
    due("the stale one counts", x.count(2), 1);
    server(x, "//a/ age=0\n");
    fetch(x, "//a");
    due("age 0 is not kept", fetch(x, "//a"), 0);
    due("requests", x.count(3), 5);
    server(x, "//a/ age=9999\nlong");
    fetch(x, "//a");
    due("in its place", x.count(2), 1);
    for (int i = 0; i < 9; i++) x.tick(1000);
    x.tick(998);
    due("fresh for 9999", fetch(x, "//a"), 4);
    due("from there", x.count(7), 1);
    x.tick(1);
    fetch(x, "//a");
    due("stale now", x.count(7), 0);
    x = desk("//a/ age=5 cookie=n:v to=b\n", "//a/b\nbody");
    fetch(x, "//a");
    forget(x, "a");
    due("kept with to is followed", fetch(x, "//a"), 4);
    due("one followed", x.count(5), 1);
    due("one request more", x.count(3), 3);
    due("the last was not kept", x.count(7), 0);
    due("the cookie of a kept one is not put", x.count(1), 0);
    x = desk("//a/ to=b\n", "//a/b age=5\nbody");
    fetch(x, "//a");
    fetch(x, "//a");
    due("the last was kept", x.count(7), 1);
    due("the first was asked for", x.count(3), 3);
    due("the last request", written(x, 1), "//a/");
  }

  private static void keptMost() {
    NetDesk x = new NetDesk();
    for (int i = 1; i <= 10; i++) server(x, "//a/" + i + " age=100\n" + i);
    for (int i = 1; i <= 8; i++) {
      fetch(x, "//a/" + i);
      due("kept", x.count(2), i);
    }
    due("requests", x.count(3), 8);
    fetch(x, "//a/9");
    due("eight at most", x.count(2), 8);
    for (int i = 2; i <= 9; i++) {
      fetch(x, "//a/" + i);
      due("still kept " + i, x.count(7), 1);
    }
    fetch(x, "//a/1");
    due("the first went", x.count(7), 0);
    due("requests", x.count(3), 10);
    fetch(x, "//a/2");
    due("then the second", x.count(7), 0);
    x = new NetDesk();
    for (int i = 1; i <= 10; i++) server(x, "//a/" + i + (i == 1 ? " age=1\n" : " age=100\n"));
    for (int i = 1; i <= 8; i++) fetch(x, "//a/" + i);
    x.tick(1);
    fetch(x, "//a/1");
    due("kept anew, in its own place", x.count(2), 8);
    fetch(x, "//a/9");
    fetch(x, "//a/1");
    due("the one kept anew is not the oldest", x.count(7), 1);
    fetch(x, "//a/3");
    due("the third stays", x.count(7), 1);
    fetch(x, "//a/2");
    due("the second went", x.count(7), 0);
  }

  private static void cookies() {
    NetDesk x = desk("//a/1 cookie=n:v\n", "//a/2 cookie=m:w\n", "//a/3 cookie=n:u\n", "//b/ cookie=n:z to=//a/1\n");
    fetch(x, "//a/1");
    due("as the request began", written(x, 2), "");
    fetch(x, "//a/2");
    due("of the first", written(x, 2), "n=v");
    fetch(x, "//a/3");
    due("in order", written(x, 2), "n=v;m=w");
    fetch(x, "//a/none");
    due("another in its place", written(x, 2), "n=u;m=w");
    due("two", x.count(1), 2);
    fetch(x, "//b/none");
    due("of the site alone", written(x, 2), "");
    fetch(x, "//b/");
    due("followed: of the last request's site", written(x, 2), "n=u;m=w");
    due("three", x.count(1), 3);
    fetch(x, "//b/none");
    due("the other site's", written(x, 2), "n=z");
    forget(x, "b");
    due("told as the request began", written(x, 2), "n=z");
    fetch(x, "//b/none");
    due("gone", written(x, 2), "");
    x = new NetDesk();
    for (int i = 1; i <= 20; i++) {
      server(x, "//s" + i % 2 + "/ cookie=c" + i + ":v\n");
      fetch(x, "//s" + i % 2);
      due("cookies", x.count(1), i);
    }
    server(x, "//s0/ cookie=new:v\n");
    fetch(x, "//s0");
    due("a new one is not put", x.count(1), 20);
    server(x, "//s0/ cookie=c2:w\n");
    fetch(x, "//s0");
    due("as it began", written(x, 2), "c2=v;c4=v;c6=v;c8=v;c10=v;c12=v;c14=v;c16=v;c18=v;c20=v");
    fetch(x, "//s0");
    due("one that is there is", written(x, 2), "c2=w;c4=v;c6=v;c8=v;c10=v;c12=v;c14=v;c16=v;c18=v;c20=v");
    due("twenty", x.count(1), 20);
    server(x, "//s1/ cookie=c2:x\n");
    fetch(x, "//s1");
    due("of another site it is new", x.count(1), 20);
    x = desk("//a/ cookie=n:v to=\n");
    fetch(x, "//a");
    due("each request as it began", written(x, 2), "n=v");
  }

  private static void body() {
    NetDesk x = desk("//home/a\nxyz", "//home/b\n");
    due("ahead of any", x.body(0), -1);
    fetch(x, "a");
    due("body(-1)", x.body(-1), -1);
    due("body(0)", x.body(0), 'x');
    due("body(2)", x.body(2), 'z');
    due("body(3)", x.body(3), -1);
    server(x, "//home/a\nother");
    due("as it was fetched", bodyOf(x), "xyz");
    fetch(x, "\1");
    fetch(x, "#");
    due("not fetched, not gone", bodyOf(x), "xyz");
    fetch(x, "b");
    due("no bytes", x.body(0), -1);
    fetch(x, "a");
    due("the newer one", bodyOf(x), "other");
  }

  private static void tick() {
    NetDesk x = new NetDesk();
    due("tick(0)", x.tick(0), 0);
    due("tick(1)", x.tick(1), 1);
    due("tick(1000)", x.tick(1000), 1001);
    due("tick(1001)", x.tick(1001), -1);
    due("tick(-1)", x.tick(-1), -1);
    due("it stays", x.count(4), 1001);
    due("tick(0)", x.tick(0), 1001);
    for (int i = 0; i < 500; i++) x.tick(1000);
    due("far on", x.count(4), 501001);
  }

  private static void forget() {
    NetDesk x = desk("//a/1 cookie=n:v\n", "//a/2 cookie=m:w\n", "//b/ cookie=k:z\n", "//a/3 cookie=l:u\n");
    for (String s : new String[] {"//a/1", "//a/2", "//b/", "//a/3", "//a/1"}) fetch(x, s);
    due("none of this site", forget(x, "c"), -1);
    due("four", x.count(1), 4);
    due("the last of a", forget(x, "a"), 2);
    due("three", x.count(1), 3);
    fetch(x, "//a/none");
    due("those left", written(x, 2), "n=v;m=w");
    due("the last of b", forget(x, "b"), 0);
    due("none of b", forget(x, "b"), -1);
    due("one left", forget(x, "a"), 1);
    fetch(x, "//a/2");
    fetch(x, "//a/none");
    due("it comes again at the end", written(x, 2), "n=v;m=w");
    due("one left", forget(x, "a"), 1);
    due("none left", forget(x, "a"), 0);
    due("none", forget(x, "a"), -1);
    due("nothing", forget(x, ""), -1000);
    due("a digit first", forget(x, "1a"), -1000);
    due("a capital", forget(x, "aB"), -1001);
    due("a sign", forget(x, "ab-c"), -1002);
    due("byte 10", forget(x, "abc\n"), -1003);
    due("a blank", forget(x, "a b"), -1001);
    due("eight", forget(x, "abcdefg8"), -1);
    due("nine", forget(x, "abcdefg89"), -1008);
    due("nine with a sign", forget(x, "abcdefgh-"), -1008);
    due("an address", forget(x, "//a"), -1000);
    due("a bad byte is ahead", forget(x, "1a\377"), -1002);
  }

  private static void write() {
    NetDesk x = desk("//a/ cookie=name:value\n", "//a/b?q to=//c/d\n");
    due("the base", written(x, 0), "//home/");
    due("write(-1)", x.write(-1), -1);
    due("write(4)", x.write(4), -1);
    due("the out stays", out(x), "//home/");
    due("ahead of any", x.write(1), 0);
    due("ahead of any", x.write(2), 0);
    due("ahead of any", x.write(3), 0);
    due("the out is empty", x.out(0), -1);
    fetch(x, "//a");
    fetch(x, "//a/b?q#m");
    due("the last request", written(x, 1), "//c/d");
    due("its cookies", written(x, 2), "");
    due("the last followed", written(x, 3), "//c/d#m");
    fetch(x, "//a");
    due("its cookies", written(x, 2), "name=value");
    due("the last", written(x, 3), "//a/");
    base(x, "//a/b?#mark");
    due("the base, all of it", written(x, 0), "//a/b?#mark");
  }

  private static void count() {
    NetDesk x = desk("//a/ age=1 cookie=n:v open\nbody", "//a/to to=//a\n");
    due("answers", x.count(0), 2);
    due("count(-1)", x.count(-1), -1);
    due("count(8)", x.count(8), -1);
    fetch(x, "//a/to");
    x.tick(7);
    due("cookies", x.count(1), 1);
    due("kept, stale", x.count(2), 1);
    due("requests", x.count(3), 2);
    due("the clock", x.count(4), 7);
    due("followed", x.count(5), 1);
    due("open", x.count(6), 1);
    due("from kept", x.count(7), 0);
    fetch(x, "//a");
    due("followed by the latest", x.count(5), 0);
    fetch(x, "//a");
    due("from kept", x.count(7), 1);
    fetch(x, "A");
    due("from kept still", x.count(7), 1);
    fetch(x, "//a/none");
    due("not from kept", x.count(7), 0);
    due("not open", x.count(6), 0);
  }

  private static void edgesOfInts() {
    NetDesk x = desk("//home/a\nbody");
    fetch(x, "a");
    x.write(3);
    for (int n : new int[] {Integer.MIN_VALUE, Integer.MIN_VALUE + 1, -1000, Integer.MAX_VALUE - 1, Integer.MAX_VALUE}) {
      due("end", x.end(n), -1);
      due("out", x.out(n), -1);
      due("body", x.body(n), -1);
      due("tick", x.tick(n), -1);
      due("write", x.write(n), -1);
      due("count", x.count(n), -1);
      x.end(0);
      due("feed", x.feed(n, n, n, n, n), 20);
    }
  }
}
