import java.io.IOException;
import java.nio.file.Files;
import java.nio.file.Path;

// Each sentence of the document that names a boundary case (too small, too large, empty, full, a wrap-around, a refused
// call) has a test of its own here: the last input on this side of the boundary, the first one beyond it, and what a
// refused call leaves as it was. Each test bears its sentence's words; one that the document has no more is told.
public final class NetDeskBoundaries {
  private static final String[] TEXT_CALLS = {"resolve", "base", "server", "fetch", "forget"};
  private static final String Q40 = "abcdefghijklmnopqrstuvwxyz0123456789.-_=";

  private static String document = "";
  private static String sentence = "";
  private static int sentences = 0;
  private static int asked = 0;
  private static int askedOfSentence = 0;
  private static int wrong = 0;

  public static void main(String[] args) throws IOException {
    Path path = Path.of("../shared/DOC.md");
    document = Files.exists(path) ? Files.readString(path) : "";
    partOne();
    partTwo();
    partThree();
    promises();
    System.out.println(sentences + " sentences, " + asked + " answers asked for, " + wrong + " not as due");
    if (wrong != 0) System.exit(1);
  }

  private static void partOne() {
    each(NetDeskBoundaries::calls512, NetDeskBoundaries::tapeAtMost, NetDeskBoundaries::bytesOfTexts, NetDeskBoundaries::names,
      NetDeskBoundaries::numbers, NetDeskBoundaries::wrongPlaces, NetDeskBoundaries::tapeBehindTexts,
      NetDeskBoundaries::wrongChangesNothing);
  }

  private static void partTwo() {
    each(NetDeskBoundaries::pathOfOneToSix, NetDeskBoundaries::writtenForm, NetDeskBoundaries::sizesAndSigns,
      NetDeskBoundaries::siteAlone, NetDeskBoundaries::pathReference, NetDeskBoundaries::segmentsReference,
      NetDeskBoundaries::nothingOfThese, NetDeskBoundaries::dotsGo, NetDeskBoundaries::lastOneWent, NetDeskBoundaries::noAddress);
  }

  private static void partThree() {
    each(NetDeskBoundaries::serverAddress, NetDeskBoundaries::bodySizes, NetDeskBoundaries::eachFieldOnce,
      NetDeskBoundaries::inPlaceOfOneThatWas, NetDeskBoundaries::answersAtMost, NetDeskBoundaries::wrongAtPieces,
      NetDeskBoundaries::clockAtFirst, NetDeskBoundaries::cookiesAtMost, NetDeskBoundaries::markOfNoMatter,
      NetDeskBoundaries::freshOrNot, NetDeskBoundaries::requestsTold, NetDeskBoundaries::emptyAnswer, NetDeskBoundaries::cookieIsPut,
      NetDeskBoundaries::ageAboveZero, NetDeskBoundaries::keptAtMost, NetDeskBoundaries::followedAlsoKept, NetDeskBoundaries::sixthTo);
  }

  private static void promises() {
    each(NetDeskBoundaries::newObject, NetDeskBoundaries::feedHighestFirst, NetDeskBoundaries::feedTooMany,
      NetDeskBoundaries::endTooMany, NetDeskBoundaries::outNoneSuch, NetDeskBoundaries::resolveNone, NetDeskBoundaries::baseStays,
      NetDeskBoundaries::serverNone, NetDeskBoundaries::fetchNone, NetDeskBoundaries::bodyNoneSuch, NetDeskBoundaries::tickRange,
      NetDeskBoundaries::forgetNone, NetDeskBoundaries::forgetWrong, NetDeskBoundaries::writeAheadOfAny, NetDeskBoundaries::writeOther,
      NetDeskBoundaries::countsAheadOfAny, NetDeskBoundaries::countsInAll, NetDeskBoundaries::countOther);
  }

  /** A sentence that fails hard is told, and does not hide the ones behind it. */
  private static void each(Runnable... tests) {
    for (Runnable test : tests) {
      askedOfSentence = 0;
      try {
        test.run();
      } catch (RuntimeException e) {
        miss("threw " + e);
      }
      if (askedOfSentence == 0) miss("nothing was asked of it");
    }
  }

  // How the tests speak.

  private static void sentence(String words) {
    sentence = words;
    sentences++;
    // Told, not failed: a newer wording is no fault of the class, but its test wants a look.
    if (!document.isEmpty() && !document.contains(words)) System.out.println("the document does not say <" + words + ">");
  }

  private static void miss(String what) {
    wrong++;
    System.out.println("<" + sentence + ">: " + what);
  }

  private static void due(String call, Object got, Object want) {
    asked++;
    askedOfSentence++;
    if (!want.equals(got)) miss(call + " answered <" + got + ">, due is <" + want + ">");
  }

  private static void due(String call, int got, int want) {
    due(call, Integer.valueOf(got), Integer.valueOf(want));
  }

  /** A desk that counts its calls: nothing is promised behind the 512th, so no test may lean on one. */
  private static final class Desk {
    private final NetDesk desk = new NetDesk();
    private int calls = 0;

    private NetDesk used() {
      if (++calls > 512) throw new IllegalStateException("a test made more than 512 calls: " + sentence);
      return desk;
    }

    int feed(int a, int b, int c, int d, int e) { return used().feed(a, b, c, d, e); }
    int end(int n) { return used().end(n); }
    int out(int i) { return used().out(i); }
    int body(int i) { return used().body(i); }
    int tick(int n) { return used().tick(n); }
    int write(int what) { return used().write(what); }
    int count(int what) { return used().count(what); }

    /** Puts a text on the tape, which must be empty. */
    Desk put(String text) {
      for (int i = 0; i < text.length(); i += 20) {
        int[] word = new int[5];
        for (int j = 0; j < 20; j++) word[j / 4] = word[j / 4] << 8 | (i + j < text.length() ? text.charAt(i + j) : 0);
        feed(word[0], word[1], word[2], word[3], word[4]);
      }
      end(text.length());
      return this;
    }

    int call(String name, String text) {
      return put(text).call(name);
    }

    /** A text's call on what is on the tape. */
    int call(String name) {
      switch (name) {
        case "resolve": return used().resolve();
        case "base": return used().base();
        case "server": return used().server();
        case "fetch": return used().fetch();
        default: return used().forget();
      }
    }

    int resolve(String text) { return call("resolve", text); }
    int base(String text) { return call("base", text); }
    int server(String text) { return call("server", text); }
    int fetch(String text) { return call("fetch", text); }
    int forget(String text) { return call("forget", text); }

    /** All of THE OUT. */
    String out() {
      StringBuilder all = new StringBuilder();
      for (int b = out(0); b != NetDesk.NONE; b = out(all.length())) all.append((char) b);
      return all.toString();
    }

    String body() {
      StringBuilder all = new StringBuilder();
      for (int b = body(0); b != NetDesk.NONE; b = body(all.length())) all.append((char) b);
      return all.toString();
    }

    String written(int what) {
      int n = write(what);
      return told(n);
    }

    String resolved(String reference) {
      int n = resolve(reference);
      return n < 0 ? Integer.toString(n) : told(n);
    }

    private String told(int n) {
      String all = out();
      return n == all.length() ? all : n + " bytes for " + all;
    }

    Desk servers(String... texts) {
      for (String text : texts) if (server(text) < 0) miss("server refused " + text);
      return this;
    }
  }

  private static Desk desk(String... servers) {
    return new Desk().servers(servers);
  }

  private static Desk deskAt(String base) {
    Desk x = new Desk();
    if (x.base(base) < 1) miss("base refused " + base);
    return x;
  }

  /** What a REFERENCE is against a base, as ADDRESS or as the answer below 0, on a desk of its own. */
  private static String read(String base, String reference) {
    return deskAt(base).resolved(reference);
  }

  private static String read(String reference) {
    return new Desk().resolved(reference);
  }

  private static int serverAnswer(String text) {
    return new Desk().server(text);
  }

  private static boolean isIn(int c, String signs) {
    return (c >= 'a' && c <= 'z') || (c >= '0' && c <= '9') || signs.indexOf(c) >= 0;
  }

  /** A desk that has some of all: a base, answers, cookies, kept ones, a clock, something fetched, something written. */
  private static Desk richDesk() {
    Desk x = desk("//k/ age=9 open\nkept", "//c/ cookie=n:v\n", "//a/ to=//k/\nold");
    x.base("//b/x?q#m");
    x.tick(3);
    x.fetch("//c/");
    x.fetch("//k/");
    x.fetch("//a/#here");
    x.resolve("out");
    return x;
  }

  /** All that can be seen of a desk, by calls and by a few fetches behind them. */
  private static String seen(Desk x) {
    StringBuilder all = new StringBuilder(x.out());
    for (int what = 0; what <= 7; what++) all.append(' ').append(x.count(what));
    all.append(' ').append(x.body());
    for (int what = 0; what <= 3; what++) all.append(' ').append(x.written(what));
    all.append(' ').append(x.fetch("//c/")).append(x.written(2)).append(x.count(3));
    all.append(' ').append(x.fetch("//a/")).append(x.body()).append(x.count(5)).append(x.count(6)).append(x.count(7));
    return all.toString();
  }

  // What it is.

  private static void calls512() {
    sentence("An object is used for at most 512 calls after it has been made");
    Desk x = new Desk();
    for (int i = 1; i <= 511; i++) x.tick(1000);
    due("the 512th tick", x.tick(1000), 512000);
    x = desk("//home/ to=\n");
    int fetches = 0;
    while (x.calls < 511) {
      x.call("fetch");
      fetches++;
    }
    due("the requests as the 512th call tells them", x.count(3), 6 * fetches);
    x = new Desk();
    for (int i = 1; i <= 511; i++) x.feed(i, i, i, i, i);
    due("the tape as the 512th call tells it", x.end(2000), 2000);
  }

  // Part I. TEXTS.

  private static void tapeAtMost() {
    sentence("THE TAPE has bytes, at most 2000.");
    Desk x = new Desk();
    for (int i = 1; i <= 99; i++) x.feed(0, 0, 0, 0, 0);
    due("feed to 2000", x.feed(0, 0, 0, 0, 0), 2000);
    due("feed beyond", x.feed(0, 0, 0, 0, 0), -1);
    due("2001 are not there", x.end(2001), -1);
    due("2000 are", x.end(2000), 2000);
    due("all 2000 are read", read("/a/..".repeat(400)), "//home/");
    due("the last of 2000 is read", read("a".repeat(1999) + "\t"), "-2999");
  }

  private static void bytesOfTexts() {
    sentence("Bytes of texts are 10 and 32 .. 126 (another one is WRONG, ahead of all else).");
    for (int c = 0; c < 256; c++) {
      boolean good = c == 10 || (c >= 32 && c <= 126);
      String text = "A" + (char) c;
      for (String call : new String[] {"resolve", "base", "fetch"})
        due(call + " with byte " + c, new Desk().call(call, text), good ? -1 : -1001);
      for (String call : new String[] {"server", "forget"})
        due(call + " with byte " + c, new Desk().call(call, text), good ? -1000 : -1001);
      due("a body of byte " + c, serverAnswer("//a/\n" + (char) c), good ? 1 : -1005);
    }
    for (String call : TEXT_CALLS) due(call + ", the first of two", new Desk().call(call, "ab\177c\0"), -1002);
    Desk x = desk("//c/ cookie=n:v\n");
    x.fetch("//c/");
    due("ahead of a cookie that would go", x.forget("c\t"), -1001);
    due("ahead of none", x.forget("b\t"), -1001);
    for (int i = 1; i <= 11; i++) x.server("//s/" + i + "\n");
    due("ahead of the thirteenth", x.server("//s/12\n\t"), -1007);
    due("ahead of a wrong address", x.server("a\n\t"), -1002);
    due("ahead of a wrong field", x.server("//a/ x\nab\t"), -1009);
    due("ahead of no byte 10", x.server("//a/ \t"), -1005);
    due("ahead of byte 1501", serverAnswer("//a/\n" + "b".repeat(1600) + "\t"), -2605);
  }

  private static void names() {
    sentence("A NAME: a small letter, then small letters and digits, 1 to 8 in all.");
    for (String name : new String[] {"a", "z", "aa", "az", "a0", "a9", "abcdefg", "abcdefgh", "z9999999"}) name(name, true);
    for (String name : new String[] {"", "0", "9", "0a", "9a", "A", "Z", "`", "{", "-", "aA", "aZ", "a`", "a{", "a-", "a_", "a.", "a=",
        "abcdefghi", "abcdefgh0", "a12345678", "abcdefghijklmnop", "abcdefgH"}) name(name, false);
    for (int c = 33; c <= 126; c++) {
      String one = String.valueOf((char) c);
      boolean first = c >= 'a' && c <= 'z';
      due("mark " + one, read("/#" + one), first ? "//home/#" + one : "-1");
      due("mark a" + one, read("/#a" + one), isIn(c, "") ? "//home/#a" + one : "-1");
      due("value " + one, serverAnswer("//a/ cookie=n:" + one + "\n"), first ? 1 : -1005);
      due("value a" + one, serverAnswer("//a/ cookie=n:a" + one + "\n"), isIn(c, "") ? 1 : -1005);
    }
  }

  /** Wherever the document wants a NAME. */
  private static void name(String name, boolean is) {
    due("site " + name, read("//" + name + "/"), is ? "//" + name + "/" : "-1");
    due("mark " + name, read("/#" + name), is ? "//home/#" + name : "-1");
    due("cookie's name " + name, serverAnswer("//a/ cookie=" + name + ":v\n"), is ? 1 : -1005);
    due("cookie's value " + name, serverAnswer("//a/ cookie=n:" + name + "\n"), is ? 1 : -1005);
    due("forget " + name, new Desk().forget(name) == -1, is);
  }

  private static void numbers() {
    sentence("A NUMBER: 1 to 4 digits.");
    for (String number : new String[] {"0", "1", "9", "00", "10", "99", "000", "0000", "0001", "9999"})
      due("age=" + number, serverAnswer("//a/ age=" + number + "\n"), 1);
    for (String number : new String[] {"", "00000", "00001", "10000", "99999", "123456789012", "-1", "+1", "1-", "a", "1a", "/", ":", "1.", "0x1"})
      due("age=" + number, serverAnswer("//a/ age=" + number + "\n"), -1005);
    for (int c = 33; c <= 126; c++)
      due("age=1" + (char) c, serverAnswer("//a/ age=1" + (char) c + "\n"), c >= '0' && c <= '9' ? 1 : -1005);
    for (int age : new int[] {1, 9, 10, 99, 100, 999, 1000, 9999}) {
      due("age=" + age + " at the last time", keptBehind(Integer.toString(age), age - 1), 1);
      due("age=" + age + " a time later", keptBehind(Integer.toString(age), age), 0);
    }
    due("zeros ahead", keptBehind("0012", 11), 1);
    due("zeros ahead", keptBehind("0012", 12), 0);
  }

  /** Is what was fetched at 0 still taken from the KEPT ones, so many ticks behind that? */
  private static int keptBehind(String age, int ticks) {
    Desk x = desk("//a/ age=" + age + "\n");
    x.fetch("//a");
    for (int left = ticks; left > 0; left -= 1000) x.tick(Math.min(left, 1000));
    x.fetch("//a");
    return x.count(7);
  }

  private static void wrongPlaces() {
    sentence("WRONG: -1000 less a place of the text.");
    for (String call : TEXT_CALLS) {
      due(call + ", the first place", new Desk().call(call, "\t"), -1000);
      due(call + ", the second place", new Desk().call(call, "a\t"), -1001);
      due(call + ", the last place of 2000", new Desk().call(call, "a".repeat(1999) + "\t"), -2999);
    }
    due("server, the length of 2000", serverAnswer("//a/?q to=" + "/a/..".repeat(398)), -3000);
  }

  private static void tapeBehindTexts() {
    sentence("Behind a text's call the tape is empty, whatever it answers.");
    for (String call : TEXT_CALLS) {
      for (String text : new String[] {"", "a", "c", "//c/\n", "//s/13\n", "A", "//c/ x\n", "a\t", "\0\0"}) {
        Desk x = desk("//c/ cookie=n:v\n");
        x.fetch("//c");
        for (int i = 1; i <= 11; i++) x.server("//s/" + i + "\n");
        int answer = x.call(call, text);
        due("end(1) behind " + call + " of <" + text + ">, which answered " + answer, x.end(1), -1);
        due("end(0) behind " + call + " of <" + text + ">, which answered " + answer, x.end(0), 0);
        due("feed behind " + call + " of <" + text + ">, which answered " + answer, x.feed(0, 0, 0, 0, 0), 20);
      }
    }
  }

  private static void wrongChangesNothing() {
    sentence("WRONG texts change nothing.");
    String asItWas = seen(richDesk());
    for (String[] wrongOne : new String[][] {{"resolve", "new\t"}, {"base", "//new/\t"}, {"fetch", "//new/\t"}, {"fetch", "//c/\t"},
        {"forget", "c\t"}, {"forget", "c-"}, {"forget", "C"}, {"forget", ""}, {"server", "//a/\nnew\t"}, {"server", "//a/#m\nnew"},
        {"server", "/a\nnew"}, {"server", "//a/ open open\nnew"}, {"server", "//a/ age=12345\nnew"}, {"server", "//a/ open"},
        {"server", "//n/ age=5 cookie=n:v"}, {"server", "//a/\n" + "b".repeat(1501)}, {"server", "//n/\n" + "b".repeat(1501)}}) {
      Desk x = richDesk();
      due(wrongOne[0] + " is WRONG", x.call(wrongOne[0], wrongOne[1]) <= -1000, true);
      due("all behind a WRONG " + wrongOne[0] + " of <" + wrongOne[1] + ">", seen(x), asItWas);
    }
  }

  // Part II. ADDRESSES.

  private static void pathOfOneToSix() {
    sentence("An ADDRESS has a SITE (a NAME), a PATH of 1 to 6 SEGMENTS, perhaps a QUERY, perhaps a MARK.");
    due("no segment comes to one", new Desk().base("//s"), 1);
    due("one", new Desk().base("//s/"), 1);
    due("six", new Desk().base("//s/1/2/3/4/5/6"), 6);
    due("seven", new Desk().base("//s/1/2/3/4/5/6/7"), -1);
    due("six, all empty", new Desk().base("//s//////"), 6);
    due("seven, all empty", new Desk().base("//s///////"), -1);
    due("six of a path", new Desk().base("/1/2/3/4/5/6"), 6);
    due("seven of a path", new Desk().base("/1/2/3/4/5/6/7"), -1);
    due("six of segments", new Desk().base("1/2/3/4/5/6"), 6);
    due("seven of segments", new Desk().base("1/2/3/4/5/6/7"), -1);
    due("in place of the sixth", deskAt("//s/1/2/3/4/5/6").base("7"), 6);
    due("a seventh behind it", deskAt("//s/1/2/3/4/5/6").base("7/8"), -1);
    due("no site", read("//"), "-1");
    due("no site, a path", read("///a"), "-1");
    due("neither query nor mark", read("//s/a"), "//s/a");
    due("both", read("//s/a?#m"), "//s/a?#m");
  }

  private static void writtenForm() {
    sentence("Written: //, SITE, for each SEGMENT / and it, perhaps ? and the QUERY, perhaps # and the MARK.");
    String longest = "//abcdefgh" + "/abcdefghijkl".repeat(6) + "?" + Q40 + "#hgfedcba";
    due("the shortest", new Desk().resolve("//a"), 4);
    due("the longest", new Desk().resolve(longest), 138);
    due("all of it", read(longest), longest);
    due("an empty query", read("//a/?"), "//a/?");
    due("an empty query and a mark", read("//a/?#m"), "//a/?#m");
    due("empty segments", read("//a///"), "//a///");
    due("the mark ahead of the query", read("//a/#m?q"), "-1");
    due("two queries", read("//a/?q?r"), "-1");
    due("two marks", read("//a/#m#n"), "-1");
    due("one / ahead of the site", read("//home/x", "/a/"), "//home/a/");
  }

  private static void sizesAndSigns() {
    sentence("A SEGMENT is 0 to 12 small letters, digits, . - _ ; a QUERY 0 to 40 of these, = & +; a MARK a NAME.");
    String of12 = "abcdefghijkl";
    due("a segment of 0", read("/"), "//home/");
    for (String head : new String[] {"//home/", "/", "", "/a/", "b/", "/a/../"}) {
      due("a segment of 12 behind " + head, read(head + of12).endsWith("/" + of12), true);
      due("a segment of 13 behind " + head, read(head + of12 + "m"), "-1");
      due("a segment of 13, not the last, behind " + head, read(head + of12 + "m/a"), "-1");
    }
    due("a query of 0", read("/?"), "//home/?");
    due("a query of 1", read("/?q"), "//home/?q");
    for (String head : new String[] {"//home/", "//home", "/", "", "a"}) {
      due("a query of 40 behind " + head, read(head + "?" + Q40).endsWith("?" + Q40), true);
      due("a query of 41 behind " + head, read(head + "?" + Q40 + "a"), "-1");
      due("a mark of 8 behind " + head, read(head + "#abcdefg8").endsWith("#abcdefg8"), true);
      due("a mark of 0 behind " + head, read(head + "#"), "-1");
      due("a mark of 9 behind " + head, read(head + "#abcdefg89"), "-1");
    }
    due("a query of 40 and a mark", read("?" + Q40 + "#m"), "//home/?" + Q40 + "#m");
    for (int c = 10; c <= 126; c = c == 10 ? 32 : c + 1) {
      String one = "x" + (char) c + "y";
      if (c != '/' && c != '?' && c != '#') due("segment " + one, read("/" + one), isIn(c, ".-_") ? "//home/" + one : "-1");
      if (c != '#') due("query " + one, read("/?" + one), isIn(c, ".-_=&+") ? "//home/?" + one : "-1");
      due("mark " + one, read("/#" + one), isIn(c, "") ? "//home/#" + one : "-1");
      if (c != '/' && c != '?' && c != '#') due("site " + one, read("//" + one), isIn(c, "") ? "//" + one + "/" : "-1");
    }
  }

  private static void siteAlone() {
    sentence("// and all else as above (without any /: one SEGMENT, empty)");
    String base = "//shop/a/b?q#m";
    due("a site", read(base, "//s"), "//s/");
    due("a site and /", read(base, "//s/"), "//s/");
    due("a site and a query", read(base, "//s?r"), "//s/?r");
    due("a site and an empty query", read(base, "//s?"), "//s/?");
    due("a site and a mark", read(base, "//s#n"), "//s/#n");
    due("how many segments", new Desk().base("//s?r#n"), 1);
    due("no site", read(base, "//"), "-1");
    due("no site but a query", read(base, "//?r"), "-1");
    due("no site but a mark", read(base, "//#n"), "-1");
    due("no site but a path", read(base, "///a"), "-1");
    due("no name", read(base, "//9"), "-1");
  }

  private static void pathReference() {
    sentence("or a PATH with / ahead of each SEGMENT (of the base's SITE)");
    String base = "//shop/a/b/c?q#m";
    due("an empty one", read(base, "/"), "//shop/");
    due("one", read(base, "/x"), "//shop/x");
    due("an empty last one", read(base, "/x/"), "//shop/x/");
    due("an empty one between", read(base, "/x//y"), "//shop/x//y");
    due("six", read(base, "/1/2/3/4/5/6"), "//shop/1/2/3/4/5/6");
    due("seven", read(base, "/1/2/3/4/5/6/"), "-1");
    due("no query of the base", read(base, "/a/b/c"), "//shop/a/b/c");
    due("a query of its own", read(base, "/?r"), "//shop/?r");
  }

  private static void segmentsReference() {
    sentence("or SEGMENTS with / between, one at least and the first one not empty (in place of the base's last one)");
    due("of a base with one, empty", read("//s/", "x"), "//s/x");
    due("of a base with one", read("//s/a", "x"), "//s/x");
    due("of a base with an empty last one", read("//s/a/", "x"), "//s/a/x");
    due("of a base with six", read("//s/1/2/3/4/5/6", "x"), "//s/1/2/3/4/5/x");
    due("one more than six", read("//s/1/2/3/4/5/6", "x/"), "-1");
    due("six of one", read("//s/1", "1/2/3/4/5/6"), "//s/1/2/3/4/5/6");
    due("the others may be empty", read("//s/a/b", "x//y/"), "//s/a/x//y/");
    due("the first one empty: a path", read("//s/a/b", "/x"), "//s/x");
    due("no query of the base", read("//s/a?q#m", "a"), "//s/a");
    due("an empty query", read("//s/a?q", "a?"), "//s/a?");
  }

  private static void nothingOfThese() {
    sentence("or nothing of these, then QUERY and MARK as above: without a QUERY the base's, and its PATH (nothing at all is the base without MARK)");
    String base = "//s/a/b?q#m";
    due("nothing at all", read(base, ""), "//s/a/b?q");
    due("a mark", read(base, "#n"), "//s/a/b?q#n");
    due("a query", read(base, "?r"), "//s/a/b?r");
    due("an empty query", read(base, "?"), "//s/a/b?");
    due("an empty query and a mark", read(base, "?#n"), "//s/a/b?#n");
    due("nothing, of a base without a query", read("//s/a#m", ""), "//s/a");
    due("nothing, of a base with an empty query", read("//s/a?#m", ""), "//s/a?");
    due("nothing, of a new desk", read(""), "//home/");
    due("nothing, of a base with six", read("//s/1/2/3/4/5/6", ""), "//s/1/2/3/4/5/6");
    due("a base with an empty last one", read("//s/a/", "?r"), "//s/a/?r");
  }

  private static void dotsGo() {
    sentence("Then SEGMENTS, from the first to the last: . goes, .. goes with the one ahead of it, if there is one;");
    String base = "//s/a/b/c";
    due(". first", read(base, "./x"), "//s/a/b/x");
    due(". between", read(base, "x/./y"), "//s/a/b/x/y");
    due(". alone in a path", read(base, "/./x"), "//s/x");
    due(".. with the one ahead", read(base, "../x"), "//s/a/x");
    due(".. with the last one ahead", read(base, "../../x"), "//s/x");
    due(".. with none ahead", read(base, "../../../x"), "//s/x");
    due(".. with none ahead, twice", read(base, "/../../x"), "//s/x");
    due(".. with none ahead of a site", read(base, "//t/../x"), "//t/x");
    due(".. with an empty one", read(base, "/x//../y"), "//s/x/y");
    due(".. with an empty one that is the first", read("//s//b", "../x"), "//s/x");
    due(".. behind . goes with the one ahead of that", read(base, "x/./../y"), "//s/a/b/y");
    due(".. behind ..", read(base, "x/y/../../z"), "//s/a/b/z");
    due("from the first to the last", read(base, "/../x/../../y"), "//s/y");
    due("six behind .. with none ahead", read(base, "/../1/2/3/4/5/6"), "//s/1/2/3/4/5/6");
    due("seven behind .. with none ahead", read(base, "/../1/2/3/4/5/6/7"), "-1");
    due("how many behind .. with none ahead", new Desk().base("/../../../x"), 1);
    due("... stays", read(base, ".../x"), "//s/a/b/.../x");
    due("..x stays", read(base, "..x/.y"), "//s/a/b/..x/.y");
    due("dots of a query stay", read(base, "?.."), "//s/a/b/c?..");
  }

  private static void lastOneWent() {
    sentence("if the last one went so, an empty one comes in its place; of none one that is empty.");
    String base = "//s/a/b/c";
    due(".", read(base, "."), "//s/a/b/");
    due("..", read(base, ".."), "//s/a/");
    due("x/.", read(base, "x/."), "//s/a/b/x/");
    due("x/..", read(base, "x/.."), "//s/a/b/");
    due("../..", read(base, "../.."), "//s/");
    due("../../..", read(base, "../../.."), "//s/");
    due("/.", read(base, "/."), "//s/");
    due("/..", read(base, "/.."), "//s/");
    due("/x/..", read(base, "/x/.."), "//s/");
    due("//t/..", read(base, "//t/.."), "//t/");
    due("one segment", deskAt("//s/a").base(".."), 1);
    due("one that stands ahead of an empty last one", read(base, "x/../"), "//s/a/b/");
    due("with query and mark", read(base, "..?q#m"), "//s/a/?q#m");
    due("the empty one is the sixth", read(base, "/1/2/3/4/5/."), "//s/1/2/3/4/5/");
    due("the empty one is the seventh", read(base, "/1/2/3/4/5/6/."), "-1");
    due("the empty one in place of two", read(base, "/1/2/3/4/5/6/.."), "//s/1/2/3/4/5/");
  }

  private static void noAddress() {
    sentence("It is NO ADDRESS if it can't be read so, or has more than 6 SEGMENTS behind all that.");
    due("eight, six behind ..", read("/1/2/3/4/5/6/7/8/../../../6"), "//home/1/2/3/4/5/6");
    due("eight, seven behind ..", read("/1/2/3/4/5/6/7/8/../../7"), "-1");
    due("seven, six behind .", read("/1/2/3/./4/5/6"), "//home/1/2/3/4/5/6");
    due("eight, seven behind .", read("/1/2/3/./4/5/6/7"), "-1");
    due("of a base with six, six behind ..", read("//s/1/2/3/4/5/6", "../../x/y/z"), "//s/1/2/3/x/y/z");
    due("of a base with six, seven behind ..", read("//s/1/2/3/4/5/6", "../../x/y/z/"), "-1");
    due("one that is too long and goes", read("/abcdefghijklm/../x"), "-1");
    due("one with a wrong sign that goes", read("/A/../x"), "-1");
    for (String no : new String[] {"A", ":", "a:b", "//a:b", "?a?b", "?a/b", "#", "##", "#a#", "#a?b", "#a/b", "//", "///", "//A", "//a//A",
        "/a=b", "a&b", "a+b", "~", "\\", "%20"}) {
      for (String call : new String[] {"resolve", "base", "fetch"}) due(call + " of " + no, new Desk().call(call, no), -1);
      due("to= of " + no, serverAnswer("//a/ to=" + no + "\n"), -1005);
    }
    for (String no : new String[] {" ", "\n", "a b", "a\n", "?\n", "# m", "//a \n"})
      for (String call : new String[] {"resolve", "base", "fetch"}) due(call + " of " + no, new Desk().call(call, no), -1);
  }

  // Part III. SERVERS.

  private static void serverAddress() {
    sentence("SERVER TEXT: an ADDRESS with // and without MARK (as it is behind reading; against //home/), FIELDS with a blank ahead of each, byte 10, then the BODY, 0 to 1500 bytes.");
    due("the least of all", serverAnswer("//a/\n"), 1);
    due("a site alone", serverAnswer("//a\n"), 1);
    due("nothing", serverAnswer(""), -1000);
    due("byte 10 alone", serverAnswer("\n"), -1000);
    due("a path", serverAnswer("/a\n"), -1000);
    due("segments", serverAnswer("a\n"), -1000);
    due("a query", serverAnswer("?q\n"), -1000);
    due("a mark", serverAnswer("//a/#m\n"), -1000);
    due("an empty mark", serverAnswer("//a/#\n"), -1000);
    due("no blank", serverAnswer("//a/open\n"), 1);
    due("a blank and no field", serverAnswer("//a/ \n"), -1005);
    due("two blanks", serverAnswer("//a/  open\n"), -1005);
    due("a blank behind the last", serverAnswer("//a/ open \n"), -1010);
    due("a blank ahead of the address", serverAnswer(" //a/\n"), -1000);
    Desk x = deskAt("//b/x/y?q");
    x.server("//a/b/../c/.\nhere");
    due("as it is behind reading", x.fetch("//a/c/"), 4);
    x.server("//a\n12");
    due("as it is behind reading", x.fetch("//a/"), 2);
    x = desk("//a/?\nempty query");
    due("an empty query is one", x.fetch("//a/"), 0);
    due("an empty query is one", x.fetch("//a/?"), 11);
  }

  private static void bodySizes() {
    sentence("then the BODY, 0 to 1500 bytes.");
    Desk x = desk("//a/\n");
    due("0", x.fetch("//a"), 0);
    due("no byte", x.body(0), -1);
    x = desk("//a/\n\n");
    due("1, byte 10", x.fetch("//a"), 1);
    due("it", x.body(0), 10);
    due("no more", x.body(1), -1);
    x = desk("//a/\n" + "b".repeat(1499) + "c");
    due("1500", x.fetch("//a"), 1500);
    due("the first of 1500", x.body(0), 'b');
    due("the last of 1500", x.body(1499), 'c');
    due("beyond 1500", x.body(1500), -1);
    due("1501", serverAnswer("//a/\n" + "b".repeat(1501)), -2505);
  }

  private static void eachFieldOnce() {
    sentence("FIELDS, each at most once: age= NUMBER; cookie= NAME : NAME; to= REFERENCE (against the ADDRESS); open.");
    String[] all = {"age=5", "cookie=n:v", "to=x", "open"};
    for (String field : all) {
      due("once " + field, serverAnswer("//a/ " + field + "\n"), 1);
      due("twice " + field, serverAnswer("//a/ " + field + " " + field + "\n"), -1006 - field.length());
      String four = " " + all[0] + " " + all[1] + " " + all[2] + " " + all[3];
      due("all four", serverAnswer("//a/" + four + "\n"), 1);
      due("all four and " + field, serverAnswer("//a/" + four + " " + field + "\n"), -1005 - four.length());
    }
    due("all four from the last", serverAnswer("//a/ open to=x cookie=n:v age=5\n"), 1);
    due("age=0 twice", serverAnswer("//a/ age=0 age=0\n"), -1011);
    due("to= twice", serverAnswer("//a/ to= to=\n"), -1009);
    due("another cookie", serverAnswer("//a/ cookie=n:v cookie=m:w\n"), -1016);
    for (String no : new String[] {"ope", "openx", "open=", "OPEN", "age", "age=", "age5", "cookie", "cookie=", "cookie=n", "cookie=:", "cookie=n:",
        "cookie=:v", "cookie=n:v:w", "cookie=n=v", "to", "to:x", "to=#", "=", ":", "x"})
      due("no field " + no, serverAnswer("//a/ " + no + "\n"), -1005);
    Desk x = desk("//a/x/y?q to=\n");
    x.fetch("//a/x/y?q");
    due("an empty to is the address", x.written(3), "//a/x/y?q");
    x = deskAt("//b/");
    x.server("//a/x/y?q to=../z\n");
    x.fetch("//a/x/y?q");
    due("against the address", x.written(3), "//a/z");
  }

  private static void inPlaceOfOneThatWas() {
    sentence("It is the ANSWER at this ADDRESS (QUERY too), in place of one that was.");
    Desk x = new Desk();
    due("the first", x.server("//a/b open cookie=n:v to=//c/\nold"), 1);
    due("in its place", x.server("//a/b\nnewer"), 1);
    due("all of it is new", x.fetch("//a/b"), 5);
    due("no to of the old one", x.count(5), 0);
    due("no open of the old one", x.count(6), 0);
    due("no cookie of the old one", x.count(1), 0);
    due("an empty query is another", x.server("//a/b?\nq"), 2);
    due("a query is another", x.server("//a/b?q\nqq"), 3);
    due("an empty last segment is another", x.server("//a/b/\n"), 4);
    due("another site", x.server("//b/b\n"), 5);
    due("the same behind reading", x.server("//a/b/../b/c/..\n"), 5);
    due("the same query", x.server("//a/b?q\nnew"), 5);
    due("the others stay", x.fetch("//a/b?"), 1);
  }

  private static void answersAtMost() {
    sentence("ANSWERS are at most 12.");
    Desk x = new Desk();
    for (int i = 1; i <= 11; i++) x.server("//s/" + i + "\n");
    due("the twelfth", x.server("//s/12\ntwelve"), 12);
    due("a thirteenth", x.server("//s/13\nthirteen"), -1);
    due("twelve", x.count(0), 12);
    due("in place of the first of twelve", x.server("//s/1\none"), 12);
    due("in place of the last of twelve", x.server("//s/12\n12"), 12);
    due("the first", x.fetch("//s/1"), 3);
    due("the last", x.fetch("//s/12"), 2);
    due("the thirteenth is not there", x.fetch("//s/13"), 0);
  }

  private static void wrongAtPieces() {
    sentence("WRONG: at the first byte of the ADDRESS or FIELD that is none, or stands twice; at the length without byte 10; at byte 1501 of the BODY.");
    due("the address, wrong at its end", serverAnswer("//a/b/C open\n"), -1000);
    due("the address of seven", serverAnswer("//a/1/2/3/4/5/6/7\n"), -1000);
    due("the first field", serverAnswer("//a/b opened\n"), -1006);
    due("the second field", serverAnswer("//a/b open age=x\n"), -1011);
    due("the second that stands twice", serverAnswer("//a/b open age=1 open\n"), -1017);
    due("an empty field at byte 10", serverAnswer("//a/b \n"), -1006);
    due("the first of two wrong ones", serverAnswer("//a/b x y\n"), -1006);
    due("the address ahead of a field", serverAnswer("//a/B x\n"), -1000);
    due("no byte 10", serverAnswer("//a/b"), -1005);
    due("no byte 10 behind a field", serverAnswer("//a/b open"), -1010);
    due("no byte 10, a wrong field", serverAnswer("//a/b opened"), -1006);
    due("no byte 10 behind a blank", serverAnswer("//a/b "), -1006);
    due("no byte 10, 2000 bytes", serverAnswer("//a/ to=" + "../".repeat(664)), -3000);
    due("byte 1501", serverAnswer("//a/b\n" + "\n".repeat(1501)), -2506);
    due("byte 1501 behind fields", serverAnswer("//a/b open\n" + "b".repeat(1501)), -2511);
    due("byte 1501 of more", serverAnswer("//a/b\n" + "b".repeat(1994)), -2506);
    due("a wrong field ahead of byte 1501", serverAnswer("//a/b x\n" + "b".repeat(1501)), -1006);
  }

  private static void clockAtFirst() {
    sentence("THE CLOCK is 0 at first, and goes on by tick().");
    Desk x = new Desk();
    due("at first", x.count(4), 0);
    x.fetch("//a");
    x.base("//b");
    due("by nothing else", x.count(4), 0);
    x.tick(1000);
    x.tick(1);
    due("by ticks", x.count(4), 1001);
  }

  /** A desk with so many cookies, c1 and on with the value v: the odd ones of the site s1, the even ones of s0. */
  private static Desk deskOfCookies(int many) {
    Desk x = new Desk();
    for (int i = 1; i <= many; i++) {
      x.server("//s" + i % 2 + "/ cookie=c" + i + ":v\n");
      x.fetch("//s" + i % 2);
    }
    return x;
  }

  private static void fetchCookie(Desk x, String site, String cookie) {
    x.server("//" + site + "/ cookie=" + cookie + "\n");
    x.fetch("//" + site);
  }

  private static String cookiesOf(Desk x, String site) {
    x.fetch("//" + site + "/none");
    return x.written(2);
  }

  private static void cookiesAtMost() {
    sentence("COOKIES: of a SITE, a NAME and a VALUE (a NAME), at most 20 in all; another of the same SITE and NAME stands in its place.");
    Desk x = deskOfCookies(3);
    fetchCookie(x, "s1", "c1:w");
    due("in its place", x.count(1), 3);
    due("the place and the value", cookiesOf(x, "s1"), "c1=w;c3=v");
    fetchCookie(x, "s0", "c1:u");
    due("of another site", x.count(1), 4);
    due("of another site", cookiesOf(x, "s0"), "c2=v;c1=u");
    due("the first site's stays", cookiesOf(x, "s1"), "c1=w;c3=v");
    due("19", deskOfCookies(19).count(1), 19);
    x = deskOfCookies(20);
    due("20", x.count(1), 20);
    fetchCookie(x, "s2", "c1:w");
    due("21", x.count(1), 20);
    fetchCookie(x, "s0", "c20:w");
    due("in place of the twentieth", x.count(1), 20);
    due("its value", cookiesOf(x, "s0").endsWith(";c18=v;c20=w"), true);
  }

  private static void markOfNoMatter() {
    sentence("TO FETCH an ADDRESS (its MARK is of no matter)");
    Desk x = desk("//a/ age=9\nbody", "//b/ to=//a#n\n");
    due("no mark", x.fetch("//a"), 4);
    due("KEPT for a mark", x.fetch("//a#m") + x.count(7), 5);
    due("KEPT for another mark", x.fetch("//a#n") + x.count(7), 5);
    due("KEPT for a mark of to", x.fetch("//b#k") + x.count(7), 5);
    due("one is KEPT", x.count(2), 1);
    x.tick(9);
    due("there for a mark", x.fetch("//a#m"), 4);
    due("KEPT behind a mark", x.fetch("//a") + x.count(7), 5);
    due("a request has none", x.written(1), "//a/");
  }

  private static void freshOrNot() {
    sentence("if it is KEPT and its TIME is above THE CLOCK, that is the answer.");
    due("a tick ahead of its TIME", keptBehind("3", 2), 1);
    due("at its TIME", keptBehind("3", 3), 0);
    due("behind its TIME", keptBehind("3", 4), 0);
    due("no tick", keptBehind("1", 0), 1);
    due("one tick", keptBehind("1", 1), 0);
    Desk x = new Desk();
    x.tick(1000);
    x.servers("//a/ age=2\nold");
    x.fetch("//a/#m");
    x.server("//a/ age=2\nnewer");
    x.tick(1);
    due("the clock and age: fresh, of another mark", x.fetch("//a/#n"), 3);
    x.tick(1);
    due("the clock and age: stale", x.fetch("//a"), 5);
    x.tick(1);
    due("kept anew with a TIME of its own", x.fetch("//a") + x.count(7), 6);
    due("another query is not KEPT", x.fetch("//a?"), 0);
  }

  private static void requestsTold() {
    sentence("Else it is a REQUEST (they are counted; the last one's ADDRESS and the COOKIES of the SITE as it began, in order as they came, are told)");
    Desk x = desk("//a/ cookie=n:v age=5\n", "//a/b cookie=m:w\n");
    x.fetch("//a#m");
    due("one", x.count(3), 1);
    due("its address, without a mark", x.written(1), "//a/");
    due("the cookies as it began, none", x.written(2), "");
    x.fetch("//a/b");
    due("the cookies as it began, one", x.written(2), "n=v");
    x.fetch("//a");
    due("a KEPT one is none", x.count(3), 2);
    due("the last one's address stays", x.written(1), "//a/b");
    due("the last one's cookies stay", x.written(2), "n=v");
    x.fetch("//a/c?");
    due("one without an ANSWER counts", x.count(3), 3);
    due("its address", x.written(1), "//a/c?");
    due("in order", x.written(2), "n=v;m=w");
    x.fetch("//b");
    due("of its site alone", x.written(2), "");
    x.fetch("A");
    x.fetch("a\t");
    due("NO ADDRESS and WRONG are none", x.count(3), 4);
    String full = cookiesOf(deskOfCookies(20), "s1");
    due("ten of twenty", full, "c1=v;c3=v;c5=v;c7=v;c9=v;c11=v;c13=v;c15=v;c17=v;c19=v");
  }

  private static void emptyAnswer() {
    sentence("the ANSWER there, or EMPTY (no BODY, no FIELDS) if there is none;");
    Desk x = desk("//a/ open\nbody");
    x.fetch("//a");
    due("there", x.count(6), 1);
    due("EMPTY", x.fetch("//a/b"), 0);
    due("no body", x.body(0), -1);
    due("no open", x.count(6), 0);
    due("no cookie", x.count(1), 0);
    due("no age", x.count(2), 0);
    due("no to", x.count(5), 0);
    due("it is no ANSWER", x.count(0), 1);
  }

  private static void cookieIsPut() {
    sentence("its cookie is put (if there are 20, and it is new, it is not);");
    Desk x = deskOfCookies(19);
    fetchCookie(x, "s2", "n:v");
    due("the twentieth", x.count(1), 20);
    fetchCookie(x, "s2", "m:v");
    due("a new one of 20", cookiesOf(x, "s2"), "n=v");
    fetchCookie(x, "s2", "n:w");
    due("not a new one of 20", cookiesOf(x, "s2"), "n=w");
    x.forget("s0");
    due("19 again", x.count(1), 19);
    fetchCookie(x, "s2", "m:v");
    due("a new one of 19", cookiesOf(x, "s2"), "n=w;m=v");
    x = desk("//a/ cookie=n:v age=5\n");
    x.fetch("//a");
    x.forget("a");
    x.fetch("//a");
    due("a KEPT one's is not put again", x.count(1), 0);
  }

  private static void ageAboveZero() {
    sentence("if it has an age above 0, it is KEPT with the TIME THE CLOCK and age");
    String[] fields = {"", " age=0", " age=0000", " age=1", " age=9999"};
    int[] kept = {0, 0, 0, 1, 1};
    for (int i = 0; i < fields.length; i++) {
      Desk x = desk("//a/" + fields[i] + "\n");
      x.fetch("//a");
      due("kept with" + fields[i], x.count(2), kept[i]);
      x.fetch("//a");
      due("requests with" + fields[i], x.count(3), 2 - kept[i]);
    }
    Desk x = desk("//a/ age=1\n");
    x.fetch("//a");
    x.tick(1);
    x.server("//a/ age=0\n");
    x.fetch("//a");
    due("age=0 leaves the stale one", x.count(2), 1);
    x.fetch("//a");
    due("and it stays stale", x.count(7), 0);
  }

  /** A desk that has fetched //a/1 and on, so many, all KEPT; there are answers for ten. */
  private static Desk deskOfKept(int many, String age) {
    Desk x = new Desk();
    for (int i = 1; i <= 10; i++) x.server("//a/" + i + " age=" + age + "\n");
    for (int i = 1; i <= many; i++) x.fetch("//a/" + i);
    return x;
  }

  private static int isKept(Desk x, String address) {
    x.fetch(address);
    return x.count(7);
  }

  private static void keptAtMost() {
    sentence("(8 at most are; in place of the one for its ADDRESS, else a ninth in place of the one that was KEPT longest ago)");
    due("7", deskOfKept(7, "9").count(2), 7);
    Desk x = deskOfKept(2, "1");
    x.tick(1);
    x.fetch("//a/1");
    due("in place of its own, of two", x.count(2), 2);
    due("the newer one's TIME", isKept(x, "//a/1"), 1);
    x = deskOfKept(8, "9");
    due("8", x.count(2), 8);
    due("the first of 8 is there", isKept(x, "//a/1"), 1);
    x.fetch("//a/9");
    due("9", x.count(2), 8);
    for (int i = 2; i <= 9; i++) due("still there, " + i, isKept(x, "//a/" + i), 1);
    due("the first is not", isKept(x, "//a/1"), 0);
    due("then the second is not", isKept(x, "//a/2"), 0);
    x = deskOfKept(10, "9");
    due("the second is not, of ten", isKept(x, "//a/2"), 0);
    x = deskOfKept(8, "9");
    x.tick(9);
    x.fetch("//a/9");
    due("stale ones are in the eight", x.count(2), 8);
    x = deskOfKept(8, "1");
    x.tick(1);
    x.server("//a/1 age=9\n");
    x.fetch("//a/1");
    due("in place of its own", x.count(2), 8);
    x.server("//a/9 age=9\n");
    x.fetch("//a/9");
    due("still eight", x.count(2), 8);
    due("kept anew is not longest ago", isKept(x, "//a/1"), 1);
    due("the ninth", isKept(x, "//a/9"), 1);
  }

  private static void followedAlsoKept() {
    sentence("An ANSWER with to, also a KEPT one, is FOLLOWED by fetching that ADDRESS;");
    Desk x = desk("//a/1 age=9 to=2\n", "//a/2 age=9 to=3\n", "//a/3 open\nhere");
    due("not KEPT", x.fetch("//a/1"), 4);
    due("followed", x.count(5), 2);
    due("requests", x.count(3), 3);
    due("KEPT", x.fetch("//a/1"), 4);
    due("followed", x.count(5), 2);
    due("one request more", x.count(3), 4);
    due("the last one was not KEPT", x.count(7), 0);
    due("none followed", x.fetch("//a/3") + x.count(5), 4);
    x = desk("//a/1 to=2 open\nfirst");
    due("to where no ANSWER is", x.fetch("//a/1"), 0);
    due("followed", x.count(5), 1);
    due("not open", x.count(6), 0);
    due("there", x.written(3), "//a/2");
  }

  /** A desk with a chain from //a/1: so many answers with to, each with the fields, and the end behind them. */
  private static Desk deskOfChain(int many, String fields) {
    Desk x = new Desk();
    for (int i = 1; i <= many; i++) x.server("//a/" + i + " to=" + (i + 1) + fields + "\nto");
    x.server("//a/" + (many + 1) + " open" + fields + "\nend");
    return x;
  }

  private static void sixthTo() {
    sentence("the answer that has the sixth to behind one another is EMPTY (its ADDRESS the last one FOLLOWED).");
    for (int many = 0; many <= 8; many++) {
      boolean ends = many <= 5;
      for (String fields : new String[] {"", " age=9"}) {
        Desk x = deskOfChain(many, fields);
        for (int time = 1; time <= 2; time++) {
          String run = many + " to, " + fields + ", fetched " + time + ": ";
          due(run + "body", x.fetch("//a/1#m"), ends ? 3 : 0);
          due(run + "bytes", x.body(), ends ? "end" : "");
          due(run + "followed", x.count(5), Math.min(many, 5));
          due(run + "open", x.count(6), ends ? 1 : 0);
          due(run + "address", x.written(3), "//a/" + (Math.min(many, 5) + 1) + "#m");
          due(run + "requests", x.count(3), (Math.min(many, 5) + 1) * (fields.isEmpty() ? time : 1));
        }
      }
    }
    Desk x = deskOfChain(6, " cookie=n:v");
    x.fetch("//a/2");
    due("from the second on it is the fifth", x.body(), "end");
    x.fetch("//a/1");
    due("the last request", x.written(1), "//a/6");
  }

  // The promises.

  private static void newObject() {
    sentence("THE BASE is //home/ ; no ANSWERS, no COOKIES, nothing KEPT, THE CLOCK 0, nothing fetched.");
    Desk x = new Desk();
    due("NONE", NetDesk.NONE, -1);
    for (int what = 0; what <= 7; what++) due("count " + what, x.count(what), 0);
    due("body", x.body(0), -1);
    due("the base", x.written(0), "//home/");
    for (int what = 1; what <= 3; what++) due("write " + what, x.written(what), "");
    due("the tape", x.end(1), -1);
    due("no cookies of home", x.forget("home"), -1);
    deskAt("//other/").servers("//a/\n").tick(1);
    due("no desk has what another has", seen(new Desk()), seen(new Desk()));
    due("no desk has what another has", new Desk().count(0), 0);
  }

  private static void feedHighestFirst() {
    sentence("Twenty bytes come behind those on THE TAPE, the highest of each int first: how many there are;");
    for (int place = 0; place < 20; place++) {
      int[] words = {0x61616161, 0x61616161, 0x61616161, 0x61616161, 0x61616161};
      words[place / 4] |= 0x80 << (24 - 8 * (place % 4));
      Desk x = new Desk();
      due("feed", x.feed(words[0], words[1], words[2], words[3], words[4]), 20);
      due("a bad byte at " + place, x.call("resolve"), -1000 - place);
    }
    Desk x = new Desk();
    x.feed(0x61626364, 0x65666768, 0x2F6D6E6F, 0x70717273, 0x7475762F);
    due("behind those", x.feed(0x30313233, 0x34353637, 0x38392D2F, 0x5F2E787A, -1), 40);
    x.end(36);
    due("how many", x.call("resolve"), 43);
    due("all in order", x.out(), "//home/abcdefgh/mnopqrstuv/0123456789-/_.xz");
    for (int edge : new int[] {Integer.MIN_VALUE, -1, 0, 1, Integer.MAX_VALUE})
      due("feed of " + edge, new Desk().feed(edge, edge, edge, edge, edge), 20);
    x = new Desk();
    x.feed(-1, -1, -1, -1, -1);
    due("bytes of -1", x.call("resolve"), -1000);
    x.feed(0x617F6161, 0, 0, 0, 0);
    due("byte 127", x.call("resolve"), -1001);
  }

  private static void feedTooMany() {
    sentence("NONE, and none come, if there would be more than 2000.");
    for (int there : new int[] {1979, 1980, 1981, 1999, 2000}) {
      Desk x = new Desk().put("a".repeat(there));
      due("feed behind " + there, x.feed(0, 0, 0, 0, 0), there <= 1980 ? there + 20 : -1);
      int now = there <= 1980 ? there + 20 : there;
      due("one more is not there", x.end(now + 1), -1);
      due("so many are there", x.end(now), now);
      due("their bytes", x.call("resolve"), there <= 1980 ? -1000 - there : -1);
    }
  }

  private static void endTooMany() {
    sentence("THE TAPE has its first n bytes alone: n; NONE if there are not so many, or n is below 0.");
    Desk x = new Desk();
    due("end(0) of none", x.end(0), 0);
    due("end(1) of none", x.end(1), -1);
    x.feed(0x61626364, 0x65666768, 0x61626364, 0x65666768, 0x61626364);
    for (int n : new int[] {21, 2000, 2001, Integer.MAX_VALUE, -1, -20, Integer.MIN_VALUE}) due("end(" + n + ") of 20", x.end(n), -1);
    due("a refused end leaves all", x.end(20), 20);
    due("end(19)", x.end(19), 19);
    due("the twentieth went", x.end(20), -1);
    due("end(1)", x.end(1), 1);
    due("feed goes on behind it", x.feed(0x7A000000, 0, 0, 0, 0), 21);
    x.end(2);
    x.call("resolve");
    due("the first alone, then what came", x.out(), "//home/az");
    x.put("abc");
    due("end(0)", x.end(0), 0);
    due("none", x.end(1), -1);
  }

  private static void outNoneSuch() {
    sentence("Byte i of THE OUT (what was written there latest, at first nothing); NONE if there is none such.");
    Desk x = new Desk();
    due("at first", x.out(0), -1);
    due("at first", x.out(-1), -1);
    x.resolve("//abc/de");
    due("the first", x.out(0), '/');
    due("the last", x.out(7), 'e');
    for (int i : new int[] {8, 9, 2000, Integer.MAX_VALUE, -1, Integer.MIN_VALUE}) due("out(" + i + ")", x.out(i), -1);
    x.resolve("//a");
    due("the latest, which is shorter", x.out(), "//a/");
    due("none of what was longer", x.out(4), -1);
    x.write(1);
    due("nothing, written", x.out(0), -1);
    x.write(0);
    due("the base, written", x.out(), "//home/");
    x.servers("//a/\nbody");
    x.fetch("//a");
    x.base("b");
    x.forget("c");
    due("other calls write nothing", x.out(), "//home/");
  }

  private static void resolveNone() {
    sentence("written to THE OUT as an ADDRESS: how many bytes; NONE if it is NO ADDRESS. WRONG for bytes alone.");
    Desk x = new Desk();
    due("an address", x.resolve("a?q#m"), 12);
    due("NO ADDRESS", x.resolve("?q?"), -1);
    due("the out stays", x.out(), "//home/a?q#m");
    due("nothing is an address", x.resolve(""), 7);
    due("a wrong byte", x.resolve("?q?\t"), -1003);
    due("the out stays", x.out(), "//home/");
    due("the base stays", x.written(0), "//home/");
  }

  private static void baseStays() {
    sentence("how many SEGMENTS it has; NONE, and THE BASE stays, if it is NO ADDRESS. WRONG for bytes alone.");
    Desk x = new Desk();
    due("nothing", x.base(""), 1);
    due("three", x.base("a/b/c?q#m"), 3);
    for (String no : new String[] {"A", "//9", "1/2/3/4/5", "#", "?\n"}) {
      due("NO ADDRESS " + no, x.base(no), -1);
      due("the base stays", x.written(0), "//home/a/b/c?q#m");
    }
    due("a wrong byte", x.base("x\0"), -1001);
    due("the base stays", x.written(0), "//home/a/b/c?q#m");
    due("six", x.base("1/2/3/4"), 6);
    due("the base now, no query", x.written(0), "//home/a/b/1/2/3/4");
  }

  private static void serverNone() {
    sentence("SERVER TEXT: how many ANSWERS there are. WRONG; NONE if there would be more than 12.");
    Desk x = new Desk();
    for (int i = 1; i <= 12; i++) due("answer " + i, x.server("//s/" + i + " age=9 cookie=n:v\n" + i), i);
    due("a thirteenth", x.server("//s/0\nbody"), -1);
    due("a thirteenth by its query", x.server("//s/1?\nbody"), -1);
    due("twelve stay", x.count(0), 12);
    due("WRONG is ahead of NONE", x.server("//s/0 x\n"), -1006);
    due("no byte 10 is ahead of NONE", x.server("//s/0"), -1005);
    due("in place of one", x.server("//s/1/../1\n"), 12);
    due("all others stay", x.fetch("//s/12"), 2);
  }

  private static void fetchNone() {
    sentence("how many bytes the BODY has that came (of the last ADDRESS FOLLOWED); NONE if it is NO ADDRESS. WRONG for bytes alone.");
    String asItWas = seen(richDesk());
    for (String no : new String[] {"A", "//", "#", "?q?", "1/2/3/4/5/6/7", "a\n"}) {
      Desk x = richDesk();
      due("NO ADDRESS " + no, x.fetch(no), -1);
      due("all behind it", seen(x), asItWas);
    }
    Desk x = desk("//home/\nhome", "//a/ to=//home\nlong body", "//b/\n");
    due("nothing is the base", x.fetch(""), 4);
    due("of the last one", x.fetch("//a"), 4);
    due("no bytes", x.fetch("//b"), 0);
    due("no answer", x.fetch("//c"), 0);
    due("a wrong byte", x.fetch("//a\t"), -1003);
  }

  private static void bodyNoneSuch() {
    sentence("Byte i of the BODY that was fetched latest; NONE if there is none such.");
    Desk x = desk("//a/\nxyz", "//b/\n", "//c/\nw");
    due("ahead of any", x.body(0), -1);
    x.fetch("//a");
    due("the first", x.body(0), 'x');
    due("the last", x.body(2), 'z');
    for (int i : new int[] {3, 1500, Integer.MAX_VALUE, -1, Integer.MIN_VALUE}) due("body(" + i + ")", x.body(i), -1);
    x.server("//a/\nother");
    due("as it came", x.body(), "xyz");
    x.fetch("A");
    x.fetch("//b\t");
    due("NO ADDRESS and WRONG bring none", x.body(), "xyz");
    x.fetch("//c");
    due("the latest, which is shorter", x.body(), "w");
    x.fetch("//b");
    due("no bytes", x.body(0), -1);
    x.fetch("//c");
    x.fetch("//d");
    due("no answer", x.body(0), -1);
  }

  private static void tickRange() {
    sentence("THE CLOCK goes on by n, 0 .. 1000: what it is; NONE for another n.");
    Desk x = new Desk();
    due("tick(0)", x.tick(0), 0);
    due("tick(1)", x.tick(1), 1);
    due("tick(1000)", x.tick(1000), 1001);
    for (int n : new int[] {1001, Integer.MAX_VALUE, -1, -1000, Integer.MIN_VALUE}) {
      due("tick(" + n + ")", x.tick(n), -1);
      due("the clock stays", x.count(4), 1001);
    }
    due("tick(999)", x.tick(999), 2000);
  }

  private static void forgetNone() {
    sentence("The last COOKIE of a SITE goes (the text is its NAME): how many there are left of it; NONE if it has none.");
    Desk x = new Desk();
    due("of none at all", x.forget("a"), -1);
    fetchCookie(x, "a", "n:v");
    fetchCookie(x, "a", "m:w");
    fetchCookie(x, "b", "k:z");
    due("of a site with none", x.forget("c"), -1);
    due("all stay", x.count(1), 3);
    due("the last of two", x.forget("a"), 1);
    due("the first is left", cookiesOf(x, "a"), "n=v");
    due("the last of one", x.forget("a"), 0);
    due("of none", x.forget("a"), -1);
    due("the other site's stays", cookiesOf(x, "b"), "k=z");
    due("one in all", x.count(1), 1);
    x = deskOfCookies(20);
    due("nine of ten", x.forget("s0"), 9);
    due("the first of them stays", cookiesOf(x, "s0"), "c2=v;c4=v;c6=v;c8=v;c10=v;c12=v;c14=v;c16=v;c18=v");
  }

  private static void forgetWrong() {
    sentence("WRONG at the first byte with which it can't go on to be a NAME.");
    due("nothing", new Desk().forget(""), -1000);
    due("a digit first", new Desk().forget("0a"), -1000);
    due("a capital first", new Desk().forget("Aa"), -1000);
    due("a sign first", new Desk().forget("//a"), -1000);
    due("a sign second", new Desk().forget("a-"), -1001);
    due("byte 10 behind it", new Desk().forget("a\n"), -1001);
    due("a blank between", new Desk().forget("ab c"), -1002);
    due("a sign eighth", new Desk().forget("abcdefg_"), -1007);
    due("eight", new Desk().forget("abcdefgh"), -1);
    due("a ninth", new Desk().forget("abcdefghi"), -1008);
    due("a ninth that is a sign", new Desk().forget("abcdefgh_"), -1008);
    due("a tenth", new Desk().forget("abcdefgh12"), -1008);
    due("2000 letters", new Desk().forget("a".repeat(2000)), -1008);
    for (int c = 10; c <= 126; c = c == 10 ? 32 : c + 1) {
      due("first " + (char) c, new Desk().forget("" + (char) c), c >= 'a' && c <= 'z' ? -1 : -1000);
      due("second " + (char) c, new Desk().forget("a" + (char) c), isIn(c, "") ? -1 : -1001);
    }
  }

  private static void writeAheadOfAny() {
    sentence("THE BASE (0), the last REQUEST's ADDRESS (1; nothing ahead of any), its COOKIES as NAME=VALUE with ; between (2), the last ADDRESS FOLLOWED by the latest fetch() with the first one's MARK (3; nothing ahead of any), written to THE OUT");
    Desk x = new Desk();
    for (int what = 1; what <= 3; what++) {
      x.write(0);
      due("write(" + what + ") ahead of any", x.write(what), 0);
      due("the out is empty", x.out(0), -1);
    }
    x.fetch("A");
    x.fetch("\t");
    due("a refused fetch is none", x.written(1), "");
    due("a refused fetch is none", x.written(3), "");
    x.servers("//a/ cookie=n:v to=//b#no\n", "//a/c cookie=abcdefgh:hgfedcba\n");
    x.fetch("//a#m");
    due("the last request", x.written(1), "//b/");
    due("the last address, the first one's mark", x.written(3), "//b/#m");
    due("no cookies", x.written(2), "");
    x.fetch("//a");
    due("no mark, as the first one", x.written(3), "//b/");
    x.fetch("//a/c");
    due("one cookie, no ;", x.written(2), "n=v");
    x.fetch("//a/c");
    due("two, one ;", x.written(2), "n=v;abcdefgh=hgfedcba");
    x.base("//b/?#m");
    due("the base with its mark", x.written(0), "//b/?#m");
  }

  private static void writeOther() {
    sentence("written to THE OUT: how many bytes; NONE for another what.");
    Desk x = new Desk();
    due("how many", x.write(0), 7);
    for (int what : new int[] {-1, 4, 5, 7, Integer.MAX_VALUE, Integer.MIN_VALUE}) {
      due("write(" + what + ")", x.write(what), -1);
      due("the out stays", x.out(), "//home/");
    }
    String longest = "//abcdefgh" + "/abcdefghijkl".repeat(6) + "?" + Q40 + "#hgfedcba";
    due("the longest base", deskAt(longest).write(0), 138);
    x = new Desk();
    for (int i = 10; i <= 29; i++) fetchCookie(x, "site", "name56" + i + ":value678");
    x.fetch("//site");
    due("the most cookies", x.write(2), 20 * 17 + 19);
  }

  private static void countsAheadOfAny() {
    sentence("5: how many were FOLLOWED by the latest fetch() (0 ahead of any), 6: 1 if what came then is open, else 0, 7: 1 if it was KEPT (the last one), else 0;");
    Desk x = desk("//a/ to=//b\n", "//b/ open age=9\n", "//c/\n");
    for (int what = 5; what <= 7; what++) due("count(" + what + ") ahead of any", x.count(what), 0);
    x.fetch("//a");
    due("followed", x.count(5), 1);
    due("open", x.count(6), 1);
    due("not KEPT", x.count(7), 0);
    x.fetch("//a");
    due("the last one was KEPT", x.count(7), 1);
    due("open, KEPT", x.count(6), 1);
    x.fetch("A");
    x.fetch("\t");
    due("a refused fetch is none", x.count(5) + x.count(6) + x.count(7), 3);
    x.fetch("//c");
    for (int what = 5; what <= 7; what++) due("count(" + what + ") by the latest", x.count(what), 0);
    x = desk("//a/ age=9 to=//b\n", "//c/ age=9\n");
    x.fetch("//a");
    x.fetch("//a");
    due("the first one was KEPT, the last one not", x.count(7), 0);
    x.fetch("//c");
    x.fetch("//c");
    due("KEPT", x.count(7), 1);
    due("KEPT, not open", x.count(6), 0);
  }

  private static void countsInAll() {
    sentence("What 0: ANSWERS, 1: COOKIES, 2: KEPT answers (stale ones, too), 3: REQUESTS, 4: THE CLOCK,");
    Desk x = desk("//a/ age=1 cookie=n:v\n", "//b/\n");
    x.fetch("//a");
    x.fetch("//b");
    x.fetch("//c");
    due("kept", x.count(2), 1);
    x.tick(5);
    due("stale, too", x.count(2), 1);
    due("answers", x.count(0), 2);
    due("cookies", x.count(1), 1);
    due("requests", x.count(3), 3);
    due("the clock", x.count(4), 5);
  }

  private static void countOther() {
    sentence("else 0; NONE for another what.");
    Desk x = new Desk();
    for (int what : new int[] {-1, 8, 9, Integer.MAX_VALUE, Integer.MIN_VALUE}) due("count(" + what + ")", x.count(what), -1);
    due("count(7) is one", x.count(7), 0);
  }
}
